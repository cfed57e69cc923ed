theorem dX0_init_0 : decode cX0_init 0 = .ok (.aload_n 0, 1) := by decide +kernel
theorem dX0_init_1 : decode cX0_init 1 = .ok (.invokespecial 1, 3) := by decide +kernel
theorem dX0_init_4 : decode cX0_init 4 = .ok (.aload_n 0, 1) := by decide +kernel
theorem dX0_init_5 : decode cX0_init 5 = .ok (.aload_n 1, 1) := by decide +kernel
theorem dX0_init_6 : decode cX0_init 6 = .ok (.putfield 7, 3) := by decide +kernel
theorem dX0_init_9 : decode cX0_init 9 = .ok (.return_, 1) := by decide +kernel
theorem dX0_take_0 : decode cX0_take 0 = .ok (.aload_n 0, 1) := by decide +kernel
theorem dX0_take_1 : decode cX0_take 1 = .ok (.aload_n 1, 1) := by decide +kernel
theorem dX0_take_2 : decode cX0_take 2 = .ok (.iload_n 3, 1) := by decide +kernel
theorem dX0_take_3 : decode cX0_take 3 = .ok (.invokevirtual 13, 3) := by decide +kernel
theorem dX0_take_6 : decode cX0_take 6 = .ok (.putfield 19, 3) := by decide +kernel
theorem dX0_take_9 : decode cX0_take 9 = .ok (.aload_n 0, 1) := by decide +kernel
theorem dX0_take_10 : decode cX0_take 10 = .ok (.aload_n 1, 1) := by decide +kernel
theorem dX0_take_11 : decode cX0_take 11 = .ok (.aload_n 2, 1) := by decide +kernel
theorem dX0_take_12 : decode cX0_take 12 = .ok (.getfield 22, 3) := by decide +kernel
theorem dX0_take_15 : decode cX0_take 15 = .ok (.iload_n 3, 1) := by decide +kernel
theorem dX0_take_16 : decode cX0_take 16 = .ok (.iaload, 1) := by decide +kernel
theorem dX0_take_17 : decode cX0_take 17 = .ok (.invokevirtual 28, 3) := by decide +kernel
theorem dX0_take_20 : decode cX0_take 20 = .ok (.putfield 31, 3) := by decide +kernel
theorem dX0_take_23 : decode cX0_take 23 = .ok (.aload_n 0, 1) := by decide +kernel
theorem dX0_take_24 : decode cX0_take 24 = .ok (.aload_n 2, 1) := by decide +kernel
theorem dX0_take_25 : decode cX0_take 25 = .ok (.getfield 33, 3) := by decide +kernel
theorem dX0_take_28 : decode cX0_take 28 = .ok (.iload_n 3, 1) := by decide +kernel
theorem dX0_take_29 : decode cX0_take 29 = .ok (.laload, 1) := by decide +kernel
theorem dX0_take_30 : decode cX0_take 30 = .ok (.putfield 37, 3) := by decide +kernel
theorem dX0_take_33 : decode cX0_take 33 = .ok (.aload_n 0, 1) := by decide +kernel
theorem dX0_take_34 : decode cX0_take 34 = .ok (.aload_n 1, 1) := by decide +kernel
theorem dX0_take_35 : decode cX0_take 35 = .ok (.getfield 40, 3) := by decide +kernel
theorem dX0_take_38 : decode cX0_take 38 = .ok (.putfield 43, 3) := by decide +kernel
theorem dX0_take_41 : decode cX0_take 41 = .ok (.return_, 1) := by decide +kernel
theorem dX0_isMeant_0 : decode cX0_isMeant 0 = .ok (.aload_n 0, 1) := by decide +kernel
theorem dX0_isMeant_1 : decode cX0_isMeant 1 = .ok (.getfield 7, 3) := by decide +kernel
theorem dX0_isMeant_4 : decode cX0_isMeant 4 = .ok (.getfield 44, 3) := by decide +kernel
theorem dX0_isMeant_7 : decode cX0_isMeant 7 = .ok (.iload_n 1, 1) := by decide +kernel
theorem dX0_isMeant_8 : decode cX0_isMeant 8 = .ok (.iaload, 1) := by decide +kernel
theorem dX0_isMeant_9 : decode cX0_isMeant 9 = .ok (.aload_n 0, 1) := by decide +kernel
theorem dX0_isMeant_10 : decode cX0_isMeant 10 = .ok (.getfield 19, 3) := by decide +kernel
theorem dX0_isMeant_13 : decode cX0_isMeant 13 = .ok (.iand, 1) := by decide +kernel
theorem dX0_isMeant_14 : decode cX0_isMeant 14 = .ok (.ifCond .ne 7, 3) := by decide +kernel
theorem dX0_isMeant_17 : decode cX0_isMeant 17 = .ok (.iconst 1, 1) := by decide +kernel
theorem dX0_isMeant_18 : decode cX0_isMeant 18 = .ok (.goto 4, 3) := by decide +kernel
theorem dX0_isMeant_21 : decode cX0_isMeant 21 = .ok (.iconst 0, 1) := by decide +kernel
theorem dX0_isMeant_22 : decode cX0_isMeant 22 = .ok (.ireturn, 1) := by decide +kernel
theorem dX0_isBroken_0 : decode cX0_isBroken 0 = .ok (.aload_n 1, 1) := by decide +kernel
theorem dX0_isBroken_1 : decode cX0_isBroken 1 = .ok (.getfield 49, 3) := by decide +kernel
theorem dX0_isBroken_4 : decode cX0_isBroken 4 = .ok (.iload_n 2, 1) := by decide +kernel
theorem dX0_isBroken_5 : decode cX0_isBroken 5 = .ok (.iaload, 1) := by decide +kernel
theorem dX0_isBroken_6 : decode cX0_isBroken 6 = .ok (.aload_n 0, 1) := by decide +kernel
theorem dX0_isBroken_7 : decode cX0_isBroken 7 = .ok (.getfield 31, 3) := by decide +kernel
theorem dX0_isBroken_10 : decode cX0_isBroken 10 = .ok (.iand, 1) := by decide +kernel
theorem dX0_isBroken_11 : decode cX0_isBroken 11 = .ok (.ifCond .ne 24, 3) := by decide +kernel
theorem dX0_isBroken_14 : decode cX0_isBroken 14 = .ok (.aload_n 0, 1) := by decide +kernel
theorem dX0_isBroken_15 : decode cX0_isBroken 15 = .ok (.getfield 37, 3) := by decide +kernel
theorem dX0_isBroken_18 : decode cX0_isBroken 18 = .ok (.aload_n 1, 1) := by decide +kernel
theorem dX0_isBroken_19 : decode cX0_isBroken 19 = .ok (.getfield 33, 3) := by decide +kernel
theorem dX0_isBroken_22 : decode cX0_isBroken 22 = .ok (.iload_n 2, 1) := by decide +kernel
theorem dX0_isBroken_23 : decode cX0_isBroken 23 = .ok (.laload, 1) := by decide +kernel
theorem dX0_isBroken_24 : decode cX0_isBroken 24 = .ok (.lxor, 1) := by decide +kernel
theorem dX0_isBroken_25 : decode cX0_isBroken 25 = .ok (.aload_n 0, 1) := by decide +kernel
theorem dX0_isBroken_26 : decode cX0_isBroken 26 = .ok (.getfield 43, 3) := by decide +kernel
theorem dX0_isBroken_29 : decode cX0_isBroken 29 = .ok (.land, 1) := by decide +kernel
theorem dX0_isBroken_30 : decode cX0_isBroken 30 = .ok (.lconst 0, 1) := by decide +kernel
theorem dX0_isBroken_31 : decode cX0_isBroken 31 = .ok (.lcmp, 1) := by decide +kernel
theorem dX0_isBroken_32 : decode cX0_isBroken 32 = .ok (.ifCond .eq 7, 3) := by decide +kernel
theorem dX0_isBroken_35 : decode cX0_isBroken 35 = .ok (.iconst 1, 1) := by decide +kernel
theorem dX0_isBroken_36 : decode cX0_isBroken 36 = .ok (.goto 4, 3) := by decide +kernel
theorem dX0_isBroken_39 : decode cX0_isBroken 39 = .ok (.iconst 0, 1) := by decide +kernel
theorem dX0_isBroken_40 : decode cX0_isBroken 40 = .ok (.ireturn, 1) := by decide +kernel
theorem dX1_init_0 : decode cX1_init 0 = .ok (.aload_n 0, 1) := by decide +kernel
theorem dX1_init_1 : decode cX1_init 1 = .ok (.invokespecial 3, 3) := by decide +kernel
theorem dX1_init_4 : decode cX1_init 4 = .ok (.aload_n 0, 1) := by decide +kernel
theorem dX1_init_5 : decode cX1_init 5 = .ok (.sipush 256, 3) := by decide +kernel
theorem dX1_init_8 : decode cX1_init 8 = .ok (.newarray .int, 2) := by decide +kernel
theorem dX1_init_10 : decode cX1_init 10 = .ok (.putfield 9, 3) := by decide +kernel
theorem dX1_init_13 : decode cX1_init 13 = .ok (.aload_n 0, 1) := by decide +kernel
theorem dX1_init_14 : decode cX1_init 14 = .ok (.sipush 256, 3) := by decide +kernel
theorem dX1_init_17 : decode cX1_init 17 = .ok (.newarray .int, 2) := by decide +kernel
theorem dX1_init_19 : decode cX1_init 19 = .ok (.putfield 15, 3) := by decide +kernel
theorem dX1_init_22 : decode cX1_init 22 = .ok (.iconst 0, 1) := by decide +kernel
theorem dX1_init_23 : decode cX1_init 23 = .ok (.istore_n 1, 1) := by decide +kernel
theorem dX1_init_24 : decode cX1_init 24 = .ok (.iload_n 1, 1) := by decide +kernel
theorem dX1_init_25 : decode cX1_init 25 = .ok (.sipush 256, 3) := by decide +kernel
theorem dX1_init_28 : decode cX1_init 28 = .ok (.if_icmp .ge 58, 3) := by decide +kernel
theorem dX1_init_31 : decode cX1_init 31 = .ok (.iconst 0, 1) := by decide +kernel
theorem dX1_init_32 : decode cX1_init 32 = .ok (.istore_n 2, 1) := by decide +kernel
theorem dX1_init_33 : decode cX1_init 33 = .ok (.iload_n 2, 1) := by decide +kernel
theorem dX1_init_34 : decode cX1_init 34 = .ok (.iconst 4, 1) := by decide +kernel
theorem dX1_init_35 : decode cX1_init 35 = .ok (.if_icmp .ge 45, 3) := by decide +kernel
theorem dX1_init_38 : decode cX1_init 38 = .ok (.iload_n 1, 1) := by decide +kernel
theorem dX1_init_39 : decode cX1_init 39 = .ok (.iload_n 2, 1) := by decide +kernel
theorem dX1_init_40 : decode cX1_init 40 = .ok (.invokestatic 18, 3) := by decide +kernel
theorem dX1_init_43 : decode cX1_init 43 = .ok (.istore_n 3, 1) := by decide +kernel
theorem dX1_init_44 : decode cX1_init 44 = .ok (.aload_n 0, 1) := by decide +kernel
theorem dX1_init_45 : decode cX1_init 45 = .ok (.getfield 9, 3) := by decide +kernel
theorem dX1_init_48 : decode cX1_init 48 = .ok (.iload_n 1, 1) := by decide +kernel
theorem dX1_init_49 : decode cX1_init 49 = .ok (.dup2, 1) := by decide +kernel
theorem dX1_init_50 : decode cX1_init 50 = .ok (.iaload, 1) := by decide +kernel
theorem dX1_init_51 : decode cX1_init 51 = .ok (.iconst 1, 1) := by decide +kernel
theorem dX1_init_52 : decode cX1_init 52 = .ok (.iconst 4, 1) := by decide +kernel
theorem dX1_init_53 : decode cX1_init 53 = .ok (.iload_n 2, 1) := by decide +kernel
theorem dX1_init_54 : decode cX1_init 54 = .ok (.imul, 1) := by decide +kernel
theorem dX1_init_55 : decode cX1_init 55 = .ok (.iload_n 3, 1) := by decide +kernel
theorem dX1_init_56 : decode cX1_init 56 = .ok (.iadd, 1) := by decide +kernel
theorem dX1_init_57 : decode cX1_init 57 = .ok (.ishl, 1) := by decide +kernel
theorem dX1_init_58 : decode cX1_init 58 = .ok (.ior, 1) := by decide +kernel
theorem dX1_init_59 : decode cX1_init 59 = .ok (.iastore, 1) := by decide +kernel
theorem dX1_init_60 : decode cX1_init 60 = .ok (.aload_n 0, 1) := by decide +kernel
theorem dX1_init_61 : decode cX1_init 61 = .ok (.getfield 15, 3) := by decide +kernel
theorem dX1_init_64 : decode cX1_init 64 = .ok (.iload_n 1, 1) := by decide +kernel
theorem dX1_init_65 : decode cX1_init 65 = .ok (.dup2, 1) := by decide +kernel
theorem dX1_init_66 : decode cX1_init 66 = .ok (.iaload, 1) := by decide +kernel
theorem dX1_init_67 : decode cX1_init 67 = .ok (.iload_n 3, 1) := by decide +kernel
theorem dX1_init_68 : decode cX1_init 68 = .ok (.iconst 3, 1) := by decide +kernel
theorem dX1_init_69 : decode cX1_init 69 = .ok (.iload_n 2, 1) := by decide +kernel
theorem dX1_init_70 : decode cX1_init 70 = .ok (.imul, 1) := by decide +kernel
theorem dX1_init_71 : decode cX1_init 71 = .ok (.ishl, 1) := by decide +kernel
theorem dX1_init_72 : decode cX1_init 72 = .ok (.ior, 1) := by decide +kernel
theorem dX1_init_73 : decode cX1_init 73 = .ok (.iastore, 1) := by decide +kernel
theorem dX1_init_74 : decode cX1_init 74 = .ok (.iinc 2 1, 3) := by decide +kernel
theorem dX1_init_77 : decode cX1_init 77 = .ok (.goto (-44), 3) := by decide +kernel
theorem dX1_init_80 : decode cX1_init 80 = .ok (.iinc 1 1, 3) := by decide +kernel
theorem dX1_init_83 : decode cX1_init 83 = .ok (.goto (-59), 3) := by decide +kernel
theorem dX1_init_86 : decode cX1_init 86 = .ok (.return_, 1) := by decide +kernel
theorem dX1_shapeOf_0 : decode cX1_shapeOf 0 = .ok (.aload_n 0, 1) := by decide +kernel
theorem dX1_shapeOf_1 : decode cX1_shapeOf 1 = .ok (.getfield 15, 3) := by decide +kernel
theorem dX1_shapeOf_4 : decode cX1_shapeOf 4 = .ok (.iload_n 1, 1) := by decide +kernel
theorem dX1_shapeOf_5 : decode cX1_shapeOf 5 = .ok (.sipush 255, 3) := by decide +kernel
theorem dX1_shapeOf_8 : decode cX1_shapeOf 8 = .ok (.iand, 1) := by decide +kernel
theorem dX1_shapeOf_9 : decode cX1_shapeOf 9 = .ok (.iaload, 1) := by decide +kernel
theorem dX1_shapeOf_10 : decode cX1_shapeOf 10 = .ok (.istore_n 3, 1) := by decide +kernel
theorem dX1_shapeOf_11 : decode cX1_shapeOf 11 = .ok (.aload_n 0, 1) := by decide +kernel
theorem dX1_shapeOf_12 : decode cX1_shapeOf 12 = .ok (.getfield 15, 3) := by decide +kernel
theorem dX1_shapeOf_15 : decode cX1_shapeOf 15 = .ok (.iload_n 2, 1) := by decide +kernel
theorem dX1_shapeOf_16 : decode cX1_shapeOf 16 = .ok (.sipush 255, 3) := by decide +kernel
theorem dX1_shapeOf_19 : decode cX1_shapeOf 19 = .ok (.iand, 1) := by decide +kernel
theorem dX1_shapeOf_20 : decode cX1_shapeOf 20 = .ok (.iaload, 1) := by decide +kernel
theorem dX1_shapeOf_21 : decode cX1_shapeOf 21 = .ok (.istore 4, 2) := by decide +kernel
theorem dX1_shapeOf_23 : decode cX1_shapeOf 23 = .ok (.iload_n 3, 1) := by decide +kernel
theorem dX1_shapeOf_24 : decode cX1_shapeOf 24 = .ok (.sipush 2340, 3) := by decide +kernel
theorem dX1_shapeOf_27 : decode cX1_shapeOf 27 = .ok (.ior, 1) := by decide +kernel
theorem dX1_shapeOf_28 : decode cX1_shapeOf 28 = .ok (.iload 4, 2) := by decide +kernel
theorem dX1_shapeOf_30 : decode cX1_shapeOf 30 = .ok (.isub, 1) := by decide +kernel
theorem dX1_shapeOf_31 : decode cX1_shapeOf 31 = .ok (.sipush 2340, 3) := by decide +kernel
theorem dX1_shapeOf_34 : decode cX1_shapeOf 34 = .ok (.iand, 1) := by decide +kernel
theorem dX1_shapeOf_35 : decode cX1_shapeOf 35 = .ok (.istore 5, 2) := by decide +kernel
theorem dX1_shapeOf_37 : decode cX1_shapeOf 37 = .ok (.iload 4, 2) := by decide +kernel
theorem dX1_shapeOf_39 : decode cX1_shapeOf 39 = .ok (.sipush 2340, 3) := by decide +kernel
theorem dX1_shapeOf_42 : decode cX1_shapeOf 42 = .ok (.ior, 1) := by decide +kernel
theorem dX1_shapeOf_43 : decode cX1_shapeOf 43 = .ok (.iload_n 3, 1) := by decide +kernel
theorem dX1_shapeOf_44 : decode cX1_shapeOf 44 = .ok (.isub, 1) := by decide +kernel
theorem dX1_shapeOf_45 : decode cX1_shapeOf 45 = .ok (.sipush 2340, 3) := by decide +kernel
theorem dX1_shapeOf_48 : decode cX1_shapeOf 48 = .ok (.iand, 1) := by decide +kernel
theorem dX1_shapeOf_49 : decode cX1_shapeOf 49 = .ok (.istore 6, 2) := by decide +kernel
theorem dX1_shapeOf_51 : decode cX1_shapeOf 51 = .ok (.iload 5, 2) := by decide +kernel
theorem dX1_shapeOf_53 : decode cX1_shapeOf 53 = .ok (.iconst 1, 1) := by decide +kernel
theorem dX1_shapeOf_54 : decode cX1_shapeOf 54 = .ok (.ishr, 1) := by decide +kernel
theorem dX1_shapeOf_55 : decode cX1_shapeOf 55 = .ok (.iload 6, 2) := by decide +kernel
theorem dX1_shapeOf_57 : decode cX1_shapeOf 57 = .ok (.ior, 1) := by decide +kernel
theorem dX1_shapeOf_58 : decode cX1_shapeOf 58 = .ok (.iload 5, 2) := by decide +kernel
theorem dX1_shapeOf_60 : decode cX1_shapeOf 60 = .ok (.iload 6, 2) := by decide +kernel
theorem dX1_shapeOf_62 : decode cX1_shapeOf 62 = .ok (.iand, 1) := by decide +kernel
theorem dX1_shapeOf_63 : decode cX1_shapeOf 63 = .ok (.iconst 2, 1) := by decide +kernel
theorem dX1_shapeOf_64 : decode cX1_shapeOf 64 = .ok (.ishr, 1) := by decide +kernel
theorem dX1_shapeOf_65 : decode cX1_shapeOf 65 = .ok (.ior, 1) := by decide +kernel
theorem dX1_shapeOf_66 : decode cX1_shapeOf 66 = .ok (.ireturn, 1) := by decide +kernel
theorem dX1_deniedBy_0 : decode cX1_deniedBy 0 = .ok (.iconst 0, 1) := by decide +kernel
theorem dX1_deniedBy_1 : decode cX1_deniedBy 1 = .ok (.istore_n 3, 1) := by decide +kernel
theorem dX1_deniedBy_2 : decode cX1_deniedBy 2 = .ok (.iconst 0, 1) := by decide +kernel
theorem dX1_deniedBy_3 : decode cX1_deniedBy 3 = .ok (.istore 4, 2) := by decide +kernel
theorem dX1_deniedBy_5 : decode cX1_deniedBy 5 = .ok (.iload 4, 2) := by decide +kernel
theorem dX1_deniedBy_7 : decode cX1_deniedBy 7 = .ok (.iconst 4, 1) := by decide +kernel
theorem dX1_deniedBy_8 : decode cX1_deniedBy 8 = .ok (.if_icmp .ge 111, 3) := by decide +kernel
theorem dX1_deniedBy_11 : decode cX1_deniedBy 11 = .ok (.iload_n 2, 1) := by decide +kernel
theorem dX1_deniedBy_12 : decode cX1_deniedBy 12 = .ok (.iload 4, 2) := by decide +kernel
theorem dX1_deniedBy_14 : decode cX1_deniedBy 14 = .ok (.invokestatic 18, 3) := by decide +kernel
theorem dX1_deniedBy_17 : decode cX1_deniedBy 17 = .ok (.istore 5, 2) := by decide +kernel
theorem dX1_deniedBy_19 : decode cX1_deniedBy 19 = .ok (.iconst 1, 1) := by decide +kernel
theorem dX1_deniedBy_20 : decode cX1_deniedBy 20 = .ok (.iload 5, 2) := by decide +kernel
theorem dX1_deniedBy_22 : decode cX1_deniedBy 22 = .ok (.ishl, 1) := by decide +kernel
theorem dX1_deniedBy_23 : decode cX1_deniedBy 23 = .ok (.iconst 1, 1) := by decide +kernel
theorem dX1_deniedBy_24 : decode cX1_deniedBy 24 = .ok (.isub, 1) := by decide +kernel
theorem dX1_deniedBy_25 : decode cX1_deniedBy 25 = .ok (.istore 6, 2) := by decide +kernel
theorem dX1_deniedBy_27 : decode cX1_deniedBy 27 = .ok (.bipush 15, 2) := by decide +kernel
theorem dX1_deniedBy_29 : decode cX1_deniedBy 29 = .ok (.iload 6, 2) := by decide +kernel
theorem dX1_deniedBy_31 : decode cX1_deniedBy 31 = .ok (.iconst 1, 1) := by decide +kernel
theorem dX1_deniedBy_32 : decode cX1_deniedBy 32 = .ok (.iload 5, 2) := by decide +kernel
theorem dX1_deniedBy_34 : decode cX1_deniedBy 34 = .ok (.ishl, 1) := by decide +kernel
theorem dX1_deniedBy_35 : decode cX1_deniedBy 35 = .ok (.ior, 1) := by decide +kernel
theorem dX1_deniedBy_36 : decode cX1_deniedBy 36 = .ok (.iconst (-1), 1) := by decide +kernel
theorem dX1_deniedBy_37 : decode cX1_deniedBy 37 = .ok (.ixor, 1) := by decide +kernel
theorem dX1_deniedBy_38 : decode cX1_deniedBy 38 = .ok (.iand, 1) := by decide +kernel
theorem dX1_deniedBy_39 : decode cX1_deniedBy 39 = .ok (.istore 7, 2) := by decide +kernel
theorem dX1_deniedBy_41 : decode cX1_deniedBy 41 = .ok (.iload_n 1, 1) := by decide +kernel
theorem dX1_deniedBy_42 : decode cX1_deniedBy 42 = .ok (.iconst 3, 1) := by decide +kernel
theorem dX1_deniedBy_43 : decode cX1_deniedBy 43 = .ok (.iload 4, 2) := by decide +kernel
theorem dX1_deniedBy_45 : decode cX1_deniedBy 45 = .ok (.imul, 1) := by decide +kernel
theorem dX1_deniedBy_46 : decode cX1_deniedBy 46 = .ok (.ishr, 1) := by decide +kernel
theorem dX1_deniedBy_47 : decode cX1_deniedBy 47 = .ok (.istore 8, 2) := by decide +kernel
theorem dX1_deniedBy_49 : decode cX1_deniedBy 49 = .ok (.iload 8, 2) := by decide +kernel
theorem dX1_deniedBy_51 : decode cX1_deniedBy 51 = .ok (.iconst 1, 1) := by decide +kernel
theorem dX1_deniedBy_52 : decode cX1_deniedBy 52 = .ok (.iand, 1) := by decide +kernel
theorem dX1_deniedBy_53 : decode cX1_deniedBy 53 = .ok (.ifCond .ne 7, 3) := by decide +kernel
theorem dX1_deniedBy_56 : decode cX1_deniedBy 56 = .ok (.iconst 0, 1) := by decide +kernel
theorem dX1_deniedBy_57 : decode cX1_deniedBy 57 = .ok (.goto 8, 3) := by decide +kernel
theorem dX1_deniedBy_60 : decode cX1_deniedBy 60 = .ok (.iload 6, 2) := by decide +kernel
theorem dX1_deniedBy_62 : decode cX1_deniedBy 62 = .ok (.iload 7, 2) := by decide +kernel
theorem dX1_deniedBy_64 : decode cX1_deniedBy 64 = .ok (.ior, 1) := by decide +kernel
theorem dX1_deniedBy_65 : decode cX1_deniedBy 65 = .ok (.istore 9, 2) := by decide +kernel
theorem dX1_deniedBy_67 : decode cX1_deniedBy 67 = .ok (.iload 9, 2) := by decide +kernel
theorem dX1_deniedBy_69 : decode cX1_deniedBy 69 = .ok (.iload 8, 2) := by decide +kernel
theorem dX1_deniedBy_71 : decode cX1_deniedBy 71 = .ok (.iconst 2, 1) := by decide +kernel
theorem dX1_deniedBy_72 : decode cX1_deniedBy 72 = .ok (.iand, 1) := by decide +kernel
theorem dX1_deniedBy_73 : decode cX1_deniedBy 73 = .ok (.ifCond .ne 7, 3) := by decide +kernel
theorem dX1_deniedBy_76 : decode cX1_deniedBy 76 = .ok (.iconst 0, 1) := by decide +kernel
theorem dX1_deniedBy_77 : decode cX1_deniedBy 77 = .ok (.goto 5, 3) := by decide +kernel
theorem dX1_deniedBy_80 : decode cX1_deniedBy 80 = .ok (.iload 7, 2) := by decide +kernel
theorem dX1_deniedBy_82 : decode cX1_deniedBy 82 = .ok (.ior, 1) := by decide +kernel
theorem dX1_deniedBy_83 : decode cX1_deniedBy 83 = .ok (.istore 9, 2) := by decide +kernel
theorem dX1_deniedBy_85 : decode cX1_deniedBy 85 = .ok (.iload 9, 2) := by decide +kernel
theorem dX1_deniedBy_87 : decode cX1_deniedBy 87 = .ok (.iload 8, 2) := by decide +kernel
theorem dX1_deniedBy_89 : decode cX1_deniedBy 89 = .ok (.iconst 4, 1) := by decide +kernel
theorem dX1_deniedBy_90 : decode cX1_deniedBy 90 = .ok (.iand, 1) := by decide +kernel
theorem dX1_deniedBy_91 : decode cX1_deniedBy 91 = .ok (.ifCond .ne 7, 3) := by decide +kernel
theorem dX1_deniedBy_94 : decode cX1_deniedBy 94 = .ok (.iconst 0, 1) := by decide +kernel
theorem dX1_deniedBy_95 : decode cX1_deniedBy 95 = .ok (.goto 5, 3) := by decide +kernel
theorem dX1_deniedBy_98 : decode cX1_deniedBy 98 = .ok (.iload 6, 2) := by decide +kernel
theorem dX1_deniedBy_100 : decode cX1_deniedBy 100 = .ok (.ior, 1) := by decide +kernel
theorem dX1_deniedBy_101 : decode cX1_deniedBy 101 = .ok (.istore 9, 2) := by decide +kernel
theorem dX1_deniedBy_103 : decode cX1_deniedBy 103 = .ok (.iload_n 3, 1) := by decide +kernel
theorem dX1_deniedBy_104 : decode cX1_deniedBy 104 = .ok (.iload 9, 2) := by decide +kernel
theorem dX1_deniedBy_106 : decode cX1_deniedBy 106 = .ok (.iconst 4, 1) := by decide +kernel
theorem dX1_deniedBy_107 : decode cX1_deniedBy 107 = .ok (.iload 4, 2) := by decide +kernel
theorem dX1_deniedBy_109 : decode cX1_deniedBy 109 = .ok (.imul, 1) := by decide +kernel
theorem dX1_deniedBy_110 : decode cX1_deniedBy 110 = .ok (.ishl, 1) := by decide +kernel
theorem dX1_deniedBy_111 : decode cX1_deniedBy 111 = .ok (.ior, 1) := by decide +kernel
theorem dX1_deniedBy_112 : decode cX1_deniedBy 112 = .ok (.istore_n 3, 1) := by decide +kernel
theorem dX1_deniedBy_113 : decode cX1_deniedBy 113 = .ok (.iinc 4 1, 3) := by decide +kernel
theorem dX1_deniedBy_116 : decode cX1_deniedBy 116 = .ok (.goto (-111), 3) := by decide +kernel
theorem dX1_deniedBy_119 : decode cX1_deniedBy 119 = .ok (.iload_n 3, 1) := by decide +kernel
theorem dX1_deniedBy_120 : decode cX1_deniedBy 120 = .ok (.ireturn, 1) := by decide +kernel
theorem dX2_init_0 : decode cX2_init 0 = .ok (.aload_n 0, 1) := by decide +kernel
theorem dX2_init_1 : decode cX2_init 1 = .ok (.invokespecial 3, 3) := by decide +kernel
theorem dX2_init_4 : decode cX2_init 4 = .ok (.aload_n 0, 1) := by decide +kernel
theorem dX2_init_5 : decode cX2_init 5 = .ok (.bipush (-6), 2) := by decide +kernel
theorem dX2_init_7 : decode cX2_init 7 = .ok (.putfield 9, 3) := by decide +kernel
theorem dX2_init_10 : decode cX2_init 10 = .ok (.aload_n 0, 1) := by decide +kernel
theorem dX2_init_11 : decode cX2_init 11 = .ok (.ldc 15, 2) := by decide +kernel
theorem dX2_init_13 : decode cX2_init 13 = .ok (.newarray .int, 2) := by decide +kernel
theorem dX2_init_15 : decode cX2_init 15 = .ok (.putfield 16, 3) := by decide +kernel
theorem dX2_init_18 : decode cX2_init 18 = .ok (.aload_n 0, 1) := by decide +kernel
theorem dX2_init_19 : decode cX2_init 19 = .ok (.iconst 0, 1) := by decide +kernel
theorem dX2_init_20 : decode cX2_init 20 = .ok (.putfield 20, 3) := by decide +kernel
theorem dX2_init_23 : decode cX2_init 23 = .ok (.aload_n 0, 1) := by decide +kernel
theorem dX2_init_24 : decode cX2_init 24 = .ok (.sipush 676, 3) := by decide +kernel
theorem dX2_init_27 : decode cX2_init 27 = .ok (.newarray .long, 2) := by decide +kernel
theorem dX2_init_29 : decode cX2_init 29 = .ok (.putfield 23, 3) := by decide +kernel
theorem dX2_init_32 : decode cX2_init 32 = .ok (.return_, 1) := by decide +kernel
theorem dX2_reach_0 : decode cX2_reach 0 = .ok (.aload_n 0, 1) := by decide +kernel
theorem dX2_reach_1 : decode cX2_reach 1 = .ok (.getfield 23, 3) := by decide +kernel
theorem dX2_reach_4 : decode cX2_reach 4 = .ok (.lconst 0, 1) := by decide +kernel
theorem dX2_reach_5 : decode cX2_reach 5 = .ok (.invokestatic 27, 3) := by decide +kernel
theorem dX2_reach_8 : decode cX2_reach 8 = .ok (.aload_n 0, 1) := by decide +kernel
theorem dX2_reach_9 : decode cX2_reach 9 = .ok (.iconst 0, 1) := by decide +kernel
theorem dX2_reach_10 : decode cX2_reach 10 = .ok (.putfield 20, 3) := by decide +kernel
theorem dX2_reach_13 : decode cX2_reach 13 = .ok (.aload_n 0, 1) := by decide +kernel
theorem dX2_reach_14 : decode cX2_reach 14 = .ok (.aload_n 1, 1) := by decide +kernel
theorem dX2_reach_15 : decode cX2_reach 15 = .ok (.iconst 0, 1) := by decide +kernel
theorem dX2_reach_16 : decode cX2_reach 16 = .ok (.iload_n 3, 1) := by decide +kernel
theorem dX2_reach_17 : decode cX2_reach 17 = .ok (.invokevirtual 33, 3) := by decide +kernel
theorem dX2_reach_20 : decode cX2_reach 20 = .ok (.sipush 256, 3) := by decide +kernel
theorem dX2_reach_23 : decode cX2_reach 23 = .ok (.idiv, 1) := by decide +kernel
theorem dX2_reach_24 : decode cX2_reach 24 = .ok (.aload_n 2, 1) := by decide +kernel
theorem dX2_reach_25 : decode cX2_reach 25 = .ok (.iconst 0, 1) := by decide +kernel
theorem dX2_reach_26 : decode cX2_reach 26 = .ok (.iload_n 3, 1) := by decide +kernel
theorem dX2_reach_27 : decode cX2_reach 27 = .ok (.invokevirtual 33, 3) := by decide +kernel
theorem dX2_reach_30 : decode cX2_reach 30 = .ok (.sipush 256, 3) := by decide +kernel
theorem dX2_reach_33 : decode cX2_reach 33 = .ok (.idiv, 1) := by decide +kernel
theorem dX2_reach_34 : decode cX2_reach 34 = .ok (.iload_n 3, 1) := by decide +kernel
theorem dX2_reach_35 : decode cX2_reach 35 = .ok (.invokevirtual 39, 3) := by decide +kernel
theorem dX2_reach_38 : decode cX2_reach 38 = .ok (.iconst 0, 1) := by decide +kernel
theorem dX2_reach_39 : decode cX2_reach 39 = .ok (.istore 4, 2) := by decide +kernel
theorem dX2_reach_41 : decode cX2_reach 41 = .ok (.iload 4, 2) := by decide +kernel
theorem dX2_reach_43 : decode cX2_reach 43 = .ok (.aload_n 0, 1) := by decide +kernel
theorem dX2_reach_44 : decode cX2_reach 44 = .ok (.getfield 20, 3) := by decide +kernel
theorem dX2_reach_47 : decode cX2_reach 47 = .ok (.if_icmp .ge 131, 3) := by decide +kernel
theorem dX2_reach_50 : decode cX2_reach 50 = .ok (.iload 4, 2) := by decide +kernel
theorem dX2_reach_52 : decode cX2_reach 52 = .ok (.ldc 15, 2) := by decide +kernel
theorem dX2_reach_54 : decode cX2_reach 54 = .ok (.if_icmp .ge 124, 3) := by decide +kernel
theorem dX2_reach_57 : decode cX2_reach 57 = .ok (.aload_n 0, 1) := by decide +kernel
theorem dX2_reach_58 : decode cX2_reach 58 = .ok (.getfield 16, 3) := by decide +kernel
theorem dX2_reach_61 : decode cX2_reach 61 = .ok (.iload 4, 2) := by decide +kernel
theorem dX2_reach_63 : decode cX2_reach 63 = .ok (.iaload, 1) := by decide +kernel
theorem dX2_reach_64 : decode cX2_reach 64 = .ok (.sipush 256, 3) := by decide +kernel
theorem dX2_reach_67 : decode cX2_reach 67 = .ok (.irem, 1) := by decide +kernel
theorem dX2_reach_68 : decode cX2_reach 68 = .ok (.istore 5, 2) := by decide +kernel
theorem dX2_reach_70 : decode cX2_reach 70 = .ok (.aload_n 0, 1) := by decide +kernel
theorem dX2_reach_71 : decode cX2_reach 71 = .ok (.getfield 16, 3) := by decide +kernel
theorem dX2_reach_74 : decode cX2_reach 74 = .ok (.iload 4, 2) := by decide +kernel
theorem dX2_reach_76 : decode cX2_reach 76 = .ok (.iaload, 1) := by decide +kernel
theorem dX2_reach_77 : decode cX2_reach 77 = .ok (.sipush 256, 3) := by decide +kernel
theorem dX2_reach_80 : decode cX2_reach 80 = .ok (.idiv, 1) := by decide +kernel
theorem dX2_reach_81 : decode cX2_reach 81 = .ok (.bipush 13, 2) := by decide +kernel
theorem dX2_reach_83 : decode cX2_reach 83 = .ok (.idiv, 1) := by decide +kernel
theorem dX2_reach_84 : decode cX2_reach 84 = .ok (.istore 6, 2) := by decide +kernel
theorem dX2_reach_86 : decode cX2_reach 86 = .ok (.aload_n 0, 1) := by decide +kernel
theorem dX2_reach_87 : decode cX2_reach 87 = .ok (.getfield 16, 3) := by decide +kernel
theorem dX2_reach_90 : decode cX2_reach 90 = .ok (.iload 4, 2) := by decide +kernel
theorem dX2_reach_92 : decode cX2_reach 92 = .ok (.iaload, 1) := by decide +kernel
theorem dX2_reach_93 : decode cX2_reach 93 = .ok (.sipush 256, 3) := by decide +kernel
theorem dX2_reach_96 : decode cX2_reach 96 = .ok (.idiv, 1) := by decide +kernel
theorem dX2_reach_97 : decode cX2_reach 97 = .ok (.bipush 13, 2) := by decide +kernel
theorem dX2_reach_99 : decode cX2_reach 99 = .ok (.irem, 1) := by decide +kernel
theorem dX2_reach_100 : decode cX2_reach 100 = .ok (.istore 7, 2) := by decide +kernel
theorem dX2_reach_102 : decode cX2_reach 102 = .ok (.iload 6, 2) := by decide +kernel
theorem dX2_reach_104 : decode cX2_reach 104 = .ok (.bipush 12, 2) := by decide +kernel
theorem dX2_reach_106 : decode cX2_reach 106 = .ok (.if_icmp .eq 31, 3) := by decide +kernel
theorem dX2_reach_109 : decode cX2_reach 109 = .ok (.aload_n 1, 1) := by decide +kernel
theorem dX2_reach_110 : decode cX2_reach 110 = .ok (.iload 6, 2) := by decide +kernel
theorem dX2_reach_112 : decode cX2_reach 112 = .ok (.iload 5, 2) := by decide +kernel
theorem dX2_reach_114 : decode cX2_reach 114 = .ok (.invokevirtual 43, 3) := by decide +kernel
theorem dX2_reach_117 : decode cX2_reach 117 = .ok (.istore 8, 2) := by decide +kernel
theorem dX2_reach_119 : decode cX2_reach 119 = .ok (.aload_n 0, 1) := by decide +kernel
theorem dX2_reach_120 : decode cX2_reach 120 = .ok (.iload 8, 2) := by decide +kernel
theorem dX2_reach_122 : decode cX2_reach 122 = .ok (.sipush 256, 3) := by decide +kernel
theorem dX2_reach_125 : decode cX2_reach 125 = .ok (.idiv, 1) := by decide +kernel
theorem dX2_reach_126 : decode cX2_reach 126 = .ok (.iload 7, 2) := by decide +kernel
theorem dX2_reach_128 : decode cX2_reach 128 = .ok (.iload 8, 2) := by decide +kernel
theorem dX2_reach_130 : decode cX2_reach 130 = .ok (.sipush 256, 3) := by decide +kernel
theorem dX2_reach_133 : decode cX2_reach 133 = .ok (.irem, 1) := by decide +kernel
theorem dX2_reach_134 : decode cX2_reach 134 = .ok (.invokevirtual 39, 3) := by decide +kernel
theorem dX2_reach_137 : decode cX2_reach 137 = .ok (.iload 7, 2) := by decide +kernel
theorem dX2_reach_139 : decode cX2_reach 139 = .ok (.bipush 12, 2) := by decide +kernel
theorem dX2_reach_141 : decode cX2_reach 141 = .ok (.if_icmp .eq 31, 3) := by decide +kernel
theorem dX2_reach_144 : decode cX2_reach 144 = .ok (.aload_n 2, 1) := by decide +kernel
theorem dX2_reach_145 : decode cX2_reach 145 = .ok (.iload 7, 2) := by decide +kernel
theorem dX2_reach_147 : decode cX2_reach 147 = .ok (.iload 5, 2) := by decide +kernel
theorem dX2_reach_149 : decode cX2_reach 149 = .ok (.invokevirtual 43, 3) := by decide +kernel
theorem dX2_reach_152 : decode cX2_reach 152 = .ok (.istore 8, 2) := by decide +kernel
theorem dX2_reach_154 : decode cX2_reach 154 = .ok (.aload_n 0, 1) := by decide +kernel
theorem dX2_reach_155 : decode cX2_reach 155 = .ok (.iload 6, 2) := by decide +kernel
theorem dX2_reach_157 : decode cX2_reach 157 = .ok (.iload 8, 2) := by decide +kernel
theorem dX2_reach_159 : decode cX2_reach 159 = .ok (.sipush 256, 3) := by decide +kernel
theorem dX2_reach_162 : decode cX2_reach 162 = .ok (.idiv, 1) := by decide +kernel
theorem dX2_reach_163 : decode cX2_reach 163 = .ok (.iload 8, 2) := by decide +kernel
theorem dX2_reach_165 : decode cX2_reach 165 = .ok (.sipush 256, 3) := by decide +kernel
theorem dX2_reach_168 : decode cX2_reach 168 = .ok (.irem, 1) := by decide +kernel
theorem dX2_reach_169 : decode cX2_reach 169 = .ok (.invokevirtual 39, 3) := by decide +kernel
theorem dX2_reach_172 : decode cX2_reach 172 = .ok (.iinc 4 1, 3) := by decide +kernel
theorem dX2_reach_175 : decode cX2_reach 175 = .ok (.goto (-134), 3) := by decide +kernel
theorem dX2_reach_178 : decode cX2_reach 178 = .ok (.return_, 1) := by decide +kernel
theorem dX2_add_0 : decode cX2_add 0 = .ok (.iload_n 1, 1) := by decide +kernel
theorem dX2_add_1 : decode cX2_add 1 = .ok (.bipush 13, 2) := by decide +kernel
theorem dX2_add_3 : decode cX2_add 3 = .ok (.imul, 1) := by decide +kernel
theorem dX2_add_4 : decode cX2_add 4 = .ok (.iload_n 2, 1) := by decide +kernel
theorem dX2_add_5 : decode cX2_add 5 = .ok (.iadd, 1) := by decide +kernel
theorem dX2_add_6 : decode cX2_add 6 = .ok (.sipush 256, 3) := by decide +kernel
theorem dX2_add_9 : decode cX2_add 9 = .ok (.imul, 1) := by decide +kernel
theorem dX2_add_10 : decode cX2_add 10 = .ok (.iload_n 3, 1) := by decide +kernel
theorem dX2_add_11 : decode cX2_add 11 = .ok (.iadd, 1) := by decide +kernel
theorem dX2_add_12 : decode cX2_add 12 = .ok (.istore 4, 2) := by decide +kernel
theorem dX2_add_14 : decode cX2_add 14 = .ok (.iload 4, 2) := by decide +kernel
theorem dX2_add_16 : decode cX2_add 16 = .ok (.ifCond .lt 28, 3) := by decide +kernel
theorem dX2_add_19 : decode cX2_add 19 = .ok (.iload 4, 2) := by decide +kernel
theorem dX2_add_21 : decode cX2_add 21 = .ok (.ldc 15, 2) := by decide +kernel
theorem dX2_add_23 : decode cX2_add 23 = .ok (.if_icmp .ge 21, 3) := by decide +kernel
theorem dX2_add_26 : decode cX2_add 26 = .ok (.aload_n 0, 1) := by decide +kernel
theorem dX2_add_27 : decode cX2_add 27 = .ok (.getfield 20, 3) := by decide +kernel
theorem dX2_add_30 : decode cX2_add 30 = .ok (.ldc 15, 2) := by decide +kernel
theorem dX2_add_32 : decode cX2_add 32 = .ok (.if_icmp .ge 12, 3) := by decide +kernel
theorem dX2_add_35 : decode cX2_add 35 = .ok (.aload_n 0, 1) := by decide +kernel
theorem dX2_add_36 : decode cX2_add 36 = .ok (.iload 4, 2) := by decide +kernel
theorem dX2_add_38 : decode cX2_add 38 = .ok (.invokevirtual 46, 3) := by decide +kernel
theorem dX2_add_41 : decode cX2_add 41 = .ok (.ifCond .eq 4, 3) := by decide +kernel
theorem dX2_add_44 : decode cX2_add 44 = .ok (.return_, 1) := by decide +kernel
theorem dX2_add_45 : decode cX2_add 45 = .ok (.aload_n 0, 1) := by decide +kernel
theorem dX2_add_46 : decode cX2_add 46 = .ok (.getfield 23, 3) := by decide +kernel
theorem dX2_add_49 : decode cX2_add 49 = .ok (.iload 4, 2) := by decide +kernel
theorem dX2_add_51 : decode cX2_add 51 = .ok (.bipush 64, 2) := by decide +kernel
theorem dX2_add_53 : decode cX2_add 53 = .ok (.idiv, 1) := by decide +kernel
theorem dX2_add_54 : decode cX2_add 54 = .ok (.dup2, 1) := by decide +kernel
theorem dX2_add_55 : decode cX2_add 55 = .ok (.laload, 1) := by decide +kernel
theorem dX2_add_56 : decode cX2_add 56 = .ok (.lconst 1, 1) := by decide +kernel
theorem dX2_add_57 : decode cX2_add 57 = .ok (.iload 4, 2) := by decide +kernel
theorem dX2_add_59 : decode cX2_add 59 = .ok (.bipush 64, 2) := by decide +kernel
theorem dX2_add_61 : decode cX2_add 61 = .ok (.irem, 1) := by decide +kernel
theorem dX2_add_62 : decode cX2_add 62 = .ok (.lshl, 1) := by decide +kernel
theorem dX2_add_63 : decode cX2_add 63 = .ok (.lor, 1) := by decide +kernel
theorem dX2_add_64 : decode cX2_add 64 = .ok (.lastore, 1) := by decide +kernel
theorem dX2_add_65 : decode cX2_add 65 = .ok (.aload_n 0, 1) := by decide +kernel
theorem dX2_add_66 : decode cX2_add 66 = .ok (.getfield 16, 3) := by decide +kernel
theorem dX2_add_69 : decode cX2_add 69 = .ok (.aload_n 0, 1) := by decide +kernel
theorem dX2_add_70 : decode cX2_add 70 = .ok (.getfield 20, 3) := by decide +kernel
theorem dX2_add_73 : decode cX2_add 73 = .ok (.iload 4, 2) := by decide +kernel
theorem dX2_add_75 : decode cX2_add 75 = .ok (.iastore, 1) := by decide +kernel
theorem dX2_add_76 : decode cX2_add 76 = .ok (.aload_n 0, 1) := by decide +kernel
theorem dX2_add_77 : decode cX2_add 77 = .ok (.dup, 1) := by decide +kernel
theorem dX2_add_78 : decode cX2_add 78 = .ok (.getfield 20, 3) := by decide +kernel
theorem dX2_add_81 : decode cX2_add 81 = .ok (.iconst 1, 1) := by decide +kernel
theorem dX2_add_82 : decode cX2_add 82 = .ok (.iadd, 1) := by decide +kernel
theorem dX2_add_83 : decode cX2_add 83 = .ok (.putfield 20, 3) := by decide +kernel
theorem dX2_add_86 : decode cX2_add 86 = .ok (.return_, 1) := by decide +kernel
theorem dX2_isSeen_0 : decode cX2_isSeen 0 = .ok (.aload_n 0, 1) := by decide +kernel
theorem dX2_isSeen_1 : decode cX2_isSeen 1 = .ok (.getfield 23, 3) := by decide +kernel
theorem dX2_isSeen_4 : decode cX2_isSeen 4 = .ok (.iload_n 1, 1) := by decide +kernel
theorem dX2_isSeen_5 : decode cX2_isSeen 5 = .ok (.bipush 64, 2) := by decide +kernel
theorem dX2_isSeen_7 : decode cX2_isSeen 7 = .ok (.idiv, 1) := by decide +kernel
theorem dX2_isSeen_8 : decode cX2_isSeen 8 = .ok (.laload, 1) := by decide +kernel
theorem dX2_isSeen_9 : decode cX2_isSeen 9 = .ok (.iload_n 1, 1) := by decide +kernel
theorem dX2_isSeen_10 : decode cX2_isSeen 10 = .ok (.bipush 64, 2) := by decide +kernel
theorem dX2_isSeen_12 : decode cX2_isSeen 12 = .ok (.irem, 1) := by decide +kernel
theorem dX2_isSeen_13 : decode cX2_isSeen 13 = .ok (.lshr, 1) := by decide +kernel
theorem dX2_isSeen_14 : decode cX2_isSeen 14 = .ok (.lconst 1, 1) := by decide +kernel
theorem dX2_isSeen_15 : decode cX2_isSeen 15 = .ok (.land, 1) := by decide +kernel
theorem dX2_isSeen_16 : decode cX2_isSeen 16 = .ok (.lconst 0, 1) := by decide +kernel
theorem dX2_isSeen_17 : decode cX2_isSeen 17 = .ok (.lcmp, 1) := by decide +kernel
theorem dX2_isSeen_18 : decode cX2_isSeen 18 = .ok (.ifCond .eq 7, 3) := by decide +kernel
theorem dX2_isSeen_21 : decode cX2_isSeen 21 = .ok (.iconst 1, 1) := by decide +kernel
theorem dX2_isSeen_22 : decode cX2_isSeen 22 = .ok (.goto 4, 3) := by decide +kernel
theorem dX2_isSeen_25 : decode cX2_isSeen 25 = .ok (.iconst 0, 1) := by decide +kernel
theorem dX2_isSeen_26 : decode cX2_isSeen 26 = .ok (.ireturn, 1) := by decide +kernel
theorem dX2_isEnd_0 : decode cX2_isEnd 0 = .ok (.aload_n 0, 1) := by decide +kernel
theorem dX2_isEnd_1 : decode cX2_isEnd 1 = .ok (.ldc 50, 2) := by decide +kernel
theorem dX2_isEnd_3 : decode cX2_isEnd 3 = .ok (.iload_n 1, 1) := by decide +kernel
theorem dX2_isEnd_4 : decode cX2_isEnd 4 = .ok (.iadd, 1) := by decide +kernel
theorem dX2_isEnd_5 : decode cX2_isEnd 5 = .ok (.invokevirtual 46, 3) := by decide +kernel
theorem dX2_isEnd_8 : decode cX2_isEnd 8 = .ok (.ireturn, 1) := by decide +kernel
theorem dX2_countEnds_0 : decode cX2_countEnds 0 = .ok (.iconst 0, 1) := by decide +kernel
theorem dX2_countEnds_1 : decode cX2_countEnds 1 = .ok (.istore_n 1, 1) := by decide +kernel
theorem dX2_countEnds_2 : decode cX2_countEnds 2 = .ok (.iconst 0, 1) := by decide +kernel
theorem dX2_countEnds_3 : decode cX2_countEnds 3 = .ok (.istore_n 2, 1) := by decide +kernel
theorem dX2_countEnds_4 : decode cX2_countEnds 4 = .ok (.iload_n 2, 1) := by decide +kernel
theorem dX2_countEnds_5 : decode cX2_countEnds 5 = .ok (.sipush 256, 3) := by decide +kernel
theorem dX2_countEnds_8 : decode cX2_countEnds 8 = .ok (.if_icmp .ge 25, 3) := by decide +kernel
theorem dX2_countEnds_11 : decode cX2_countEnds 11 = .ok (.iload_n 1, 1) := by decide +kernel
theorem dX2_countEnds_12 : decode cX2_countEnds 12 = .ok (.aload_n 0, 1) := by decide +kernel
theorem dX2_countEnds_13 : decode cX2_countEnds 13 = .ok (.iload_n 2, 1) := by decide +kernel
theorem dX2_countEnds_14 : decode cX2_countEnds 14 = .ok (.invokevirtual 51, 3) := by decide +kernel
theorem dX2_countEnds_17 : decode cX2_countEnds 17 = .ok (.ifCond .eq 7, 3) := by decide +kernel
theorem dX2_countEnds_20 : decode cX2_countEnds 20 = .ok (.iconst 1, 1) := by decide +kernel
theorem dX2_countEnds_21 : decode cX2_countEnds 21 = .ok (.goto 4, 3) := by decide +kernel
theorem dX2_countEnds_24 : decode cX2_countEnds 24 = .ok (.iconst 0, 1) := by decide +kernel
theorem dX2_countEnds_25 : decode cX2_countEnds 25 = .ok (.iadd, 1) := by decide +kernel
theorem dX2_countEnds_26 : decode cX2_countEnds 26 = .ok (.istore_n 1, 1) := by decide +kernel
theorem dX2_countEnds_27 : decode cX2_countEnds 27 = .ok (.iinc 2 1, 3) := by decide +kernel
theorem dX2_countEnds_30 : decode cX2_countEnds 30 = .ok (.goto (-26), 3) := by decide +kernel
theorem dX2_countEnds_33 : decode cX2_countEnds 33 = .ok (.iload_n 1, 1) := by decide +kernel
theorem dX2_countEnds_34 : decode cX2_countEnds 34 = .ok (.ireturn, 1) := by decide +kernel
theorem dX2_leastEnd_0 : decode cX2_leastEnd 0 = .ok (.iconst 0, 1) := by decide +kernel
theorem dX2_leastEnd_1 : decode cX2_leastEnd 1 = .ok (.istore_n 1, 1) := by decide +kernel
theorem dX2_leastEnd_2 : decode cX2_leastEnd 2 = .ok (.iload_n 1, 1) := by decide +kernel
theorem dX2_leastEnd_3 : decode cX2_leastEnd 3 = .ok (.sipush 256, 3) := by decide +kernel
theorem dX2_leastEnd_6 : decode cX2_leastEnd 6 = .ok (.if_icmp .ge 19, 3) := by decide +kernel
theorem dX2_leastEnd_9 : decode cX2_leastEnd 9 = .ok (.aload_n 0, 1) := by decide +kernel
theorem dX2_leastEnd_10 : decode cX2_leastEnd 10 = .ok (.iload_n 1, 1) := by decide +kernel
theorem dX2_leastEnd_11 : decode cX2_leastEnd 11 = .ok (.invokevirtual 51, 3) := by decide +kernel
theorem dX2_leastEnd_14 : decode cX2_leastEnd 14 = .ok (.ifCond .eq 5, 3) := by decide +kernel
theorem dX2_leastEnd_17 : decode cX2_leastEnd 17 = .ok (.iload_n 1, 1) := by decide +kernel
theorem dX2_leastEnd_18 : decode cX2_leastEnd 18 = .ok (.ireturn, 1) := by decide +kernel
theorem dX2_leastEnd_19 : decode cX2_leastEnd 19 = .ok (.iinc 1 1, 3) := by decide +kernel
theorem dX2_leastEnd_22 : decode cX2_leastEnd 22 = .ok (.goto (-20), 3) := by decide +kernel
theorem dX2_leastEnd_25 : decode cX2_leastEnd 25 = .ok (.bipush (-6), 2) := by decide +kernel
theorem dX2_leastEnd_27 : decode cX2_leastEnd 27 = .ok (.ireturn, 1) := by decide +kernel
theorem dX3_init_0 : decode cX3_init 0 = .ok (.aload_n 0, 1) := by decide +kernel
theorem dX3_init_1 : decode cX3_init 1 = .ok (.invokespecial 3, 3) := by decide +kernel
theorem dX3_init_4 : decode cX3_init 4 = .ok (.aload_n 0, 1) := by decide +kernel
theorem dX3_init_5 : decode cX3_init 5 = .ok (.aload_n 1, 1) := by decide +kernel
theorem dX3_init_6 : decode cX3_init 6 = .ok (.putfield 9, 3) := by decide +kernel
theorem dX3_init_9 : decode cX3_init 9 = .ok (.aload_n 0, 1) := by decide +kernel
theorem dX3_init_10 : decode cX3_init 10 = .ok (.bipush (-6), 2) := by decide +kernel
theorem dX3_init_12 : decode cX3_init 12 = .ok (.putfield 15, 3) := by decide +kernel
theorem dX3_init_15 : decode cX3_init 15 = .ok (.return_, 1) := by decide +kernel
theorem dX3_judge_0 : decode cX3_judge 0 = .ok (.aload_n 2, 1) := by decide +kernel
theorem dX3_judge_1 : decode cX3_judge 1 = .ok (.invokevirtual 19, 3) := by decide +kernel
theorem dX3_judge_4 : decode cX3_judge 4 = .ok (.aload_n 3, 1) := by decide +kernel
theorem dX3_judge_5 : decode cX3_judge 5 = .ok (.invokevirtual 19, 3) := by decide +kernel
theorem dX3_judge_8 : decode cX3_judge 8 = .ok (.aload_n 0, 1) := by decide +kernel
theorem dX3_judge_9 : decode cX3_judge 9 = .ok (.iconst 0, 1) := by decide +kernel
theorem dX3_judge_10 : decode cX3_judge 10 = .ok (.putfield 24, 3) := by decide +kernel
theorem dX3_judge_13 : decode cX3_judge 13 = .ok (.aload_n 0, 1) := by decide +kernel
theorem dX3_judge_14 : decode cX3_judge 14 = .ok (.bipush (-6), 2) := by decide +kernel
theorem dX3_judge_16 : decode cX3_judge 16 = .ok (.putfield 27, 3) := by decide +kernel
theorem dX3_judge_19 : decode cX3_judge 19 = .ok (.aload_n 0, 1) := by decide +kernel
theorem dX3_judge_20 : decode cX3_judge 20 = .ok (.iconst 0, 1) := by decide +kernel
theorem dX3_judge_21 : decode cX3_judge 21 = .ok (.putfield 30, 3) := by decide +kernel
theorem dX3_judge_24 : decode cX3_judge 24 = .ok (.aload_n 0, 1) := by decide +kernel
theorem dX3_judge_25 : decode cX3_judge 25 = .ok (.bipush (-6), 2) := by decide +kernel
theorem dX3_judge_27 : decode cX3_judge 27 = .ok (.putfield 33, 3) := by decide +kernel
theorem dX3_judge_30 : decode cX3_judge 30 = .ok (.iconst 0, 1) := by decide +kernel
theorem dX3_judge_31 : decode cX3_judge 31 = .ok (.istore 4, 2) := by decide +kernel
theorem dX3_judge_33 : decode cX3_judge 33 = .ok (.iload 4, 2) := by decide +kernel
theorem dX3_judge_35 : decode cX3_judge 35 = .ok (.sipush 256, 3) := by decide +kernel
theorem dX3_judge_38 : decode cX3_judge 38 = .ok (.if_icmp .ge 67, 3) := by decide +kernel
theorem dX3_judge_41 : decode cX3_judge 41 = .ok (.aload_n 0, 1) := by decide +kernel
theorem dX3_judge_42 : decode cX3_judge 42 = .ok (.getfield 30, 3) := by decide +kernel
theorem dX3_judge_45 : decode cX3_judge 45 = .ok (.aload_n 0, 1) := by decide +kernel
theorem dX3_judge_46 : decode cX3_judge 46 = .ok (.getfield 24, 3) := by decide +kernel
theorem dX3_judge_49 : decode cX3_judge 49 = .ok (.isub, 1) := by decide +kernel
theorem dX3_judge_50 : decode cX3_judge 50 = .ok (.istore 5, 2) := by decide +kernel
theorem dX3_judge_52 : decode cX3_judge 52 = .ok (.aload_n 0, 1) := by decide +kernel
theorem dX3_judge_53 : decode cX3_judge 53 = .ok (.getfield 9, 3) := by decide +kernel
theorem dX3_judge_56 : decode cX3_judge 56 = .ok (.aload_n 1, 1) := by decide +kernel
theorem dX3_judge_57 : decode cX3_judge 57 = .ok (.aload_n 2, 1) := by decide +kernel
theorem dX3_judge_58 : decode cX3_judge 58 = .ok (.iload 4, 2) := by decide +kernel
theorem dX3_judge_60 : decode cX3_judge 60 = .ok (.invokevirtual 36, 3) := by decide +kernel
theorem dX3_judge_63 : decode cX3_judge 63 = .ok (.aload_n 0, 1) := by decide +kernel
theorem dX3_judge_64 : decode cX3_judge 64 = .ok (.iload 4, 2) := by decide +kernel
theorem dX3_judge_66 : decode cX3_judge 66 = .ok (.aload_n 3, 1) := by decide +kernel
theorem dX3_judge_67 : decode cX3_judge 67 = .ok (.invokevirtual 42, 3) := by decide +kernel
theorem dX3_judge_70 : decode cX3_judge 70 = .ok (.aload_n 0, 1) := by decide +kernel
theorem dX3_judge_71 : decode cX3_judge 71 = .ok (.getfield 33, 3) := by decide +kernel
theorem dX3_judge_74 : decode cX3_judge 74 = .ok (.bipush (-6), 2) := by decide +kernel
theorem dX3_judge_76 : decode cX3_judge 76 = .ok (.if_icmp .ne 23, 3) := by decide +kernel
theorem dX3_judge_79 : decode cX3_judge 79 = .ok (.aload_n 0, 1) := by decide +kernel
theorem dX3_judge_80 : decode cX3_judge 80 = .ok (.getfield 30, 3) := by decide +kernel
theorem dX3_judge_83 : decode cX3_judge 83 = .ok (.aload_n 0, 1) := by decide +kernel
theorem dX3_judge_84 : decode cX3_judge 84 = .ok (.getfield 24, 3) := by decide +kernel
theorem dX3_judge_87 : decode cX3_judge 87 = .ok (.isub, 1) := by decide +kernel
theorem dX3_judge_88 : decode cX3_judge 88 = .ok (.iload 5, 2) := by decide +kernel
theorem dX3_judge_90 : decode cX3_judge 90 = .ok (.if_icmp .ne 9, 3) := by decide +kernel
theorem dX3_judge_93 : decode cX3_judge 93 = .ok (.aload_n 0, 1) := by decide +kernel
theorem dX3_judge_94 : decode cX3_judge 94 = .ok (.iload 4, 2) := by decide +kernel
theorem dX3_judge_96 : decode cX3_judge 96 = .ok (.putfield 33, 3) := by decide +kernel
theorem dX3_judge_99 : decode cX3_judge 99 = .ok (.iinc 4 1, 3) := by decide +kernel
theorem dX3_judge_102 : decode cX3_judge 102 = .ok (.goto (-69), 3) := by decide +kernel
theorem dX3_judge_105 : decode cX3_judge 105 = .ok (.return_, 1) := by decide +kernel
theorem dX3_judgeStart_0 : decode cX3_judgeStart 0 = .ok (.iconst 0, 1) := by decide +kernel
theorem dX3_judgeStart_1 : decode cX3_judgeStart 1 = .ok (.istore_n 3, 1) := by decide +kernel
theorem dX3_judgeStart_2 : decode cX3_judgeStart 2 = .ok (.iload_n 3, 1) := by decide +kernel
theorem dX3_judgeStart_3 : decode cX3_judgeStart 3 = .ok (.sipush 256, 3) := by decide +kernel
theorem dX3_judgeStart_6 : decode cX3_judgeStart 6 = .ok (.if_icmp .ge 82, 3) := by decide +kernel
theorem dX3_judgeStart_9 : decode cX3_judgeStart 9 = .ok (.aload_n 0, 1) := by decide +kernel
theorem dX3_judgeStart_10 : decode cX3_judgeStart 10 = .ok (.getfield 9, 3) := by decide +kernel
theorem dX3_judgeStart_13 : decode cX3_judgeStart 13 = .ok (.iload_n 3, 1) := by decide +kernel
theorem dX3_judgeStart_14 : decode cX3_judgeStart 14 = .ok (.invokevirtual 46, 3) := by decide +kernel
theorem dX3_judgeStart_17 : decode cX3_judgeStart 17 = .ok (.ifCond .ne 6, 3) := by decide +kernel
theorem dX3_judgeStart_20 : decode cX3_judgeStart 20 = .ok (.goto 62, 3) := by decide +kernel
theorem dX3_judgeStart_23 : decode cX3_judgeStart 23 = .ok (.aload_n 0, 1) := by decide +kernel
theorem dX3_judgeStart_24 : decode cX3_judgeStart 24 = .ok (.dup, 1) := by decide +kernel
theorem dX3_judgeStart_25 : decode cX3_judgeStart 25 = .ok (.getfield 30, 3) := by decide +kernel
theorem dX3_judgeStart_28 : decode cX3_judgeStart 28 = .ok (.iconst 1, 1) := by decide +kernel
theorem dX3_judgeStart_29 : decode cX3_judgeStart 29 = .ok (.iadd, 1) := by decide +kernel
theorem dX3_judgeStart_30 : decode cX3_judgeStart 30 = .ok (.putfield 30, 3) := by decide +kernel
theorem dX3_judgeStart_33 : decode cX3_judgeStart 33 = .ok (.aload_n 0, 1) := by decide +kernel
theorem dX3_judgeStart_34 : decode cX3_judgeStart 34 = .ok (.getfield 9, 3) := by decide +kernel
theorem dX3_judgeStart_37 : decode cX3_judgeStart 37 = .ok (.aload_n 2, 1) := by decide +kernel
theorem dX3_judgeStart_38 : decode cX3_judgeStart 38 = .ok (.iload_n 3, 1) := by decide +kernel
theorem dX3_judgeStart_39 : decode cX3_judgeStart 39 = .ok (.invokevirtual 50, 3) := by decide +kernel
theorem dX3_judgeStart_42 : decode cX3_judgeStart 42 = .ok (.ifCond .eq 40, 3) := by decide +kernel
theorem dX3_judgeStart_45 : decode cX3_judgeStart 45 = .ok (.aload_n 0, 1) := by decide +kernel
theorem dX3_judgeStart_46 : decode cX3_judgeStart 46 = .ok (.dup, 1) := by decide +kernel
theorem dX3_judgeStart_47 : decode cX3_judgeStart 47 = .ok (.getfield 24, 3) := by decide +kernel
theorem dX3_judgeStart_50 : decode cX3_judgeStart 50 = .ok (.iconst 1, 1) := by decide +kernel
theorem dX3_judgeStart_51 : decode cX3_judgeStart 51 = .ok (.iadd, 1) := by decide +kernel
theorem dX3_judgeStart_52 : decode cX3_judgeStart 52 = .ok (.putfield 24, 3) := by decide +kernel
theorem dX3_judgeStart_55 : decode cX3_judgeStart 55 = .ok (.aload_n 0, 1) := by decide +kernel
theorem dX3_judgeStart_56 : decode cX3_judgeStart 56 = .ok (.aload_n 0, 1) := by decide +kernel
theorem dX3_judgeStart_57 : decode cX3_judgeStart 57 = .ok (.getfield 27, 3) := by decide +kernel
theorem dX3_judgeStart_60 : decode cX3_judgeStart 60 = .ok (.bipush (-6), 2) := by decide +kernel
theorem dX3_judgeStart_62 : decode cX3_judgeStart 62 = .ok (.if_icmp .ne 13, 3) := by decide +kernel
theorem dX3_judgeStart_65 : decode cX3_judgeStart 65 = .ok (.iload_n 1, 1) := by decide +kernel
theorem dX3_judgeStart_66 : decode cX3_judgeStart 66 = .ok (.sipush 256, 3) := by decide +kernel
theorem dX3_judgeStart_69 : decode cX3_judgeStart 69 = .ok (.imul, 1) := by decide +kernel
theorem dX3_judgeStart_70 : decode cX3_judgeStart 70 = .ok (.iload_n 3, 1) := by decide +kernel
theorem dX3_judgeStart_71 : decode cX3_judgeStart 71 = .ok (.iadd, 1) := by decide +kernel
theorem dX3_judgeStart_72 : decode cX3_judgeStart 72 = .ok (.goto 7, 3) := by decide +kernel
theorem dX3_judgeStart_75 : decode cX3_judgeStart 75 = .ok (.aload_n 0, 1) := by decide +kernel
theorem dX3_judgeStart_76 : decode cX3_judgeStart 76 = .ok (.getfield 27, 3) := by decide +kernel
theorem dX3_judgeStart_79 : decode cX3_judgeStart 79 = .ok (.putfield 27, 3) := by decide +kernel
theorem dX3_judgeStart_82 : decode cX3_judgeStart 82 = .ok (.iinc 3 1, 3) := by decide +kernel
theorem dX3_judgeStart_85 : decode cX3_judgeStart 85 = .ok (.goto (-83), 3) := by decide +kernel
theorem dX3_judgeStart_88 : decode cX3_judgeStart 88 = .ok (.return_, 1) := by decide +kernel
theorem dX4_init_0 : decode cX4_init 0 = .ok (.aload_n 0, 1) := by decide +kernel
theorem dX4_init_1 : decode cX4_init 1 = .ok (.invokespecial 3, 3) := by decide +kernel
theorem dX4_init_4 : decode cX4_init 4 = .ok (.aload_n 0, 1) := by decide +kernel
theorem dX4_init_5 : decode cX4_init 5 = .ok (.aload_n 1, 1) := by decide +kernel
theorem dX4_init_6 : decode cX4_init 6 = .ok (.putfield 9, 3) := by decide +kernel
theorem dX4_init_9 : decode cX4_init 9 = .ok (.aload_n 0, 1) := by decide +kernel
theorem dX4_init_10 : decode cX4_init 10 = .ok (.bipush 12, 2) := by decide +kernel
theorem dX4_init_12 : decode cX4_init 12 = .ok (.newarray .int, 2) := by decide +kernel
theorem dX4_init_14 : decode cX4_init 14 = .ok (.putfield 15, 3) := by decide +kernel
theorem dX4_init_17 : decode cX4_init 17 = .ok (.aload_n 0, 1) := by decide +kernel
theorem dX4_init_18 : decode cX4_init 18 = .ok (.bipush 12, 2) := by decide +kernel
theorem dX4_init_20 : decode cX4_init 20 = .ok (.newarray .int, 2) := by decide +kernel
theorem dX4_init_22 : decode cX4_init 22 = .ok (.putfield 19, 3) := by decide +kernel
theorem dX4_init_25 : decode cX4_init 25 = .ok (.aload_n 0, 1) := by decide +kernel
theorem dX4_init_26 : decode cX4_init 26 = .ok (.bipush 12, 2) := by decide +kernel
theorem dX4_init_28 : decode cX4_init 28 = .ok (.newarray .int, 2) := by decide +kernel
theorem dX4_init_30 : decode cX4_init 30 = .ok (.putfield 22, 3) := by decide +kernel
theorem dX4_init_33 : decode cX4_init 33 = .ok (.aload_n 0, 1) := by decide +kernel
theorem dX4_init_34 : decode cX4_init 34 = .ok (.bipush 12, 2) := by decide +kernel
theorem dX4_init_36 : decode cX4_init 36 = .ok (.newarray .int, 2) := by decide +kernel
theorem dX4_init_38 : decode cX4_init 38 = .ok (.putfield 25, 3) := by decide +kernel
theorem dX4_init_41 : decode cX4_init 41 = .ok (.aload_n 0, 1) := by decide +kernel
theorem dX4_init_42 : decode cX4_init 42 = .ok (.iconst 0, 1) := by decide +kernel
theorem dX4_init_43 : decode cX4_init 43 = .ok (.putfield 28, 3) := by decide +kernel
theorem dX4_init_46 : decode cX4_init 46 = .ok (.aload_n 0, 1) := by decide +kernel
theorem dX4_init_47 : decode cX4_init 47 = .ok (.iconst 0, 1) := by decide +kernel
theorem dX4_init_48 : decode cX4_init 48 = .ok (.putfield 32, 3) := by decide +kernel
theorem dX4_init_51 : decode cX4_init 51 = .ok (.aload_n 0, 1) := by decide +kernel
theorem dX4_init_52 : decode cX4_init 52 = .ok (.iconst 1, 1) := by decide +kernel
theorem dX4_init_53 : decode cX4_init 53 = .ok (.putfield 35, 3) := by decide +kernel
theorem dX4_init_56 : decode cX4_init 56 = .ok (.aload_n 0, 1) := by decide +kernel
theorem dX4_init_57 : decode cX4_init 57 = .ok (.sipush 256, 3) := by decide +kernel
theorem dX4_init_60 : decode cX4_init 60 = .ok (.newarray .int, 2) := by decide +kernel
theorem dX4_init_62 : decode cX4_init 62 = .ok (.putfield 38, 3) := by decide +kernel
theorem dX4_init_65 : decode cX4_init 65 = .ok (.aload_n 0, 1) := by decide +kernel
theorem dX4_init_66 : decode cX4_init 66 = .ok (.sipush 6400, 3) := by decide +kernel
theorem dX4_init_69 : decode cX4_init 69 = .ok (.newarray .int, 2) := by decide +kernel
theorem dX4_init_71 : decode cX4_init 71 = .ok (.putfield 41, 3) := by decide +kernel
theorem dX4_init_74 : decode cX4_init 74 = .ok (.aload_n 0, 1) := by decide +kernel
theorem dX4_init_75 : decode cX4_init 75 = .ok (.sipush 256, 3) := by decide +kernel
theorem dX4_init_78 : decode cX4_init 78 = .ok (.newarray .int, 2) := by decide +kernel
theorem dX4_init_80 : decode cX4_init 80 = .ok (.putfield 44, 3) := by decide +kernel
theorem dX4_init_83 : decode cX4_init 83 = .ok (.aload_n 0, 1) := by decide +kernel
theorem dX4_init_84 : decode cX4_init 84 = .ok (.sipush 256, 3) := by decide +kernel
theorem dX4_init_87 : decode cX4_init 87 = .ok (.newarray .int, 2) := by decide +kernel
theorem dX4_init_89 : decode cX4_init 89 = .ok (.putfield 47, 3) := by decide +kernel
theorem dX4_init_92 : decode cX4_init 92 = .ok (.aload_n 0, 1) := by decide +kernel
theorem dX4_init_93 : decode cX4_init 93 = .ok (.sipush 256, 3) := by decide +kernel
theorem dX4_init_96 : decode cX4_init 96 = .ok (.newarray .int, 2) := by decide +kernel
theorem dX4_init_98 : decode cX4_init 98 = .ok (.putfield 50, 3) := by decide +kernel
theorem dX4_init_101 : decode cX4_init 101 = .ok (.aload_n 0, 1) := by decide +kernel
theorem dX4_init_102 : decode cX4_init 102 = .ok (.sipush 256, 3) := by decide +kernel
theorem dX4_init_105 : decode cX4_init 105 = .ok (.newarray .int, 2) := by decide +kernel
theorem dX4_init_107 : decode cX4_init 107 = .ok (.putfield 53, 3) := by decide +kernel
theorem dX4_init_110 : decode cX4_init 110 = .ok (.aload_n 0, 1) := by decide +kernel
theorem dX4_init_111 : decode cX4_init 111 = .ok (.sipush 256, 3) := by decide +kernel
theorem dX4_init_114 : decode cX4_init 114 = .ok (.newarray .int, 2) := by decide +kernel
theorem dX4_init_116 : decode cX4_init 116 = .ok (.putfield 56, 3) := by decide +kernel
theorem dX4_init_119 : decode cX4_init 119 = .ok (.aload_n 0, 1) := by decide +kernel
theorem dX4_init_120 : decode cX4_init 120 = .ok (.sipush 256, 3) := by decide +kernel
theorem dX4_init_123 : decode cX4_init 123 = .ok (.newarray .long, 2) := by decide +kernel
theorem dX4_init_125 : decode cX4_init 125 = .ok (.putfield 59, 3) := by decide +kernel
theorem dX4_init_128 : decode cX4_init 128 = .ok (.return_, 1) := by decide +kernel
theorem dX4_put_0 : decode cX4_put 0 = .ok (.iload_n 1, 1) := by decide +kernel
theorem dX4_put_1 : decode cX4_put 1 = .ok (.ifCond .lt 9, 3) := by decide +kernel
theorem dX4_put_4 : decode cX4_put 4 = .ok (.iload_n 1, 1) := by decide +kernel
theorem dX4_put_5 : decode cX4_put 5 = .ok (.bipush 12, 2) := by decide +kernel
theorem dX4_put_7 : decode cX4_put 7 = .ok (.if_icmp .lt 4, 3) := by decide +kernel
theorem dX4_put_10 : decode cX4_put 10 = .ok (.return_, 1) := by decide +kernel
theorem dX4_put_11 : decode cX4_put 11 = .ok (.aload_n 0, 1) := by decide +kernel
theorem dX4_put_12 : decode cX4_put 12 = .ok (.getfield 15, 3) := by decide +kernel
theorem dX4_put_15 : decode cX4_put 15 = .ok (.iload_n 1, 1) := by decide +kernel
theorem dX4_put_16 : decode cX4_put 16 = .ok (.iload_n 2, 1) := by decide +kernel
theorem dX4_put_17 : decode cX4_put 17 = .ok (.iastore, 1) := by decide +kernel
theorem dX4_put_18 : decode cX4_put 18 = .ok (.aload_n 0, 1) := by decide +kernel
theorem dX4_put_19 : decode cX4_put 19 = .ok (.getfield 19, 3) := by decide +kernel
theorem dX4_put_22 : decode cX4_put 22 = .ok (.iload_n 1, 1) := by decide +kernel
theorem dX4_put_23 : decode cX4_put 23 = .ok (.iload_n 3, 1) := by decide +kernel
theorem dX4_put_24 : decode cX4_put 24 = .ok (.iastore, 1) := by decide +kernel
theorem dX4_put_25 : decode cX4_put 25 = .ok (.aload_n 0, 1) := by decide +kernel
theorem dX4_put_26 : decode cX4_put 26 = .ok (.getfield 22, 3) := by decide +kernel
theorem dX4_put_29 : decode cX4_put 29 = .ok (.iload_n 1, 1) := by decide +kernel
theorem dX4_put_30 : decode cX4_put 30 = .ok (.iload 4, 2) := by decide +kernel
theorem dX4_put_32 : decode cX4_put 32 = .ok (.iastore, 1) := by decide +kernel
theorem dX4_put_33 : decode cX4_put 33 = .ok (.aload_n 0, 1) := by decide +kernel
theorem dX4_put_34 : decode cX4_put 34 = .ok (.getfield 25, 3) := by decide +kernel
theorem dX4_put_37 : decode cX4_put 37 = .ok (.iload_n 1, 1) := by decide +kernel
theorem dX4_put_38 : decode cX4_put 38 = .ok (.iload 5, 2) := by decide +kernel
theorem dX4_put_40 : decode cX4_put 40 = .ok (.iastore, 1) := by decide +kernel
theorem dX4_put_41 : decode cX4_put 41 = .ok (.aload_n 0, 1) := by decide +kernel
theorem dX4_put_42 : decode cX4_put 42 = .ok (.dup, 1) := by decide +kernel
theorem dX4_put_43 : decode cX4_put 43 = .ok (.getfield 35, 3) := by decide +kernel
theorem dX4_put_46 : decode cX4_put 46 = .ok (.iconst 1, 1) := by decide +kernel
theorem dX4_put_47 : decode cX4_put 47 = .ok (.iadd, 1) := by decide +kernel
theorem dX4_put_48 : decode cX4_put 48 = .ok (.putfield 35, 3) := by decide +kernel
theorem dX4_put_51 : decode cX4_put 51 = .ok (.return_, 1) := by decide +kernel
theorem dX4_hush_0 : decode cX4_hush 0 = .ok (.aload_n 0, 1) := by decide +kernel
theorem dX4_hush_1 : decode cX4_hush 1 = .ok (.iload_n 1, 1) := by decide +kernel
theorem dX4_hush_2 : decode cX4_hush 2 = .ok (.putfield 32, 3) := by decide +kernel
theorem dX4_hush_5 : decode cX4_hush 5 = .ok (.aload_n 0, 1) := by decide +kernel
theorem dX4_hush_6 : decode cX4_hush 6 = .ok (.dup, 1) := by decide +kernel
theorem dX4_hush_7 : decode cX4_hush 7 = .ok (.getfield 35, 3) := by decide +kernel
theorem dX4_hush_10 : decode cX4_hush 10 = .ok (.iconst 1, 1) := by decide +kernel
theorem dX4_hush_11 : decode cX4_hush 11 = .ok (.iadd, 1) := by decide +kernel
theorem dX4_hush_12 : decode cX4_hush 12 = .ok (.putfield 35, 3) := by decide +kernel
theorem dX4_hush_15 : decode cX4_hush 15 = .ok (.return_, 1) := by decide +kernel
theorem dX4_stateAt_0 : decode cX4_stateAt 0 = .ok (.iload_n 1, 1) := by decide +kernel
theorem dX4_stateAt_1 : decode cX4_stateAt 1 = .ok (.aload_n 0, 1) := by decide +kernel
theorem dX4_stateAt_2 : decode cX4_stateAt 2 = .ok (.getfield 28, 3) := by decide +kernel
theorem dX4_stateAt_5 : decode cX4_stateAt 5 = .ok (.if_icmp .lt 8, 3) := by decide +kernel
theorem dX4_stateAt_8 : decode cX4_stateAt 8 = .ok (.bipush 12, 2) := by decide +kernel
theorem dX4_stateAt_10 : decode cX4_stateAt 10 = .ok (.goto 4, 3) := by decide +kernel
theorem dX4_stateAt_13 : decode cX4_stateAt 13 = .ok (.iload_n 1, 1) := by decide +kernel
theorem dX4_stateAt_14 : decode cX4_stateAt 14 = .ok (.sipush 256, 3) := by decide +kernel
theorem dX4_stateAt_17 : decode cX4_stateAt 17 = .ok (.imul, 1) := by decide +kernel
theorem dX4_stateAt_18 : decode cX4_stateAt 18 = .ok (.iload_n 2, 1) := by decide +kernel
theorem dX4_stateAt_19 : decode cX4_stateAt 19 = .ok (.iadd, 1) := by decide +kernel
theorem dX4_stateAt_20 : decode cX4_stateAt 20 = .ok (.ireturn, 1) := by decide +kernel
theorem dX4_stepped_0 : decode cX4_stepped 0 = .ok (.iload_n 1, 1) := by decide +kernel
theorem dX4_stepped_1 : decode cX4_stepped 1 = .ok (.ifCond .lt 17, 3) := by decide +kernel
theorem dX4_stepped_4 : decode cX4_stepped 4 = .ok (.iload_n 1, 1) := by decide +kernel
theorem dX4_stepped_5 : decode cX4_stepped 5 = .ok (.aload_n 0, 1) := by decide +kernel
theorem dX4_stepped_6 : decode cX4_stepped 6 = .ok (.getfield 28, 3) := by decide +kernel
theorem dX4_stepped_9 : decode cX4_stepped 9 = .ok (.if_icmp .ge 9, 3) := by decide +kernel
theorem dX4_stepped_12 : decode cX4_stepped 12 = .ok (.iload_n 1, 1) := by decide +kernel
theorem dX4_stepped_13 : decode cX4_stepped 13 = .ok (.bipush 12, 2) := by decide +kernel
theorem dX4_stepped_15 : decode cX4_stepped 15 = .ok (.if_icmp .lt 9, 3) := by decide +kernel
theorem dX4_stepped_18 : decode cX4_stepped 18 = .ok (.sipush 3072, 3) := by decide +kernel
theorem dX4_stepped_21 : decode cX4_stepped 21 = .ok (.iload_n 2, 1) := by decide +kernel
theorem dX4_stepped_22 : decode cX4_stepped 22 = .ok (.iadd, 1) := by decide +kernel
theorem dX4_stepped_23 : decode cX4_stepped 23 = .ok (.ireturn, 1) := by decide +kernel
theorem dX4_stepped_24 : decode cX4_stepped 24 = .ok (.aload_n 0, 1) := by decide +kernel
theorem dX4_stepped_25 : decode cX4_stepped 25 = .ok (.getfield 19, 3) := by decide +kernel
theorem dX4_stepped_28 : decode cX4_stepped 28 = .ok (.iload_n 1, 1) := by decide +kernel
theorem dX4_stepped_29 : decode cX4_stepped 29 = .ok (.iaload, 1) := by decide +kernel
theorem dX4_stepped_30 : decode cX4_stepped 30 = .ok (.istore_n 3, 1) := by decide +kernel
theorem dX4_stepped_31 : decode cX4_stepped 31 = .ok (.iload_n 2, 1) := by decide +kernel
theorem dX4_stepped_32 : decode cX4_stepped 32 = .ok (.aload_n 0, 1) := by decide +kernel
theorem dX4_stepped_33 : decode cX4_stepped 33 = .ok (.getfield 22, 3) := by decide +kernel
theorem dX4_stepped_36 : decode cX4_stepped 36 = .ok (.iload_n 1, 1) := by decide +kernel
theorem dX4_stepped_37 : decode cX4_stepped 37 = .ok (.iaload, 1) := by decide +kernel
theorem dX4_stepped_38 : decode cX4_stepped 38 = .ok (.iconst 3, 1) := by decide +kernel
theorem dX4_stepped_39 : decode cX4_stepped 39 = .ok (.iand, 1) := by decide +kernel
theorem dX4_stepped_40 : decode cX4_stepped 40 = .ok (.invokestatic 63, 3) := by decide +kernel
theorem dX4_stepped_43 : decode cX4_stepped 43 = .ok (.istore 4, 2) := by decide +kernel
theorem dX4_stepped_45 : decode cX4_stepped 45 = .ok (.iload_n 2, 1) := by decide +kernel
theorem dX4_stepped_46 : decode cX4_stepped 46 = .ok (.aload_n 0, 1) := by decide +kernel
theorem dX4_stepped_47 : decode cX4_stepped 47 = .ok (.getfield 25, 3) := by decide +kernel
theorem dX4_stepped_50 : decode cX4_stepped 50 = .ok (.iload_n 1, 1) := by decide +kernel
theorem dX4_stepped_51 : decode cX4_stepped 51 = .ok (.iaload, 1) := by decide +kernel
theorem dX4_stepped_52 : decode cX4_stepped 52 = .ok (.iconst 3, 1) := by decide +kernel
theorem dX4_stepped_53 : decode cX4_stepped 53 = .ok (.iand, 1) := by decide +kernel
theorem dX4_stepped_54 : decode cX4_stepped 54 = .ok (.invokestatic 63, 3) := by decide +kernel
theorem dX4_stepped_57 : decode cX4_stepped 57 = .ok (.istore 5, 2) := by decide +kernel
theorem dX4_stepped_59 : decode cX4_stepped 59 = .ok (.aload_n 0, 1) := by decide +kernel
theorem dX4_stepped_60 : decode cX4_stepped 60 = .ok (.getfield 15, 3) := by decide +kernel
theorem dX4_stepped_63 : decode cX4_stepped 63 = .ok (.iload_n 1, 1) := by decide +kernel
theorem dX4_stepped_64 : decode cX4_stepped 64 = .ok (.iaload, 1) := by decide +kernel
theorem dX4_stepped_65 : decode cX4_stepped 65 = .ok (.tableswitch 177 0 6 #[43, 62, 77, 95, 113, 142, 168], 43) := by decide +kernel
theorem dX4_stepped_108 : decode cX4_stepped 108 = .ok (.aload_n 0, 1) := by decide +kernel
theorem dX4_stepped_109 : decode cX4_stepped 109 = .ok (.iload_n 1, 1) := by decide +kernel
theorem dX4_stepped_110 : decode cX4_stepped 110 = .ok (.iconst 1, 1) := by decide +kernel
theorem dX4_stepped_111 : decode cX4_stepped 111 = .ok (.iadd, 1) := by decide +kernel
theorem dX4_stepped_112 : decode cX4_stepped 112 = .ok (.iload_n 2, 1) := by decide +kernel
theorem dX4_stepped_113 : decode cX4_stepped 113 = .ok (.iload_n 3, 1) := by decide +kernel
theorem dX4_stepped_114 : decode cX4_stepped 114 = .ok (.aload_n 0, 1) := by decide +kernel
theorem dX4_stepped_115 : decode cX4_stepped 115 = .ok (.getfield 22, 3) := by decide +kernel
theorem dX4_stepped_118 : decode cX4_stepped 118 = .ok (.iload_n 1, 1) := by decide +kernel
theorem dX4_stepped_119 : decode cX4_stepped 119 = .ok (.iaload, 1) := by decide +kernel
theorem dX4_stepped_120 : decode cX4_stepped 120 = .ok (.invokestatic 67, 3) := by decide +kernel
theorem dX4_stepped_123 : decode cX4_stepped 123 = .ok (.invokevirtual 71, 3) := by decide +kernel
theorem dX4_stepped_126 : decode cX4_stepped 126 = .ok (.ireturn, 1) := by decide +kernel
theorem dX4_stepped_127 : decode cX4_stepped 127 = .ok (.aload_n 0, 1) := by decide +kernel
theorem dX4_stepped_128 : decode cX4_stepped 128 = .ok (.iload_n 1, 1) := by decide +kernel
theorem dX4_stepped_129 : decode cX4_stepped 129 = .ok (.iconst 1, 1) := by decide +kernel
theorem dX4_stepped_130 : decode cX4_stepped 130 = .ok (.iadd, 1) := by decide +kernel
theorem dX4_stepped_131 : decode cX4_stepped 131 = .ok (.iload_n 2, 1) := by decide +kernel
theorem dX4_stepped_132 : decode cX4_stepped 132 = .ok (.iload_n 3, 1) := by decide +kernel
theorem dX4_stepped_133 : decode cX4_stepped 133 = .ok (.iload 4, 2) := by decide +kernel
theorem dX4_stepped_135 : decode cX4_stepped 135 = .ok (.invokestatic 67, 3) := by decide +kernel
theorem dX4_stepped_138 : decode cX4_stepped 138 = .ok (.invokevirtual 71, 3) := by decide +kernel
theorem dX4_stepped_141 : decode cX4_stepped 141 = .ok (.ireturn, 1) := by decide +kernel
theorem dX4_stepped_142 : decode cX4_stepped 142 = .ok (.aload_n 0, 1) := by decide +kernel
theorem dX4_stepped_143 : decode cX4_stepped 143 = .ok (.iload_n 1, 1) := by decide +kernel
theorem dX4_stepped_144 : decode cX4_stepped 144 = .ok (.iconst 1, 1) := by decide +kernel
theorem dX4_stepped_145 : decode cX4_stepped 145 = .ok (.iadd, 1) := by decide +kernel
theorem dX4_stepped_146 : decode cX4_stepped 146 = .ok (.iload_n 2, 1) := by decide +kernel
theorem dX4_stepped_147 : decode cX4_stepped 147 = .ok (.iload_n 3, 1) := by decide +kernel
theorem dX4_stepped_148 : decode cX4_stepped 148 = .ok (.iload 4, 2) := by decide +kernel
theorem dX4_stepped_150 : decode cX4_stepped 150 = .ok (.iload 5, 2) := by decide +kernel
theorem dX4_stepped_152 : decode cX4_stepped 152 = .ok (.iadd, 1) := by decide +kernel
theorem dX4_stepped_153 : decode cX4_stepped 153 = .ok (.invokestatic 67, 3) := by decide +kernel
theorem dX4_stepped_156 : decode cX4_stepped 156 = .ok (.invokevirtual 71, 3) := by decide +kernel
theorem dX4_stepped_159 : decode cX4_stepped 159 = .ok (.ireturn, 1) := by decide +kernel
theorem dX4_stepped_160 : decode cX4_stepped 160 = .ok (.aload_n 0, 1) := by decide +kernel
theorem dX4_stepped_161 : decode cX4_stepped 161 = .ok (.iload_n 1, 1) := by decide +kernel
theorem dX4_stepped_162 : decode cX4_stepped 162 = .ok (.iconst 1, 1) := by decide +kernel
theorem dX4_stepped_163 : decode cX4_stepped 163 = .ok (.iadd, 1) := by decide +kernel
theorem dX4_stepped_164 : decode cX4_stepped 164 = .ok (.iload_n 2, 1) := by decide +kernel
theorem dX4_stepped_165 : decode cX4_stepped 165 = .ok (.iload_n 3, 1) := by decide +kernel
theorem dX4_stepped_166 : decode cX4_stepped 166 = .ok (.iload 4, 2) := by decide +kernel
theorem dX4_stepped_168 : decode cX4_stepped 168 = .ok (.iload 5, 2) := by decide +kernel
theorem dX4_stepped_170 : decode cX4_stepped 170 = .ok (.isub, 1) := by decide +kernel
theorem dX4_stepped_171 : decode cX4_stepped 171 = .ok (.invokestatic 67, 3) := by decide +kernel
theorem dX4_stepped_174 : decode cX4_stepped 174 = .ok (.invokevirtual 71, 3) := by decide +kernel
theorem dX4_stepped_177 : decode cX4_stepped 177 = .ok (.ireturn, 1) := by decide +kernel
theorem dX4_stepped_178 : decode cX4_stepped 178 = .ok (.iload 5, 2) := by decide +kernel
theorem dX4_stepped_180 : decode cX4_stepped 180 = .ok (.ifCond .ne 9, 3) := by decide +kernel
theorem dX4_stepped_183 : decode cX4_stepped 183 = .ok (.sipush 7168, 3) := by decide +kernel
theorem dX4_stepped_186 : decode cX4_stepped 186 = .ok (.iload_n 2, 1) := by decide +kernel
theorem dX4_stepped_187 : decode cX4_stepped 187 = .ok (.iadd, 1) := by decide +kernel
theorem dX4_stepped_188 : decode cX4_stepped 188 = .ok (.ireturn, 1) := by decide +kernel
theorem dX4_stepped_189 : decode cX4_stepped 189 = .ok (.aload_n 0, 1) := by decide +kernel
theorem dX4_stepped_190 : decode cX4_stepped 190 = .ok (.iload_n 1, 1) := by decide +kernel
theorem dX4_stepped_191 : decode cX4_stepped 191 = .ok (.iconst 1, 1) := by decide +kernel
theorem dX4_stepped_192 : decode cX4_stepped 192 = .ok (.iadd, 1) := by decide +kernel
theorem dX4_stepped_193 : decode cX4_stepped 193 = .ok (.iload_n 2, 1) := by decide +kernel
theorem dX4_stepped_194 : decode cX4_stepped 194 = .ok (.iload_n 3, 1) := by decide +kernel
theorem dX4_stepped_195 : decode cX4_stepped 195 = .ok (.iload 4, 2) := by decide +kernel
theorem dX4_stepped_197 : decode cX4_stepped 197 = .ok (.iload 5, 2) := by decide +kernel
theorem dX4_stepped_199 : decode cX4_stepped 199 = .ok (.irem, 1) := by decide +kernel
theorem dX4_stepped_200 : decode cX4_stepped 200 = .ok (.invokestatic 67, 3) := by decide +kernel
theorem dX4_stepped_203 : decode cX4_stepped 203 = .ok (.invokevirtual 71, 3) := by decide +kernel
theorem dX4_stepped_206 : decode cX4_stepped 206 = .ok (.ireturn, 1) := by decide +kernel
theorem dX4_stepped_207 : decode cX4_stepped 207 = .ok (.aload_n 0, 1) := by decide +kernel
theorem dX4_stepped_208 : decode cX4_stepped 208 = .ok (.iload_n 2, 1) := by decide +kernel
theorem dX4_stepped_209 : decode cX4_stepped 209 = .ok (.iload_n 3, 1) := by decide +kernel
theorem dX4_stepped_210 : decode cX4_stepped 210 = .ok (.invokestatic 63, 3) := by decide +kernel
theorem dX4_stepped_213 : decode cX4_stepped 213 = .ok (.ifCond .le 12, 3) := by decide +kernel
theorem dX4_stepped_216 : decode cX4_stepped 216 = .ok (.aload_n 0, 1) := by decide +kernel
theorem dX4_stepped_217 : decode cX4_stepped 217 = .ok (.getfield 22, 3) := by decide +kernel
theorem dX4_stepped_220 : decode cX4_stepped 220 = .ok (.iload_n 1, 1) := by decide +kernel
theorem dX4_stepped_221 : decode cX4_stepped 221 = .ok (.iaload, 1) := by decide +kernel
theorem dX4_stepped_222 : decode cX4_stepped 222 = .ok (.goto 6, 3) := by decide +kernel
theorem dX4_stepped_225 : decode cX4_stepped 225 = .ok (.iload_n 1, 1) := by decide +kernel
theorem dX4_stepped_226 : decode cX4_stepped 226 = .ok (.iconst 1, 1) := by decide +kernel
theorem dX4_stepped_227 : decode cX4_stepped 227 = .ok (.iadd, 1) := by decide +kernel
theorem dX4_stepped_228 : decode cX4_stepped 228 = .ok (.iload_n 2, 1) := by decide +kernel
theorem dX4_stepped_229 : decode cX4_stepped 229 = .ok (.invokevirtual 71, 3) := by decide +kernel
theorem dX4_stepped_232 : decode cX4_stepped 232 = .ok (.ireturn, 1) := by decide +kernel
theorem dX4_stepped_233 : decode cX4_stepped 233 = .ok (.aload_n 0, 1) := by decide +kernel
theorem dX4_stepped_234 : decode cX4_stepped 234 = .ok (.iload_n 1, 1) := by decide +kernel
theorem dX4_stepped_235 : decode cX4_stepped 235 = .ok (.iconst 1, 1) := by decide +kernel
theorem dX4_stepped_236 : decode cX4_stepped 236 = .ok (.iadd, 1) := by decide +kernel
theorem dX4_stepped_237 : decode cX4_stepped 237 = .ok (.iload_n 2, 1) := by decide +kernel
theorem dX4_stepped_238 : decode cX4_stepped 238 = .ok (.invokevirtual 71, 3) := by decide +kernel
theorem dX4_stepped_241 : decode cX4_stepped 241 = .ok (.ireturn, 1) := by decide +kernel
theorem dX4_stepped_242 : decode cX4_stepped 242 = .ok (.sipush 3072, 3) := by decide +kernel
theorem dX4_stepped_245 : decode cX4_stepped 245 = .ok (.iload_n 2, 1) := by decide +kernel
theorem dX4_stepped_246 : decode cX4_stepped 246 = .ok (.iadd, 1) := by decide +kernel
theorem dX4_stepped_247 : decode cX4_stepped 247 = .ok (.ireturn, 1) := by decide +kernel
theorem dX4_steppedState_0 : decode cX4_steppedState 0 = .ok (.aload_n 0, 1) := by decide +kernel
theorem dX4_steppedState_1 : decode cX4_steppedState 1 = .ok (.iload_n 1, 1) := by decide +kernel
theorem dX4_steppedState_2 : decode cX4_steppedState 2 = .ok (.iload_n 2, 1) := by decide +kernel
theorem dX4_steppedState_3 : decode cX4_steppedState 3 = .ok (.invokevirtual 74, 3) := by decide +kernel
theorem dX4_steppedState_6 : decode cX4_steppedState 6 = .ok (.sipush 4095, 3) := by decide +kernel
theorem dX4_steppedState_9 : decode cX4_steppedState 9 = .ok (.iand, 1) := by decide +kernel
theorem dX4_steppedState_10 : decode cX4_steppedState 10 = .ok (.ireturn, 1) := by decide +kernel
theorem dX4_traceAll_0 : decode cX4_traceAll 0 = .ok (.iconst 0, 1) := by decide +kernel
theorem dX4_traceAll_1 : decode cX4_traceAll 1 = .ok (.istore_n 1, 1) := by decide +kernel
theorem dX4_traceAll_2 : decode cX4_traceAll 2 = .ok (.iload_n 1, 1) := by decide +kernel
theorem dX4_traceAll_3 : decode cX4_traceAll 3 = .ok (.sipush 256, 3) := by decide +kernel
theorem dX4_traceAll_6 : decode cX4_traceAll 6 = .ok (.if_icmp .ge 14, 3) := by decide +kernel
theorem dX4_traceAll_9 : decode cX4_traceAll 9 = .ok (.aload_n 0, 1) := by decide +kernel
theorem dX4_traceAll_10 : decode cX4_traceAll 10 = .ok (.iload_n 1, 1) := by decide +kernel
theorem dX4_traceAll_11 : decode cX4_traceAll 11 = .ok (.invokevirtual 77, 3) := by decide +kernel
theorem dX4_traceAll_14 : decode cX4_traceAll 14 = .ok (.iinc 1 1, 3) := by decide +kernel
theorem dX4_traceAll_17 : decode cX4_traceAll 17 = .ok (.goto (-15), 3) := by decide +kernel
theorem dX4_traceAll_20 : decode cX4_traceAll 20 = .ok (.return_, 1) := by decide +kernel
theorem dX4_trace_0 : decode cX4_trace 0 = .ok (.iload_n 1, 1) := by decide +kernel
theorem dX4_trace_1 : decode cX4_trace 1 = .ok (.ifCond .lt 23, 3) := by decide +kernel
theorem dX4_trace_4 : decode cX4_trace 4 = .ok (.iload_n 1, 1) := by decide +kernel
theorem dX4_trace_5 : decode cX4_trace 5 = .ok (.sipush 256, 3) := by decide +kernel
theorem dX4_trace_8 : decode cX4_trace 8 = .ok (.if_icmp .ge 16, 3) := by decide +kernel
theorem dX4_trace_11 : decode cX4_trace 11 = .ok (.aload_n 0, 1) := by decide +kernel
theorem dX4_trace_12 : decode cX4_trace 12 = .ok (.getfield 38, 3) := by decide +kernel
theorem dX4_trace_15 : decode cX4_trace 15 = .ok (.iload_n 1, 1) := by decide +kernel
theorem dX4_trace_16 : decode cX4_trace 16 = .ok (.iaload, 1) := by decide +kernel
theorem dX4_trace_17 : decode cX4_trace 17 = .ok (.aload_n 0, 1) := by decide +kernel
theorem dX4_trace_18 : decode cX4_trace 18 = .ok (.getfield 35, 3) := by decide +kernel
theorem dX4_trace_21 : decode cX4_trace 21 = .ok (.if_icmp .ne 4, 3) := by decide +kernel
theorem dX4_trace_24 : decode cX4_trace 24 = .ok (.return_, 1) := by decide +kernel
theorem dX4_trace_25 : decode cX4_trace 25 = .ok (.iload_n 1, 1) := by decide +kernel
theorem dX4_trace_26 : decode cX4_trace 26 = .ok (.bipush 25, 2) := by decide +kernel
theorem dX4_trace_28 : decode cX4_trace 28 = .ok (.imul, 1) := by decide +kernel
theorem dX4_trace_29 : decode cX4_trace 29 = .ok (.istore_n 2, 1) := by decide +kernel
theorem dX4_trace_30 : decode cX4_trace 30 = .ok (.aload_n 0, 1) := by decide +kernel
theorem dX4_trace_31 : decode cX4_trace 31 = .ok (.iconst 0, 1) := by decide +kernel
theorem dX4_trace_32 : decode cX4_trace 32 = .ok (.iload_n 1, 1) := by decide +kernel
theorem dX4_trace_33 : decode cX4_trace 33 = .ok (.invokevirtual 71, 3) := by decide +kernel
theorem dX4_trace_36 : decode cX4_trace 36 = .ok (.istore_n 3, 1) := by decide +kernel
theorem dX4_trace_37 : decode cX4_trace 37 = .ok (.iconst 0, 1) := by decide +kernel
theorem dX4_trace_38 : decode cX4_trace 38 = .ok (.istore 4, 2) := by decide +kernel
theorem dX4_trace_40 : decode cX4_trace 40 = .ok (.iconst 0, 1) := by decide +kernel
theorem dX4_trace_41 : decode cX4_trace 41 = .ok (.istore 5, 2) := by decide +kernel
theorem dX4_trace_43 : decode cX4_trace 43 = .ok (.aload_n 0, 1) := by decide +kernel
theorem dX4_trace_44 : decode cX4_trace 44 = .ok (.getfield 41, 3) := by decide +kernel
theorem dX4_trace_47 : decode cX4_trace 47 = .ok (.iload_n 2, 1) := by decide +kernel
theorem dX4_trace_48 : decode cX4_trace 48 = .ok (.iload_n 3, 1) := by decide +kernel
theorem dX4_trace_49 : decode cX4_trace 49 = .ok (.iastore, 1) := by decide +kernel
theorem dX4_trace_50 : decode cX4_trace 50 = .ok (.iload 5, 2) := by decide +kernel
theorem dX4_trace_52 : decode cX4_trace 52 = .ok (.bipush 24, 2) := by decide +kernel
theorem dX4_trace_54 : decode cX4_trace 54 = .ok (.if_icmp .ge 67, 3) := by decide +kernel
theorem dX4_trace_57 : decode cX4_trace 57 = .ok (.iload_n 3, 1) := by decide +kernel
theorem dX4_trace_58 : decode cX4_trace 58 = .ok (.sipush 256, 3) := by decide +kernel
theorem dX4_trace_61 : decode cX4_trace 61 = .ok (.idiv, 1) := by decide +kernel
theorem dX4_trace_62 : decode cX4_trace 62 = .ok (.bipush 12, 2) := by decide +kernel
theorem dX4_trace_64 : decode cX4_trace 64 = .ok (.if_icmp .ge 57, 3) := by decide +kernel
theorem dX4_trace_67 : decode cX4_trace 67 = .ok (.aload_n 0, 1) := by decide +kernel
theorem dX4_trace_68 : decode cX4_trace 68 = .ok (.iload_n 3, 1) := by decide +kernel
theorem dX4_trace_69 : decode cX4_trace 69 = .ok (.sipush 256, 3) := by decide +kernel
theorem dX4_trace_72 : decode cX4_trace 72 = .ok (.idiv, 1) := by decide +kernel
theorem dX4_trace_73 : decode cX4_trace 73 = .ok (.iload_n 3, 1) := by decide +kernel
theorem dX4_trace_74 : decode cX4_trace 74 = .ok (.sipush 256, 3) := by decide +kernel
theorem dX4_trace_77 : decode cX4_trace 77 = .ok (.irem, 1) := by decide +kernel
theorem dX4_trace_78 : decode cX4_trace 78 = .ok (.invokevirtual 74, 3) := by decide +kernel
theorem dX4_trace_81 : decode cX4_trace 81 = .ok (.istore 6, 2) := by decide +kernel
theorem dX4_trace_83 : decode cX4_trace 83 = .ok (.iload 6, 2) := by decide +kernel
theorem dX4_trace_85 : decode cX4_trace 85 = .ok (.sipush 4096, 3) := by decide +kernel
theorem dX4_trace_88 : decode cX4_trace 88 = .ok (.if_icmp .lt 7, 3) := by decide +kernel
theorem dX4_trace_91 : decode cX4_trace 91 = .ok (.iconst 1, 1) := by decide +kernel
theorem dX4_trace_92 : decode cX4_trace 92 = .ok (.goto 4, 3) := by decide +kernel
theorem dX4_trace_95 : decode cX4_trace 95 = .ok (.iconst 0, 1) := by decide +kernel
theorem dX4_trace_96 : decode cX4_trace 96 = .ok (.istore 4, 2) := by decide +kernel
theorem dX4_trace_98 : decode cX4_trace 98 = .ok (.iload 6, 2) := by decide +kernel
theorem dX4_trace_100 : decode cX4_trace 100 = .ok (.sipush 4095, 3) := by decide +kernel
theorem dX4_trace_103 : decode cX4_trace 103 = .ok (.iand, 1) := by decide +kernel
theorem dX4_trace_104 : decode cX4_trace 104 = .ok (.istore_n 3, 1) := by decide +kernel
theorem dX4_trace_105 : decode cX4_trace 105 = .ok (.iinc 5 1, 3) := by decide +kernel
theorem dX4_trace_108 : decode cX4_trace 108 = .ok (.aload_n 0, 1) := by decide +kernel
theorem dX4_trace_109 : decode cX4_trace 109 = .ok (.getfield 41, 3) := by decide +kernel
theorem dX4_trace_112 : decode cX4_trace 112 = .ok (.iload_n 2, 1) := by decide +kernel
theorem dX4_trace_113 : decode cX4_trace 113 = .ok (.iload 5, 2) := by decide +kernel
theorem dX4_trace_115 : decode cX4_trace 115 = .ok (.iadd, 1) := by decide +kernel
theorem dX4_trace_116 : decode cX4_trace 116 = .ok (.iload_n 3, 1) := by decide +kernel
theorem dX4_trace_117 : decode cX4_trace 117 = .ok (.iastore, 1) := by decide +kernel
theorem dX4_trace_118 : decode cX4_trace 118 = .ok (.goto (-68), 3) := by decide +kernel
theorem dX4_trace_121 : decode cX4_trace 121 = .ok (.iload_n 3, 1) := by decide +kernel
theorem dX4_trace_122 : decode cX4_trace 122 = .ok (.sipush 256, 3) := by decide +kernel
theorem dX4_trace_125 : decode cX4_trace 125 = .ok (.idiv, 1) := by decide +kernel
theorem dX4_trace_126 : decode cX4_trace 126 = .ok (.bipush 12, 2) := by decide +kernel
theorem dX4_trace_128 : decode cX4_trace 128 = .ok (.if_icmp .ge 7, 3) := by decide +kernel
theorem dX4_trace_131 : decode cX4_trace 131 = .ok (.iconst 1, 1) := by decide +kernel
theorem dX4_trace_132 : decode cX4_trace 132 = .ok (.goto 4, 3) := by decide +kernel
theorem dX4_trace_135 : decode cX4_trace 135 = .ok (.iconst 0, 1) := by decide +kernel
theorem dX4_trace_136 : decode cX4_trace 136 = .ok (.istore 6, 2) := by decide +kernel
theorem dX4_trace_138 : decode cX4_trace 138 = .ok (.iload_n 3, 1) := by decide +kernel
theorem dX4_trace_139 : decode cX4_trace 139 = .ok (.sipush 256, 3) := by decide +kernel
theorem dX4_trace_142 : decode cX4_trace 142 = .ok (.irem, 1) := by decide +kernel
theorem dX4_trace_143 : decode cX4_trace 143 = .ok (.istore 7, 2) := by decide +kernel
theorem dX4_trace_145 : decode cX4_trace 145 = .ok (.aload_n 0, 1) := by decide +kernel
theorem dX4_trace_146 : decode cX4_trace 146 = .ok (.getfield 41, 3) := by decide +kernel
theorem dX4_trace_149 : decode cX4_trace 149 = .ok (.iload_n 2, 1) := by decide +kernel
theorem dX4_trace_150 : decode cX4_trace 150 = .ok (.iload 5, 2) := by decide +kernel
theorem dX4_trace_152 : decode cX4_trace 152 = .ok (.iadd, 1) := by decide +kernel
theorem dX4_trace_153 : decode cX4_trace 153 = .ok (.sipush 3072, 3) := by decide +kernel
theorem dX4_trace_156 : decode cX4_trace 156 = .ok (.iload 7, 2) := by decide +kernel
theorem dX4_trace_158 : decode cX4_trace 158 = .ok (.iadd, 1) := by decide +kernel
theorem dX4_trace_159 : decode cX4_trace 159 = .ok (.iastore, 1) := by decide +kernel
theorem dX4_trace_160 : decode cX4_trace 160 = .ok (.iload 6, 2) := by decide +kernel
theorem dX4_trace_162 : decode cX4_trace 162 = .ok (.ifCond .eq 7, 3) := by decide +kernel
theorem dX4_trace_165 : decode cX4_trace 165 = .ok (.iconst 2, 1) := by decide +kernel
theorem dX4_trace_166 : decode cX4_trace 166 = .ok (.goto 13, 3) := by decide +kernel
theorem dX4_trace_169 : decode cX4_trace 169 = .ok (.iload 4, 2) := by decide +kernel
theorem dX4_trace_171 : decode cX4_trace 171 = .ok (.ifCond .eq 7, 3) := by decide +kernel
theorem dX4_trace_174 : decode cX4_trace 174 = .ok (.iconst 1, 1) := by decide +kernel
theorem dX4_trace_175 : decode cX4_trace 175 = .ok (.goto 4, 3) := by decide +kernel
theorem dX4_trace_178 : decode cX4_trace 178 = .ok (.iconst 0, 1) := by decide +kernel
theorem dX4_trace_179 : decode cX4_trace 179 = .ok (.istore 8, 2) := by decide +kernel
theorem dX4_trace_181 : decode cX4_trace 181 = .ok (.aload_n 0, 1) := by decide +kernel
theorem dX4_trace_182 : decode cX4_trace 182 = .ok (.getfield 44, 3) := by decide +kernel
theorem dX4_trace_185 : decode cX4_trace 185 = .ok (.iload_n 1, 1) := by decide +kernel
theorem dX4_trace_186 : decode cX4_trace 186 = .ok (.iload 8, 2) := by decide +kernel
theorem dX4_trace_188 : decode cX4_trace 188 = .ok (.iastore, 1) := by decide +kernel
theorem dX4_trace_189 : decode cX4_trace 189 = .ok (.aload_n 0, 1) := by decide +kernel
theorem dX4_trace_190 : decode cX4_trace 190 = .ok (.getfield 47, 3) := by decide +kernel
theorem dX4_trace_193 : decode cX4_trace 193 = .ok (.iload_n 1, 1) := by decide +kernel
theorem dX4_trace_194 : decode cX4_trace 194 = .ok (.iload 7, 2) := by decide +kernel
theorem dX4_trace_196 : decode cX4_trace 196 = .ok (.iastore, 1) := by decide +kernel
theorem dX4_trace_197 : decode cX4_trace 197 = .ok (.aload_n 0, 1) := by decide +kernel
theorem dX4_trace_198 : decode cX4_trace 198 = .ok (.getfield 50, 3) := by decide +kernel
theorem dX4_trace_201 : decode cX4_trace 201 = .ok (.iload_n 1, 1) := by decide +kernel
theorem dX4_trace_202 : decode cX4_trace 202 = .ok (.aload_n 0, 1) := by decide +kernel
theorem dX4_trace_203 : decode cX4_trace 203 = .ok (.getfield 9, 3) := by decide +kernel
theorem dX4_trace_206 : decode cX4_trace 206 = .ok (.getfield 81, 3) := by decide +kernel
theorem dX4_trace_209 : decode cX4_trace 209 = .ok (.iload 7, 2) := by decide +kernel
theorem dX4_trace_211 : decode cX4_trace 211 = .ok (.iaload, 1) := by decide +kernel
theorem dX4_trace_212 : decode cX4_trace 212 = .ok (.iastore, 1) := by decide +kernel
theorem dX4_trace_213 : decode cX4_trace 213 = .ok (.aload_n 0, 1) := by decide +kernel
theorem dX4_trace_214 : decode cX4_trace 214 = .ok (.getfield 53, 3) := by decide +kernel
theorem dX4_trace_217 : decode cX4_trace 217 = .ok (.iload_n 1, 1) := by decide +kernel
theorem dX4_trace_218 : decode cX4_trace 218 = .ok (.iload 5, 2) := by decide +kernel
theorem dX4_trace_220 : decode cX4_trace 220 = .ok (.iastore, 1) := by decide +kernel
theorem dX4_trace_221 : decode cX4_trace 221 = .ok (.aload_n 0, 1) := by decide +kernel
theorem dX4_trace_222 : decode cX4_trace 222 = .ok (.iload_n 1, 1) := by decide +kernel
theorem dX4_trace_223 : decode cX4_trace 223 = .ok (.aload_n 0, 1) := by decide +kernel
theorem dX4_trace_224 : decode cX4_trace 224 = .ok (.getfield 32, 3) := by decide +kernel
theorem dX4_trace_227 : decode cX4_trace 227 = .ok (.invokevirtual 86, 3) := by decide +kernel
theorem dX4_trace_230 : decode cX4_trace 230 = .ok (.lstore 9, 2) := by decide +kernel
theorem dX4_trace_232 : decode cX4_trace 232 = .ok (.aload_n 0, 1) := by decide +kernel
theorem dX4_trace_233 : decode cX4_trace 233 = .ok (.getfield 56, 3) := by decide +kernel
theorem dX4_trace_236 : decode cX4_trace 236 = .ok (.iload_n 1, 1) := by decide +kernel
theorem dX4_trace_237 : decode cX4_trace 237 = .ok (.lload 9, 2) := by decide +kernel
theorem dX4_trace_239 : decode cX4_trace 239 = .ok (.invokestatic 90, 3) := by decide +kernel
theorem dX4_trace_242 : decode cX4_trace 242 = .ok (.iastore, 1) := by decide +kernel
theorem dX4_trace_243 : decode cX4_trace 243 = .ok (.aload_n 0, 1) := by decide +kernel
theorem dX4_trace_244 : decode cX4_trace 244 = .ok (.getfield 59, 3) := by decide +kernel
theorem dX4_trace_247 : decode cX4_trace 247 = .ok (.iload_n 1, 1) := by decide +kernel
theorem dX4_trace_248 : decode cX4_trace 248 = .ok (.lload 9, 2) := by decide +kernel
theorem dX4_trace_250 : decode cX4_trace 250 = .ok (.iload 8, 2) := by decide +kernel
theorem dX4_trace_252 : decode cX4_trace 252 = .ok (.i2l, 1) := by decide +kernel
theorem dX4_trace_253 : decode cX4_trace 253 = .ok (.bipush 50, 2) := by decide +kernel
theorem dX4_trace_255 : decode cX4_trace 255 = .ok (.lshl, 1) := by decide +kernel
theorem dX4_trace_256 : decode cX4_trace 256 = .ok (.lor, 1) := by decide +kernel
theorem dX4_trace_257 : decode cX4_trace 257 = .ok (.iload 5, 2) := by decide +kernel
theorem dX4_trace_259 : decode cX4_trace 259 = .ok (.i2l, 1) := by decide +kernel
theorem dX4_trace_260 : decode cX4_trace 260 = .ok (.bipush 52, 2) := by decide +kernel
theorem dX4_trace_262 : decode cX4_trace 262 = .ok (.lshl, 1) := by decide +kernel
theorem dX4_trace_263 : decode cX4_trace 263 = .ok (.lor, 1) := by decide +kernel
theorem dX4_trace_264 : decode cX4_trace 264 = .ok (.lastore, 1) := by decide +kernel
theorem dX4_trace_265 : decode cX4_trace 265 = .ok (.aload_n 0, 1) := by decide +kernel
theorem dX4_trace_266 : decode cX4_trace 266 = .ok (.getfield 38, 3) := by decide +kernel
theorem dX4_trace_269 : decode cX4_trace 269 = .ok (.iload_n 1, 1) := by decide +kernel
theorem dX4_trace_270 : decode cX4_trace 270 = .ok (.aload_n 0, 1) := by decide +kernel
theorem dX4_trace_271 : decode cX4_trace 271 = .ok (.getfield 35, 3) := by decide +kernel
theorem dX4_trace_274 : decode cX4_trace 274 = .ok (.iastore, 1) := by decide +kernel
theorem dX4_trace_275 : decode cX4_trace 275 = .ok (.return_, 1) := by decide +kernel
theorem dX4_shownUnder_0 : decode cX4_shownUnder 0 = .ok (.lconst 1, 1) := by decide +kernel
theorem dX4_shownUnder_1 : decode cX4_shownUnder 1 = .ok (.lstore_n 3, 1) := by decide +kernel
theorem dX4_shownUnder_2 : decode cX4_shownUnder 2 = .ok (.iload_n 1, 1) := by decide +kernel
theorem dX4_shownUnder_3 : decode cX4_shownUnder 3 = .ok (.bipush 25, 2) := by decide +kernel
theorem dX4_shownUnder_5 : decode cX4_shownUnder 5 = .ok (.imul, 1) := by decide +kernel
theorem dX4_shownUnder_6 : decode cX4_shownUnder 6 = .ok (.istore 5, 2) := by decide +kernel
theorem dX4_shownUnder_8 : decode cX4_shownUnder 8 = .ok (.iconst 0, 1) := by decide +kernel
theorem dX4_shownUnder_9 : decode cX4_shownUnder 9 = .ok (.istore 6, 2) := by decide +kernel
theorem dX4_shownUnder_11 : decode cX4_shownUnder 11 = .ok (.iload 6, 2) := by decide +kernel
theorem dX4_shownUnder_13 : decode cX4_shownUnder 13 = .ok (.aload_n 0, 1) := by decide +kernel
theorem dX4_shownUnder_14 : decode cX4_shownUnder 14 = .ok (.getfield 53, 3) := by decide +kernel
theorem dX4_shownUnder_17 : decode cX4_shownUnder 17 = .ok (.iload_n 1, 1) := by decide +kernel
theorem dX4_shownUnder_18 : decode cX4_shownUnder 18 = .ok (.iaload, 1) := by decide +kernel
theorem dX4_shownUnder_19 : decode cX4_shownUnder 19 = .ok (.if_icmp .ge 79, 3) := by decide +kernel
theorem dX4_shownUnder_22 : decode cX4_shownUnder 22 = .ok (.aload_n 0, 1) := by decide +kernel
theorem dX4_shownUnder_23 : decode cX4_shownUnder 23 = .ok (.getfield 41, 3) := by decide +kernel
theorem dX4_shownUnder_26 : decode cX4_shownUnder 26 = .ok (.iload 5, 2) := by decide +kernel
theorem dX4_shownUnder_28 : decode cX4_shownUnder 28 = .ok (.iload 6, 2) := by decide +kernel
theorem dX4_shownUnder_30 : decode cX4_shownUnder 30 = .ok (.iadd, 1) := by decide +kernel
theorem dX4_shownUnder_31 : decode cX4_shownUnder 31 = .ok (.iaload, 1) := by decide +kernel
theorem dX4_shownUnder_32 : decode cX4_shownUnder 32 = .ok (.istore 7, 2) := by decide +kernel
theorem dX4_shownUnder_34 : decode cX4_shownUnder 34 = .ok (.iload 7, 2) := by decide +kernel
theorem dX4_shownUnder_36 : decode cX4_shownUnder 36 = .ok (.sipush 256, 3) := by decide +kernel
theorem dX4_shownUnder_39 : decode cX4_shownUnder 39 = .ok (.idiv, 1) := by decide +kernel
theorem dX4_shownUnder_40 : decode cX4_shownUnder 40 = .ok (.istore 8, 2) := by decide +kernel
theorem dX4_shownUnder_42 : decode cX4_shownUnder 42 = .ok (.iload 8, 2) := by decide +kernel
theorem dX4_shownUnder_44 : decode cX4_shownUnder 44 = .ok (.bipush 12, 2) := by decide +kernel
theorem dX4_shownUnder_46 : decode cX4_shownUnder 46 = .ok (.if_icmp .ge 46, 3) := by decide +kernel
theorem dX4_shownUnder_49 : decode cX4_shownUnder 49 = .ok (.aload_n 0, 1) := by decide +kernel
theorem dX4_shownUnder_50 : decode cX4_shownUnder 50 = .ok (.getfield 15, 3) := by decide +kernel
theorem dX4_shownUnder_53 : decode cX4_shownUnder 53 = .ok (.iload 8, 2) := by decide +kernel
theorem dX4_shownUnder_55 : decode cX4_shownUnder 55 = .ok (.iaload, 1) := by decide +kernel
theorem dX4_shownUnder_56 : decode cX4_shownUnder 56 = .ok (.bipush 6, 2) := by decide +kernel
theorem dX4_shownUnder_58 : decode cX4_shownUnder 58 = .ok (.if_icmp .ne 34, 3) := by decide +kernel
theorem dX4_shownUnder_61 : decode cX4_shownUnder 61 = .ok (.iload_n 2, 1) := by decide +kernel
theorem dX4_shownUnder_62 : decode cX4_shownUnder 62 = .ok (.iload 8, 2) := by decide +kernel
theorem dX4_shownUnder_64 : decode cX4_shownUnder 64 = .ok (.ishr, 1) := by decide +kernel
theorem dX4_shownUnder_65 : decode cX4_shownUnder 65 = .ok (.iconst 1, 1) := by decide +kernel
theorem dX4_shownUnder_66 : decode cX4_shownUnder 66 = .ok (.iand, 1) := by decide +kernel
theorem dX4_shownUnder_67 : decode cX4_shownUnder 67 = .ok (.ifCond .ne 25, 3) := by decide +kernel
theorem dX4_shownUnder_70 : decode cX4_shownUnder 70 = .ok (.lload_n 3, 1) := by decide +kernel
theorem dX4_shownUnder_71 : decode cX4_shownUnder 71 = .ok (.iconst 2, 1) := by decide +kernel
theorem dX4_shownUnder_72 : decode cX4_shownUnder 72 = .ok (.lshl, 1) := by decide +kernel
theorem dX4_shownUnder_73 : decode cX4_shownUnder 73 = .ok (.iload 7, 2) := by decide +kernel
theorem dX4_shownUnder_75 : decode cX4_shownUnder 75 = .ok (.sipush 256, 3) := by decide +kernel
theorem dX4_shownUnder_78 : decode cX4_shownUnder 78 = .ok (.irem, 1) := by decide +kernel
theorem dX4_shownUnder_79 : decode cX4_shownUnder 79 = .ok (.aload_n 0, 1) := by decide +kernel
theorem dX4_shownUnder_80 : decode cX4_shownUnder 80 = .ok (.getfield 19, 3) := by decide +kernel
theorem dX4_shownUnder_83 : decode cX4_shownUnder 83 = .ok (.iload 8, 2) := by decide +kernel
theorem dX4_shownUnder_85 : decode cX4_shownUnder 85 = .ok (.iaload, 1) := by decide +kernel
theorem dX4_shownUnder_86 : decode cX4_shownUnder 86 = .ok (.invokestatic 63, 3) := by decide +kernel
theorem dX4_shownUnder_89 : decode cX4_shownUnder 89 = .ok (.i2l, 1) := by decide +kernel
theorem dX4_shownUnder_90 : decode cX4_shownUnder 90 = .ok (.lor, 1) := by decide +kernel
theorem dX4_shownUnder_91 : decode cX4_shownUnder 91 = .ok (.lstore_n 3, 1) := by decide +kernel
theorem dX4_shownUnder_92 : decode cX4_shownUnder 92 = .ok (.iinc 6 1, 3) := by decide +kernel
theorem dX4_shownUnder_95 : decode cX4_shownUnder 95 = .ok (.goto (-84), 3) := by decide +kernel
theorem dX4_shownUnder_98 : decode cX4_shownUnder 98 = .ok (.lload_n 3, 1) := by decide +kernel
theorem dX4_shownUnder_99 : decode cX4_shownUnder 99 = .ok (.lreturn, 1) := by decide +kernel
theorem dX4_countShown_0 : decode cX4_countShown 0 = .ok (.iconst 0, 1) := by decide +kernel
theorem dX4_countShown_1 : decode cX4_countShown 1 = .ok (.istore_n 2, 1) := by decide +kernel
theorem dX4_countShown_2 : decode cX4_countShown 2 = .ok (.iload_n 2, 1) := by decide +kernel
theorem dX4_countShown_3 : decode cX4_countShown 3 = .ok (.bipush 24, 2) := by decide +kernel
theorem dX4_countShown_5 : decode cX4_countShown 5 = .ok (.if_icmp .ge 19, 3) := by decide +kernel
theorem dX4_countShown_8 : decode cX4_countShown 8 = .ok (.lload_n 0, 1) := by decide +kernel
theorem dX4_countShown_9 : decode cX4_countShown 9 = .ok (.iconst 2, 1) := by decide +kernel
theorem dX4_countShown_10 : decode cX4_countShown 10 = .ok (.iload_n 2, 1) := by decide +kernel
theorem dX4_countShown_11 : decode cX4_countShown 11 = .ok (.imul, 1) := by decide +kernel
theorem dX4_countShown_12 : decode cX4_countShown 12 = .ok (.lshr, 1) := by decide +kernel
theorem dX4_countShown_13 : decode cX4_countShown 13 = .ok (.lconst 1, 1) := by decide +kernel
theorem dX4_countShown_14 : decode cX4_countShown 14 = .ok (.lcmp, 1) := by decide +kernel
theorem dX4_countShown_15 : decode cX4_countShown 15 = .ok (.ifCond .eq 9, 3) := by decide +kernel
theorem dX4_countShown_18 : decode cX4_countShown 18 = .ok (.iinc 2 1, 3) := by decide +kernel
theorem dX4_countShown_21 : decode cX4_countShown 21 = .ok (.goto (-19), 3) := by decide +kernel
theorem dX4_countShown_24 : decode cX4_countShown 24 = .ok (.iload_n 2, 1) := by decide +kernel
theorem dX4_countShown_25 : decode cX4_countShown 25 = .ok (.ireturn, 1) := by decide +kernel
theorem dX4_shownAt_0 : decode cX4_shownAt 0 = .ok (.aload_n 0, 1) := by decide +kernel
theorem dX4_shownAt_1 : decode cX4_shownAt 1 = .ok (.getfield 56, 3) := by decide +kernel
theorem dX4_shownAt_4 : decode cX4_shownAt 4 = .ok (.iload_n 1, 1) := by decide +kernel
theorem dX4_shownAt_5 : decode cX4_shownAt 5 = .ok (.iaload, 1) := by decide +kernel
theorem dX4_shownAt_6 : decode cX4_shownAt 6 = .ok (.iconst 1, 1) := by decide +kernel
theorem dX4_shownAt_7 : decode cX4_shownAt 7 = .ok (.isub, 1) := by decide +kernel
theorem dX4_shownAt_8 : decode cX4_shownAt 8 = .ok (.iload_n 2, 1) := by decide +kernel
theorem dX4_shownAt_9 : decode cX4_shownAt 9 = .ok (.isub, 1) := by decide +kernel
theorem dX4_shownAt_10 : decode cX4_shownAt 10 = .ok (.istore_n 3, 1) := by decide +kernel
theorem dX4_shownAt_11 : decode cX4_shownAt 11 = .ok (.iload_n 3, 1) := by decide +kernel
theorem dX4_shownAt_12 : decode cX4_shownAt 12 = .ok (.ifCond .ge 6, 3) := by decide +kernel
theorem dX4_shownAt_15 : decode cX4_shownAt 15 = .ok (.bipush (-6), 2) := by decide +kernel
theorem dX4_shownAt_17 : decode cX4_shownAt 17 = .ok (.ireturn, 1) := by decide +kernel
theorem dX4_shownAt_18 : decode cX4_shownAt 18 = .ok (.aload_n 0, 1) := by decide +kernel
theorem dX4_shownAt_19 : decode cX4_shownAt 19 = .ok (.getfield 59, 3) := by decide +kernel
theorem dX4_shownAt_22 : decode cX4_shownAt 22 = .ok (.iload_n 1, 1) := by decide +kernel
theorem dX4_shownAt_23 : decode cX4_shownAt 23 = .ok (.laload, 1) := by decide +kernel
theorem dX4_shownAt_24 : decode cX4_shownAt 24 = .ok (.iconst 2, 1) := by decide +kernel
theorem dX4_shownAt_25 : decode cX4_shownAt 25 = .ok (.iload_n 3, 1) := by decide +kernel
theorem dX4_shownAt_26 : decode cX4_shownAt 26 = .ok (.imul, 1) := by decide +kernel
theorem dX4_shownAt_27 : decode cX4_shownAt 27 = .ok (.lshr, 1) := by decide +kernel
theorem dX4_shownAt_28 : decode cX4_shownAt 28 = .ok (.l2i, 1) := by decide +kernel
theorem dX4_shownAt_29 : decode cX4_shownAt 29 = .ok (.iconst 3, 1) := by decide +kernel
theorem dX4_shownAt_30 : decode cX4_shownAt 30 = .ok (.iand, 1) := by decide +kernel
theorem dX4_shownAt_31 : decode cX4_shownAt 31 = .ok (.ireturn, 1) := by decide +kernel
theorem dX4_beginAlike_0 : decode cX4_beginAlike 0 = .ok (.aload_n 0, 1) := by decide +kernel
theorem dX4_beginAlike_1 : decode cX4_beginAlike 1 = .ok (.getfield 59, 3) := by decide +kernel
theorem dX4_beginAlike_4 : decode cX4_beginAlike 4 = .ok (.iload_n 1, 1) := by decide +kernel
theorem dX4_beginAlike_5 : decode cX4_beginAlike 5 = .ok (.laload, 1) := by decide +kernel
theorem dX4_beginAlike_6 : decode cX4_beginAlike 6 = .ok (.ldc2_w 94, 3) := by decide +kernel
theorem dX4_beginAlike_9 : decode cX4_beginAlike 9 = .ok (.land, 1) := by decide +kernel
theorem dX4_beginAlike_10 : decode cX4_beginAlike 10 = .ok (.lstore 4, 2) := by decide +kernel
theorem dX4_beginAlike_12 : decode cX4_beginAlike 12 = .ok (.aload_n 0, 1) := by decide +kernel
theorem dX4_beginAlike_13 : decode cX4_beginAlike 13 = .ok (.getfield 59, 3) := by decide +kernel
theorem dX4_beginAlike_16 : decode cX4_beginAlike 16 = .ok (.iload_n 2, 1) := by decide +kernel
theorem dX4_beginAlike_17 : decode cX4_beginAlike 17 = .ok (.laload, 1) := by decide +kernel
theorem dX4_beginAlike_18 : decode cX4_beginAlike 18 = .ok (.ldc2_w 94, 3) := by decide +kernel
theorem dX4_beginAlike_21 : decode cX4_beginAlike 21 = .ok (.land, 1) := by decide +kernel
theorem dX4_beginAlike_22 : decode cX4_beginAlike 22 = .ok (.lstore 6, 2) := by decide +kernel
theorem dX4_beginAlike_24 : decode cX4_beginAlike 24 = .ok (.aload_n 0, 1) := by decide +kernel
theorem dX4_beginAlike_25 : decode cX4_beginAlike 25 = .ok (.getfield 56, 3) := by decide +kernel
theorem dX4_beginAlike_28 : decode cX4_beginAlike 28 = .ok (.iload_n 1, 1) := by decide +kernel
theorem dX4_beginAlike_29 : decode cX4_beginAlike 29 = .ok (.iaload, 1) := by decide +kernel
theorem dX4_beginAlike_30 : decode cX4_beginAlike 30 = .ok (.iload_n 3, 1) := by decide +kernel
theorem dX4_beginAlike_31 : decode cX4_beginAlike 31 = .ok (.if_icmp .lt 13, 3) := by decide +kernel
theorem dX4_beginAlike_34 : decode cX4_beginAlike 34 = .ok (.aload_n 0, 1) := by decide +kernel
theorem dX4_beginAlike_35 : decode cX4_beginAlike 35 = .ok (.getfield 56, 3) := by decide +kernel
theorem dX4_beginAlike_38 : decode cX4_beginAlike 38 = .ok (.iload_n 2, 1) := by decide +kernel
theorem dX4_beginAlike_39 : decode cX4_beginAlike 39 = .ok (.iaload, 1) := by decide +kernel
theorem dX4_beginAlike_40 : decode cX4_beginAlike 40 = .ok (.iload_n 3, 1) := by decide +kernel
theorem dX4_beginAlike_41 : decode cX4_beginAlike 41 = .ok (.if_icmp .ge 17, 3) := by decide +kernel
theorem dX4_beginAlike_44 : decode cX4_beginAlike 44 = .ok (.lload 4, 2) := by decide +kernel
theorem dX4_beginAlike_46 : decode cX4_beginAlike 46 = .ok (.lload 6, 2) := by decide +kernel
theorem dX4_beginAlike_48 : decode cX4_beginAlike 48 = .ok (.lcmp, 1) := by decide +kernel
theorem dX4_beginAlike_49 : decode cX4_beginAlike 49 = .ok (.ifCond .ne 7, 3) := by decide +kernel
theorem dX4_beginAlike_52 : decode cX4_beginAlike 52 = .ok (.iconst 1, 1) := by decide +kernel
theorem dX4_beginAlike_53 : decode cX4_beginAlike 53 = .ok (.goto 4, 3) := by decide +kernel
theorem dX4_beginAlike_56 : decode cX4_beginAlike 56 = .ok (.iconst 0, 1) := by decide +kernel
theorem dX4_beginAlike_57 : decode cX4_beginAlike 57 = .ok (.ireturn, 1) := by decide +kernel
theorem dX4_beginAlike_58 : decode cX4_beginAlike 58 = .ok (.lload 4, 2) := by decide +kernel
theorem dX4_beginAlike_60 : decode cX4_beginAlike 60 = .ok (.iconst 2, 1) := by decide +kernel
theorem dX4_beginAlike_61 : decode cX4_beginAlike 61 = .ok (.aload_n 0, 1) := by decide +kernel
theorem dX4_beginAlike_62 : decode cX4_beginAlike 62 = .ok (.getfield 56, 3) := by decide +kernel
theorem dX4_beginAlike_65 : decode cX4_beginAlike 65 = .ok (.iload_n 1, 1) := by decide +kernel
theorem dX4_beginAlike_66 : decode cX4_beginAlike 66 = .ok (.iaload, 1) := by decide +kernel
theorem dX4_beginAlike_67 : decode cX4_beginAlike 67 = .ok (.iload_n 3, 1) := by decide +kernel
theorem dX4_beginAlike_68 : decode cX4_beginAlike 68 = .ok (.isub, 1) := by decide +kernel
theorem dX4_beginAlike_69 : decode cX4_beginAlike 69 = .ok (.imul, 1) := by decide +kernel
theorem dX4_beginAlike_70 : decode cX4_beginAlike 70 = .ok (.lshr, 1) := by decide +kernel
theorem dX4_beginAlike_71 : decode cX4_beginAlike 71 = .ok (.lload 6, 2) := by decide +kernel
theorem dX4_beginAlike_73 : decode cX4_beginAlike 73 = .ok (.iconst 2, 1) := by decide +kernel
theorem dX4_beginAlike_74 : decode cX4_beginAlike 74 = .ok (.aload_n 0, 1) := by decide +kernel
theorem dX4_beginAlike_75 : decode cX4_beginAlike 75 = .ok (.getfield 56, 3) := by decide +kernel
theorem dX4_beginAlike_78 : decode cX4_beginAlike 78 = .ok (.iload_n 2, 1) := by decide +kernel
theorem dX4_beginAlike_79 : decode cX4_beginAlike 79 = .ok (.iaload, 1) := by decide +kernel
theorem dX4_beginAlike_80 : decode cX4_beginAlike 80 = .ok (.iload_n 3, 1) := by decide +kernel
theorem dX4_beginAlike_81 : decode cX4_beginAlike 81 = .ok (.isub, 1) := by decide +kernel
theorem dX4_beginAlike_82 : decode cX4_beginAlike 82 = .ok (.imul, 1) := by decide +kernel
theorem dX4_beginAlike_83 : decode cX4_beginAlike 83 = .ok (.lshr, 1) := by decide +kernel
theorem dX4_beginAlike_84 : decode cX4_beginAlike 84 = .ok (.lcmp, 1) := by decide +kernel
theorem dX4_beginAlike_85 : decode cX4_beginAlike 85 = .ok (.ifCond .ne 7, 3) := by decide +kernel
theorem dX4_beginAlike_88 : decode cX4_beginAlike 88 = .ok (.iconst 1, 1) := by decide +kernel
theorem dX4_beginAlike_89 : decode cX4_beginAlike 89 = .ok (.goto 4, 3) := by decide +kernel
theorem dX4_beginAlike_92 : decode cX4_beginAlike 92 = .ok (.iconst 0, 1) := by decide +kernel
theorem dX4_beginAlike_93 : decode cX4_beginAlike 93 = .ok (.ireturn, 1) := by decide +kernel
theorem dX4_lineAhead_0 : decode cX4_lineAhead 0 = .ok (.iload_n 2, 1) := by decide +kernel
theorem dX4_lineAhead_1 : decode cX4_lineAhead 1 = .ok (.aload_n 0, 1) := by decide +kernel
theorem dX4_lineAhead_2 : decode cX4_lineAhead 2 = .ok (.getfield 53, 3) := by decide +kernel
theorem dX4_lineAhead_5 : decode cX4_lineAhead 5 = .ok (.iload_n 1, 1) := by decide +kernel
theorem dX4_lineAhead_6 : decode cX4_lineAhead 6 = .ok (.iaload, 1) := by decide +kernel
theorem dX4_lineAhead_7 : decode cX4_lineAhead 7 = .ok (.invokestatic 96, 3) := by decide +kernel
theorem dX4_lineAhead_10 : decode cX4_lineAhead 10 = .ok (.istore_n 3, 1) := by decide +kernel
theorem dX4_lineAhead_11 : decode cX4_lineAhead 11 = .ok (.aload_n 0, 1) := by decide +kernel
theorem dX4_lineAhead_12 : decode cX4_lineAhead 12 = .ok (.getfield 41, 3) := by decide +kernel
theorem dX4_lineAhead_15 : decode cX4_lineAhead 15 = .ok (.iload_n 1, 1) := by decide +kernel
theorem dX4_lineAhead_16 : decode cX4_lineAhead 16 = .ok (.bipush 25, 2) := by decide +kernel
theorem dX4_lineAhead_18 : decode cX4_lineAhead 18 = .ok (.imul, 1) := by decide +kernel
theorem dX4_lineAhead_19 : decode cX4_lineAhead 19 = .ok (.iload_n 3, 1) := by decide +kernel
theorem dX4_lineAhead_20 : decode cX4_lineAhead 20 = .ok (.iadd, 1) := by decide +kernel
theorem dX4_lineAhead_21 : decode cX4_lineAhead 21 = .ok (.iaload, 1) := by decide +kernel
theorem dX4_lineAhead_22 : decode cX4_lineAhead 22 = .ok (.sipush 256, 3) := by decide +kernel
theorem dX4_lineAhead_25 : decode cX4_lineAhead 25 = .ok (.idiv, 1) := by decide +kernel
theorem dX4_lineAhead_26 : decode cX4_lineAhead 26 = .ok (.ireturn, 1) := by decide +kernel
theorem dX4_loudLines_0 : decode cX4_loudLines 0 = .ok (.iconst 0, 1) := by decide +kernel
theorem dX4_loudLines_1 : decode cX4_loudLines 1 = .ok (.istore_n 1, 1) := by decide +kernel
theorem dX4_loudLines_2 : decode cX4_loudLines 2 = .ok (.iconst 0, 1) := by decide +kernel
theorem dX4_loudLines_3 : decode cX4_loudLines 3 = .ok (.istore_n 2, 1) := by decide +kernel
theorem dX4_loudLines_4 : decode cX4_loudLines 4 = .ok (.iload_n 2, 1) := by decide +kernel
theorem dX4_loudLines_5 : decode cX4_loudLines 5 = .ok (.aload_n 0, 1) := by decide +kernel
theorem dX4_loudLines_6 : decode cX4_loudLines 6 = .ok (.getfield 28, 3) := by decide +kernel
theorem dX4_loudLines_9 : decode cX4_loudLines 9 = .ok (.if_icmp .ge 37, 3) := by decide +kernel
theorem dX4_loudLines_12 : decode cX4_loudLines 12 = .ok (.aload_n 0, 1) := by decide +kernel
theorem dX4_loudLines_13 : decode cX4_loudLines 13 = .ok (.getfield 15, 3) := by decide +kernel
theorem dX4_loudLines_16 : decode cX4_loudLines 16 = .ok (.iload_n 2, 1) := by decide +kernel
theorem dX4_loudLines_17 : decode cX4_loudLines 17 = .ok (.iaload, 1) := by decide +kernel
theorem dX4_loudLines_18 : decode cX4_loudLines 18 = .ok (.bipush 6, 2) := by decide +kernel
theorem dX4_loudLines_20 : decode cX4_loudLines 20 = .ok (.if_icmp .ne 20, 3) := by decide +kernel
theorem dX4_loudLines_23 : decode cX4_loudLines 23 = .ok (.aload_n 0, 1) := by decide +kernel
theorem dX4_loudLines_24 : decode cX4_loudLines 24 = .ok (.getfield 32, 3) := by decide +kernel
theorem dX4_loudLines_27 : decode cX4_loudLines 27 = .ok (.iload_n 2, 1) := by decide +kernel
theorem dX4_loudLines_28 : decode cX4_loudLines 28 = .ok (.ishr, 1) := by decide +kernel
theorem dX4_loudLines_29 : decode cX4_loudLines 29 = .ok (.iconst 1, 1) := by decide +kernel
theorem dX4_loudLines_30 : decode cX4_loudLines 30 = .ok (.iand, 1) := by decide +kernel
theorem dX4_loudLines_31 : decode cX4_loudLines 31 = .ok (.ifCond .ne 9, 3) := by decide +kernel
theorem dX4_loudLines_34 : decode cX4_loudLines 34 = .ok (.iload_n 1, 1) := by decide +kernel
theorem dX4_loudLines_35 : decode cX4_loudLines 35 = .ok (.iconst 1, 1) := by decide +kernel
theorem dX4_loudLines_36 : decode cX4_loudLines 36 = .ok (.iload_n 2, 1) := by decide +kernel
theorem dX4_loudLines_37 : decode cX4_loudLines 37 = .ok (.ishl, 1) := by decide +kernel
theorem dX4_loudLines_38 : decode cX4_loudLines 38 = .ok (.ior, 1) := by decide +kernel
theorem dX4_loudLines_39 : decode cX4_loudLines 39 = .ok (.istore_n 1, 1) := by decide +kernel
theorem dX4_loudLines_40 : decode cX4_loudLines 40 = .ok (.iinc 2 1, 3) := by decide +kernel
theorem dX4_loudLines_43 : decode cX4_loudLines 43 = .ok (.goto (-39), 3) := by decide +kernel
theorem dX4_loudLines_46 : decode cX4_loudLines 46 = .ok (.iload_n 1, 1) := by decide +kernel
theorem dX4_loudLines_47 : decode cX4_loudLines 47 = .ok (.ireturn, 1) := by decide +kernel
theorem dX4_unlikeLines_0 : decode cX4_unlikeLines 0 = .ok (.iconst 0, 1) := by decide +kernel
theorem dX4_unlikeLines_1 : decode cX4_unlikeLines 1 = .ok (.istore_n 2, 1) := by decide +kernel
theorem dX4_unlikeLines_2 : decode cX4_unlikeLines 2 = .ok (.iconst 0, 1) := by decide +kernel
theorem dX4_unlikeLines_3 : decode cX4_unlikeLines 3 = .ok (.istore_n 3, 1) := by decide +kernel
theorem dX4_unlikeLines_4 : decode cX4_unlikeLines 4 = .ok (.iload_n 3, 1) := by decide +kernel
theorem dX4_unlikeLines_5 : decode cX4_unlikeLines 5 = .ok (.bipush 12, 2) := by decide +kernel
theorem dX4_unlikeLines_7 : decode cX4_unlikeLines 7 = .ok (.if_icmp .ge 66, 3) := by decide +kernel
theorem dX4_unlikeLines_10 : decode cX4_unlikeLines 10 = .ok (.iload_n 3, 1) := by decide +kernel
theorem dX4_unlikeLines_11 : decode cX4_unlikeLines 11 = .ok (.aload_n 0, 1) := by decide +kernel
theorem dX4_unlikeLines_12 : decode cX4_unlikeLines 12 = .ok (.getfield 28, 3) := by decide +kernel
theorem dX4_unlikeLines_15 : decode cX4_unlikeLines 15 = .ok (.if_icmp .ge 7, 3) := by decide +kernel
theorem dX4_unlikeLines_18 : decode cX4_unlikeLines 18 = .ok (.iconst 1, 1) := by decide +kernel
theorem dX4_unlikeLines_19 : decode cX4_unlikeLines 19 = .ok (.goto 4, 3) := by decide +kernel
theorem dX4_unlikeLines_22 : decode cX4_unlikeLines 22 = .ok (.iconst 0, 1) := by decide +kernel
theorem dX4_unlikeLines_23 : decode cX4_unlikeLines 23 = .ok (.istore 4, 2) := by decide +kernel
theorem dX4_unlikeLines_25 : decode cX4_unlikeLines 25 = .ok (.iload_n 3, 1) := by decide +kernel
theorem dX4_unlikeLines_26 : decode cX4_unlikeLines 26 = .ok (.aload_n 1, 1) := by decide +kernel
theorem dX4_unlikeLines_27 : decode cX4_unlikeLines 27 = .ok (.getfield 28, 3) := by decide +kernel
theorem dX4_unlikeLines_30 : decode cX4_unlikeLines 30 = .ok (.if_icmp .ge 7, 3) := by decide +kernel
theorem dX4_unlikeLines_33 : decode cX4_unlikeLines 33 = .ok (.iconst 1, 1) := by decide +kernel
theorem dX4_unlikeLines_34 : decode cX4_unlikeLines 34 = .ok (.goto 4, 3) := by decide +kernel
theorem dX4_unlikeLines_37 : decode cX4_unlikeLines 37 = .ok (.iconst 0, 1) := by decide +kernel
theorem dX4_unlikeLines_38 : decode cX4_unlikeLines 38 = .ok (.istore 5, 2) := by decide +kernel
theorem dX4_unlikeLines_40 : decode cX4_unlikeLines 40 = .ok (.iload 4, 2) := by decide +kernel
theorem dX4_unlikeLines_42 : decode cX4_unlikeLines 42 = .ok (.iload 5, 2) := by decide +kernel
theorem dX4_unlikeLines_44 : decode cX4_unlikeLines 44 = .ok (.if_icmp .ne 17, 3) := by decide +kernel
theorem dX4_unlikeLines_47 : decode cX4_unlikeLines 47 = .ok (.iload 4, 2) := by decide +kernel
theorem dX4_unlikeLines_49 : decode cX4_unlikeLines 49 = .ok (.ifCond .eq 18, 3) := by decide +kernel
theorem dX4_unlikeLines_52 : decode cX4_unlikeLines 52 = .ok (.aload_n 0, 1) := by decide +kernel
theorem dX4_unlikeLines_53 : decode cX4_unlikeLines 53 = .ok (.aload_n 1, 1) := by decide +kernel
theorem dX4_unlikeLines_54 : decode cX4_unlikeLines 54 = .ok (.iload_n 3, 1) := by decide +kernel
theorem dX4_unlikeLines_55 : decode cX4_unlikeLines 55 = .ok (.invokevirtual 101, 3) := by decide +kernel
theorem dX4_unlikeLines_58 : decode cX4_unlikeLines 58 = .ok (.ifCond .ne 9, 3) := by decide +kernel
theorem dX4_unlikeLines_61 : decode cX4_unlikeLines 61 = .ok (.iload_n 2, 1) := by decide +kernel
theorem dX4_unlikeLines_62 : decode cX4_unlikeLines 62 = .ok (.iconst 1, 1) := by decide +kernel
theorem dX4_unlikeLines_63 : decode cX4_unlikeLines 63 = .ok (.iload_n 3, 1) := by decide +kernel
theorem dX4_unlikeLines_64 : decode cX4_unlikeLines 64 = .ok (.ishl, 1) := by decide +kernel
theorem dX4_unlikeLines_65 : decode cX4_unlikeLines 65 = .ok (.ior, 1) := by decide +kernel
theorem dX4_unlikeLines_66 : decode cX4_unlikeLines 66 = .ok (.istore_n 2, 1) := by decide +kernel
theorem dX4_unlikeLines_67 : decode cX4_unlikeLines 67 = .ok (.iinc 3 1, 3) := by decide +kernel
theorem dX4_unlikeLines_70 : decode cX4_unlikeLines 70 = .ok (.goto (-66), 3) := by decide +kernel
theorem dX4_unlikeLines_73 : decode cX4_unlikeLines 73 = .ok (.iload_n 2, 1) := by decide +kernel
theorem dX4_unlikeLines_74 : decode cX4_unlikeLines 74 = .ok (.ireturn, 1) := by decide +kernel
theorem dX4_isSameLine_0 : decode cX4_isSameLine 0 = .ok (.aload_n 0, 1) := by decide +kernel
theorem dX4_isSameLine_1 : decode cX4_isSameLine 1 = .ok (.getfield 15, 3) := by decide +kernel
theorem dX4_isSameLine_4 : decode cX4_isSameLine 4 = .ok (.iload_n 2, 1) := by decide +kernel
theorem dX4_isSameLine_5 : decode cX4_isSameLine 5 = .ok (.iaload, 1) := by decide +kernel
theorem dX4_isSameLine_6 : decode cX4_isSameLine 6 = .ok (.aload_n 1, 1) := by decide +kernel
theorem dX4_isSameLine_7 : decode cX4_isSameLine 7 = .ok (.getfield 15, 3) := by decide +kernel
theorem dX4_isSameLine_10 : decode cX4_isSameLine 10 = .ok (.iload_n 2, 1) := by decide +kernel
theorem dX4_isSameLine_11 : decode cX4_isSameLine 11 = .ok (.iaload, 1) := by decide +kernel
theorem dX4_isSameLine_12 : decode cX4_isSameLine 12 = .ok (.if_icmp .ne 52, 3) := by decide +kernel
theorem dX4_isSameLine_15 : decode cX4_isSameLine 15 = .ok (.aload_n 0, 1) := by decide +kernel
theorem dX4_isSameLine_16 : decode cX4_isSameLine 16 = .ok (.getfield 19, 3) := by decide +kernel
theorem dX4_isSameLine_19 : decode cX4_isSameLine 19 = .ok (.iload_n 2, 1) := by decide +kernel
theorem dX4_isSameLine_20 : decode cX4_isSameLine 20 = .ok (.iaload, 1) := by decide +kernel
theorem dX4_isSameLine_21 : decode cX4_isSameLine 21 = .ok (.aload_n 1, 1) := by decide +kernel
theorem dX4_isSameLine_22 : decode cX4_isSameLine 22 = .ok (.getfield 19, 3) := by decide +kernel
theorem dX4_isSameLine_25 : decode cX4_isSameLine 25 = .ok (.iload_n 2, 1) := by decide +kernel
theorem dX4_isSameLine_26 : decode cX4_isSameLine 26 = .ok (.iaload, 1) := by decide +kernel
theorem dX4_isSameLine_27 : decode cX4_isSameLine 27 = .ok (.if_icmp .ne 37, 3) := by decide +kernel
theorem dX4_isSameLine_30 : decode cX4_isSameLine 30 = .ok (.aload_n 0, 1) := by decide +kernel
theorem dX4_isSameLine_31 : decode cX4_isSameLine 31 = .ok (.getfield 22, 3) := by decide +kernel
theorem dX4_isSameLine_34 : decode cX4_isSameLine 34 = .ok (.iload_n 2, 1) := by decide +kernel
theorem dX4_isSameLine_35 : decode cX4_isSameLine 35 = .ok (.iaload, 1) := by decide +kernel
theorem dX4_isSameLine_36 : decode cX4_isSameLine 36 = .ok (.aload_n 1, 1) := by decide +kernel
theorem dX4_isSameLine_37 : decode cX4_isSameLine 37 = .ok (.getfield 22, 3) := by decide +kernel
theorem dX4_isSameLine_40 : decode cX4_isSameLine 40 = .ok (.iload_n 2, 1) := by decide +kernel
theorem dX4_isSameLine_41 : decode cX4_isSameLine 41 = .ok (.iaload, 1) := by decide +kernel
theorem dX4_isSameLine_42 : decode cX4_isSameLine 42 = .ok (.if_icmp .ne 22, 3) := by decide +kernel
theorem dX4_isSameLine_45 : decode cX4_isSameLine 45 = .ok (.aload_n 0, 1) := by decide +kernel
theorem dX4_isSameLine_46 : decode cX4_isSameLine 46 = .ok (.getfield 25, 3) := by decide +kernel
theorem dX4_isSameLine_49 : decode cX4_isSameLine 49 = .ok (.iload_n 2, 1) := by decide +kernel
theorem dX4_isSameLine_50 : decode cX4_isSameLine 50 = .ok (.iaload, 1) := by decide +kernel
theorem dX4_isSameLine_51 : decode cX4_isSameLine 51 = .ok (.aload_n 1, 1) := by decide +kernel
theorem dX4_isSameLine_52 : decode cX4_isSameLine 52 = .ok (.getfield 25, 3) := by decide +kernel
theorem dX4_isSameLine_55 : decode cX4_isSameLine 55 = .ok (.iload_n 2, 1) := by decide +kernel
theorem dX4_isSameLine_56 : decode cX4_isSameLine 56 = .ok (.iaload, 1) := by decide +kernel
theorem dX4_isSameLine_57 : decode cX4_isSameLine 57 = .ok (.if_icmp .ne 7, 3) := by decide +kernel
theorem dX4_isSameLine_60 : decode cX4_isSameLine 60 = .ok (.iconst 1, 1) := by decide +kernel
theorem dX4_isSameLine_61 : decode cX4_isSameLine 61 = .ok (.goto 4, 3) := by decide +kernel
theorem dX4_isSameLine_64 : decode cX4_isSameLine 64 = .ok (.iconst 0, 1) := by decide +kernel
theorem dX4_isSameLine_65 : decode cX4_isSameLine 65 = .ok (.ireturn, 1) := by decide +kernel
theorem dX5_init_0 : decode cX5_init 0 = .ok (.aload_n 0, 1) := by decide +kernel
theorem dX5_init_1 : decode cX5_init 1 = .ok (.invokespecial 3, 3) := by decide +kernel
theorem dX5_init_4 : decode cX5_init 4 = .ok (.aload_n 0, 1) := by decide +kernel
theorem dX5_init_5 : decode cX5_init 5 = .ok (.bipush 40, 2) := by decide +kernel
theorem dX5_init_7 : decode cX5_init 7 = .ok (.newarray .int, 2) := by decide +kernel
theorem dX5_init_9 : decode cX5_init 9 = .ok (.putfield 9, 3) := by decide +kernel
theorem dX5_init_12 : decode cX5_init 12 = .ok (.aload_n 0, 1) := by decide +kernel
theorem dX5_init_13 : decode cX5_init 13 = .ok (.iconst 0, 1) := by decide +kernel
theorem dX5_init_14 : decode cX5_init 14 = .ok (.putfield 15, 3) := by decide +kernel
theorem dX5_init_17 : decode cX5_init 17 = .ok (.aload_n 0, 1) := by decide +kernel
theorem dX5_init_18 : decode cX5_init 18 = .ok (.lconst 0, 1) := by decide +kernel
theorem dX5_init_19 : decode cX5_init 19 = .ok (.putfield 19, 3) := by decide +kernel
theorem dX5_init_22 : decode cX5_init 22 = .ok (.aload_n 0, 1) := by decide +kernel
theorem dX5_init_23 : decode cX5_init 23 = .ok (.iconst 0, 1) := by decide +kernel
theorem dX5_init_24 : decode cX5_init 24 = .ok (.putfield 23, 3) := by decide +kernel
theorem dX5_init_27 : decode cX5_init 27 = .ok (.return_, 1) := by decide +kernel
theorem dX5_firstFault_0 : decode cX5_firstFault 0 = .ok (.iconst 0, 1) := by decide +kernel
theorem dX5_firstFault_1 : decode cX5_firstFault 1 = .ok (.istore_n 1, 1) := by decide +kernel
theorem dX5_firstFault_2 : decode cX5_firstFault 2 = .ok (.iconst 0, 1) := by decide +kernel
theorem dX5_firstFault_3 : decode cX5_firstFault 3 = .ok (.istore_n 2, 1) := by decide +kernel
theorem dX5_firstFault_4 : decode cX5_firstFault 4 = .ok (.iconst 0, 1) := by decide +kernel
theorem dX5_firstFault_5 : decode cX5_firstFault 5 = .ok (.istore_n 3, 1) := by decide +kernel
theorem dX5_firstFault_6 : decode cX5_firstFault 6 = .ok (.iload_n 3, 1) := by decide +kernel
theorem dX5_firstFault_7 : decode cX5_firstFault 7 = .ok (.aload_n 0, 1) := by decide +kernel
theorem dX5_firstFault_8 : decode cX5_firstFault 8 = .ok (.getfield 15, 3) := by decide +kernel
theorem dX5_firstFault_11 : decode cX5_firstFault 11 = .ok (.if_icmp .ge 49, 3) := by decide +kernel
theorem dX5_firstFault_14 : decode cX5_firstFault 14 = .ok (.aload_n 0, 1) := by decide +kernel
theorem dX5_firstFault_15 : decode cX5_firstFault 15 = .ok (.getfield 9, 3) := by decide +kernel
theorem dX5_firstFault_18 : decode cX5_firstFault 18 = .ok (.iload_n 3, 1) := by decide +kernel
theorem dX5_firstFault_19 : decode cX5_firstFault 19 = .ok (.iaload, 1) := by decide +kernel
theorem dX5_firstFault_20 : decode cX5_firstFault 20 = .ok (.iload_n 1, 1) := by decide +kernel
theorem dX5_firstFault_21 : decode cX5_firstFault 21 = .ok (.iload_n 2, 1) := by decide +kernel
theorem dX5_firstFault_22 : decode cX5_firstFault 22 = .ok (.invokestatic 26, 3) := by decide +kernel
theorem dX5_firstFault_25 : decode cX5_firstFault 25 = .ok (.istore_n 1, 1) := by decide +kernel
theorem dX5_firstFault_26 : decode cX5_firstFault 26 = .ok (.iload_n 1, 1) := by decide +kernel
theorem dX5_firstFault_27 : decode cX5_firstFault 27 = .ok (.iconst 4, 1) := by decide +kernel
theorem dX5_firstFault_28 : decode cX5_firstFault 28 = .ok (.if_icmp .ne 5, 3) := by decide +kernel
theorem dX5_firstFault_31 : decode cX5_firstFault 31 = .ok (.iload_n 3, 1) := by decide +kernel
theorem dX5_firstFault_32 : decode cX5_firstFault 32 = .ok (.ireturn, 1) := by decide +kernel
theorem dX5_firstFault_33 : decode cX5_firstFault 33 = .ok (.iload_n 2, 1) := by decide +kernel
theorem dX5_firstFault_34 : decode cX5_firstFault 34 = .ok (.ifCond .ne 14, 3) := by decide +kernel
theorem dX5_firstFault_37 : decode cX5_firstFault 37 = .ok (.aload_n 0, 1) := by decide +kernel
theorem dX5_firstFault_38 : decode cX5_firstFault 38 = .ok (.getfield 9, 3) := by decide +kernel
theorem dX5_firstFault_41 : decode cX5_firstFault 41 = .ok (.iload_n 3, 1) := by decide +kernel
theorem dX5_firstFault_42 : decode cX5_firstFault 42 = .ok (.iaload, 1) := by decide +kernel
theorem dX5_firstFault_43 : decode cX5_firstFault 43 = .ok (.bipush 58, 2) := by decide +kernel
theorem dX5_firstFault_45 : decode cX5_firstFault 45 = .ok (.if_icmp .ne 7, 3) := by decide +kernel
theorem dX5_firstFault_48 : decode cX5_firstFault 48 = .ok (.iconst 1, 1) := by decide +kernel
theorem dX5_firstFault_49 : decode cX5_firstFault 49 = .ok (.goto 4, 3) := by decide +kernel
theorem dX5_firstFault_52 : decode cX5_firstFault 52 = .ok (.iconst 0, 1) := by decide +kernel
theorem dX5_firstFault_53 : decode cX5_firstFault 53 = .ok (.istore_n 2, 1) := by decide +kernel
theorem dX5_firstFault_54 : decode cX5_firstFault 54 = .ok (.iinc 3 1, 3) := by decide +kernel
theorem dX5_firstFault_57 : decode cX5_firstFault 57 = .ok (.goto (-51), 3) := by decide +kernel
theorem dX5_firstFault_60 : decode cX5_firstFault 60 = .ok (.iload_n 2, 1) := by decide +kernel
theorem dX5_firstFault_61 : decode cX5_firstFault 61 = .ok (.ifCond .eq 13, 3) := by decide +kernel
theorem dX5_firstFault_64 : decode cX5_firstFault 64 = .ok (.iload_n 1, 1) := by decide +kernel
theorem dX5_firstFault_65 : decode cX5_firstFault 65 = .ok (.iconst 3, 1) := by decide +kernel
theorem dX5_firstFault_66 : decode cX5_firstFault 66 = .ok (.if_icmp .ne 8, 3) := by decide +kernel
theorem dX5_firstFault_69 : decode cX5_firstFault 69 = .ok (.bipush (-6), 2) := by decide +kernel
theorem dX5_firstFault_71 : decode cX5_firstFault 71 = .ok (.goto 7, 3) := by decide +kernel
theorem dX5_firstFault_74 : decode cX5_firstFault 74 = .ok (.aload_n 0, 1) := by decide +kernel
theorem dX5_firstFault_75 : decode cX5_firstFault 75 = .ok (.getfield 15, 3) := by decide +kernel
theorem dX5_firstFault_78 : decode cX5_firstFault 78 = .ok (.ireturn, 1) := by decide +kernel
theorem dX5_dueBehind_0 : decode cX5_dueBehind 0 = .ok (.iload_n 1, 1) := by decide +kernel
theorem dX5_dueBehind_1 : decode cX5_dueBehind 1 = .ok (.tableswitch 98 0 2 #[27, 55, 85], 27) := by decide +kernel
theorem dX5_dueBehind_28 : decode cX5_dueBehind 28 = .ok (.iload_n 0, 1) := by decide +kernel
theorem dX5_dueBehind_29 : decode cX5_dueBehind 29 = .ok (.invokestatic 30, 3) := by decide +kernel
theorem dX5_dueBehind_32 : decode cX5_dueBehind 32 = .ok (.ifCond .eq 5, 3) := by decide +kernel
theorem dX5_dueBehind_35 : decode cX5_dueBehind 35 = .ok (.iconst 1, 1) := by decide +kernel
theorem dX5_dueBehind_36 : decode cX5_dueBehind 36 = .ok (.ireturn, 1) := by decide +kernel
theorem dX5_dueBehind_37 : decode cX5_dueBehind 37 = .ok (.iload_n 2, 1) := by decide +kernel
theorem dX5_dueBehind_38 : decode cX5_dueBehind 38 = .ok (.ifCond .eq 16, 3) := by decide +kernel
theorem dX5_dueBehind_41 : decode cX5_dueBehind 41 = .ok (.iload_n 0, 1) := by decide +kernel
theorem dX5_dueBehind_42 : decode cX5_dueBehind 42 = .ok (.invokestatic 34, 3) := by decide +kernel
theorem dX5_dueBehind_45 : decode cX5_dueBehind 45 = .ok (.lconst 0, 1) := by decide +kernel
theorem dX5_dueBehind_46 : decode cX5_dueBehind 46 = .ok (.lcmp, 1) := by decide +kernel
theorem dX5_dueBehind_47 : decode cX5_dueBehind 47 = .ok (.ifCond .eq 7, 3) := by decide +kernel
theorem dX5_dueBehind_50 : decode cX5_dueBehind 50 = .ok (.iconst 3, 1) := by decide +kernel
theorem dX5_dueBehind_51 : decode cX5_dueBehind 51 = .ok (.goto 4, 3) := by decide +kernel
theorem dX5_dueBehind_54 : decode cX5_dueBehind 54 = .ok (.iconst 4, 1) := by decide +kernel
theorem dX5_dueBehind_55 : decode cX5_dueBehind 55 = .ok (.ireturn, 1) := by decide +kernel
theorem dX5_dueBehind_56 : decode cX5_dueBehind 56 = .ok (.iload_n 0, 1) := by decide +kernel
theorem dX5_dueBehind_57 : decode cX5_dueBehind 57 = .ok (.bipush 61, 2) := by decide +kernel
theorem dX5_dueBehind_59 : decode cX5_dueBehind 59 = .ok (.if_icmp .eq 21, 3) := by decide +kernel
theorem dX5_dueBehind_62 : decode cX5_dueBehind 62 = .ok (.iload_n 0, 1) := by decide +kernel
theorem dX5_dueBehind_63 : decode cX5_dueBehind 63 = .ok (.bipush 60, 2) := by decide +kernel
theorem dX5_dueBehind_65 : decode cX5_dueBehind 65 = .ok (.if_icmp .eq 15, 3) := by decide +kernel
theorem dX5_dueBehind_68 : decode cX5_dueBehind 68 = .ok (.iload_n 0, 1) := by decide +kernel
theorem dX5_dueBehind_69 : decode cX5_dueBehind 69 = .ok (.bipush 62, 2) := by decide +kernel
theorem dX5_dueBehind_71 : decode cX5_dueBehind 71 = .ok (.if_icmp .eq 9, 3) := by decide +kernel
theorem dX5_dueBehind_74 : decode cX5_dueBehind 74 = .ok (.iload_n 0, 1) := by decide +kernel
theorem dX5_dueBehind_75 : decode cX5_dueBehind 75 = .ok (.bipush 35, 2) := by decide +kernel
theorem dX5_dueBehind_77 : decode cX5_dueBehind 77 = .ok (.if_icmp .ne 7, 3) := by decide +kernel
theorem dX5_dueBehind_80 : decode cX5_dueBehind 80 = .ok (.iconst 2, 1) := by decide +kernel
theorem dX5_dueBehind_81 : decode cX5_dueBehind 81 = .ok (.goto 4, 3) := by decide +kernel
theorem dX5_dueBehind_84 : decode cX5_dueBehind 84 = .ok (.iconst 4, 1) := by decide +kernel
theorem dX5_dueBehind_85 : decode cX5_dueBehind 85 = .ok (.ireturn, 1) := by decide +kernel
theorem dX5_dueBehind_86 : decode cX5_dueBehind 86 = .ok (.iload_n 0, 1) := by decide +kernel
theorem dX5_dueBehind_87 : decode cX5_dueBehind 87 = .ok (.invokestatic 30, 3) := by decide +kernel
theorem dX5_dueBehind_90 : decode cX5_dueBehind 90 = .ok (.ifCond .eq 7, 3) := by decide +kernel
theorem dX5_dueBehind_93 : decode cX5_dueBehind 93 = .ok (.iconst 3, 1) := by decide +kernel
theorem dX5_dueBehind_94 : decode cX5_dueBehind 94 = .ok (.goto 4, 3) := by decide +kernel
theorem dX5_dueBehind_97 : decode cX5_dueBehind 97 = .ok (.iconst 4, 1) := by decide +kernel
theorem dX5_dueBehind_98 : decode cX5_dueBehind 98 = .ok (.ireturn, 1) := by decide +kernel
theorem dX5_dueBehind_99 : decode cX5_dueBehind 99 = .ok (.iload_n 0, 1) := by decide +kernel
theorem dX5_dueBehind_100 : decode cX5_dueBehind 100 = .ok (.bipush 38, 2) := by decide +kernel
theorem dX5_dueBehind_102 : decode cX5_dueBehind 102 = .ok (.if_icmp .eq 13, 3) := by decide +kernel
theorem dX5_dueBehind_105 : decode cX5_dueBehind 105 = .ok (.iload_n 0, 1) := by decide +kernel
theorem dX5_dueBehind_106 : decode cX5_dueBehind 106 = .ok (.bipush 58, 2) := by decide +kernel
theorem dX5_dueBehind_108 : decode cX5_dueBehind 108 = .ok (.if_icmp .ne 11, 3) := by decide +kernel
theorem dX5_dueBehind_111 : decode cX5_dueBehind 111 = .ok (.iload_n 2, 1) := by decide +kernel
theorem dX5_dueBehind_112 : decode cX5_dueBehind 112 = .ok (.ifCond .ne 7, 3) := by decide +kernel
theorem dX5_dueBehind_115 : decode cX5_dueBehind 115 = .ok (.iconst 0, 1) := by decide +kernel
theorem dX5_dueBehind_116 : decode cX5_dueBehind 116 = .ok (.goto 4, 3) := by decide +kernel
theorem dX5_dueBehind_119 : decode cX5_dueBehind 119 = .ok (.iconst 4, 1) := by decide +kernel
theorem dX5_dueBehind_120 : decode cX5_dueBehind 120 = .ok (.ireturn, 1) := by decide +kernel
theorem dX5_isLetter_0 : decode cX5_isLetter 0 = .ok (.iload_n 0, 1) := by decide +kernel
theorem dX5_isLetter_1 : decode cX5_isLetter 1 = .ok (.bipush 97, 2) := by decide +kernel
theorem dX5_isLetter_3 : decode cX5_isLetter 3 = .ok (.if_icmp .lt 13, 3) := by decide +kernel
theorem dX5_isLetter_6 : decode cX5_isLetter 6 = .ok (.iload_n 0, 1) := by decide +kernel
theorem dX5_isLetter_7 : decode cX5_isLetter 7 = .ok (.bipush 100, 2) := by decide +kernel
theorem dX5_isLetter_9 : decode cX5_isLetter 9 = .ok (.if_icmp .gt 7, 3) := by decide +kernel
theorem dX5_isLetter_12 : decode cX5_isLetter 12 = .ok (.iconst 1, 1) := by decide +kernel
theorem dX5_isLetter_13 : decode cX5_isLetter 13 = .ok (.goto 4, 3) := by decide +kernel
theorem dX5_isLetter_16 : decode cX5_isLetter 16 = .ok (.iconst 0, 1) := by decide +kernel
theorem dX5_isLetter_17 : decode cX5_isLetter 17 = .ok (.ireturn, 1) := by decide +kernel
theorem dX5_alikePart_0 : decode cX5_alikePart 0 = .ok (.iload_n 0, 1) := by decide +kernel
theorem dX5_alikePart_1 : decode cX5_alikePart 1 = .ok (.lookupswitch 47 #[(101, 35), (111, 39), (116, 43)], 35) := by decide +kernel
theorem dX5_alikePart_36 : decode cX5_alikePart 36 = .ok (.ldc2_w 40, 3) := by decide +kernel
theorem dX5_alikePart_39 : decode cX5_alikePart 39 = .ok (.lreturn, 1) := by decide +kernel
theorem dX5_alikePart_40 : decode cX5_alikePart 40 = .ok (.ldc2_w 42, 3) := by decide +kernel
theorem dX5_alikePart_43 : decode cX5_alikePart 43 = .ok (.lreturn, 1) := by decide +kernel
theorem dX5_alikePart_44 : decode cX5_alikePart 44 = .ok (.ldc2_w 44, 3) := by decide +kernel
theorem dX5_alikePart_47 : decode cX5_alikePart 47 = .ok (.lreturn, 1) := by decide +kernel
theorem dX5_alikePart_48 : decode cX5_alikePart 48 = .ok (.lconst 0, 1) := by decide +kernel
theorem dX5_alikePart_49 : decode cX5_alikePart 49 = .ok (.lreturn, 1) := by decide +kernel
theorem dX5_take_0 : decode cX5_take 0 = .ok (.aload_n 1, 1) := by decide +kernel
theorem dX5_take_1 : decode cX5_take 1 = .ok (.getfield 9, 3) := by decide +kernel
theorem dX5_take_4 : decode cX5_take 4 = .ok (.iconst 0, 1) := by decide +kernel
theorem dX5_take_5 : decode cX5_take 5 = .ok (.aload_n 0, 1) := by decide +kernel
theorem dX5_take_6 : decode cX5_take 6 = .ok (.getfield 9, 3) := by decide +kernel
theorem dX5_take_9 : decode cX5_take 9 = .ok (.iconst 0, 1) := by decide +kernel
theorem dX5_take_10 : decode cX5_take 10 = .ok (.bipush 40, 2) := by decide +kernel
theorem dX5_take_12 : decode cX5_take 12 = .ok (.invokestatic 46, 3) := by decide +kernel
theorem dX5_take_15 : decode cX5_take 15 = .ok (.aload_n 0, 1) := by decide +kernel
theorem dX5_take_16 : decode cX5_take 16 = .ok (.aload_n 1, 1) := by decide +kernel
theorem dX5_take_17 : decode cX5_take 17 = .ok (.getfield 15, 3) := by decide +kernel
theorem dX5_take_20 : decode cX5_take 20 = .ok (.putfield 15, 3) := by decide +kernel
theorem dX5_take_23 : decode cX5_take 23 = .ok (.aload_n 0, 1) := by decide +kernel
theorem dX5_take_24 : decode cX5_take 24 = .ok (.iconst 0, 1) := by decide +kernel
theorem dX5_take_25 : decode cX5_take 25 = .ok (.putfield 23, 3) := by decide +kernel
theorem dX5_take_28 : decode cX5_take 28 = .ok (.aload_n 0, 1) := by decide +kernel
theorem dX5_take_29 : decode cX5_take 29 = .ok (.lconst 0, 1) := by decide +kernel
theorem dX5_take_30 : decode cX5_take 30 = .ok (.putfield 19, 3) := by decide +kernel
theorem dX5_take_33 : decode cX5_take 33 = .ok (.iconst 0, 1) := by decide +kernel
theorem dX5_take_34 : decode cX5_take 34 = .ok (.istore_n 2, 1) := by decide +kernel
theorem dX5_take_35 : decode cX5_take 35 = .ok (.iload_n 2, 1) := by decide +kernel
theorem dX5_take_36 : decode cX5_take 36 = .ok (.aload_n 0, 1) := by decide +kernel
theorem dX5_take_37 : decode cX5_take 37 = .ok (.getfield 15, 3) := by decide +kernel
theorem dX5_take_40 : decode cX5_take 40 = .ok (.if_icmp .ge 50, 3) := by decide +kernel
theorem dX5_take_43 : decode cX5_take 43 = .ok (.aload_n 0, 1) := by decide +kernel
theorem dX5_take_44 : decode cX5_take 44 = .ok (.aload_n 0, 1) := by decide +kernel
theorem dX5_take_45 : decode cX5_take 45 = .ok (.getfield 9, 3) := by decide +kernel
theorem dX5_take_48 : decode cX5_take 48 = .ok (.iload_n 2, 1) := by decide +kernel
theorem dX5_take_49 : decode cX5_take 49 = .ok (.iaload, 1) := by decide +kernel
theorem dX5_take_50 : decode cX5_take 50 = .ok (.bipush 58, 2) := by decide +kernel
theorem dX5_take_52 : decode cX5_take 52 = .ok (.if_icmp .ne 7, 3) := by decide +kernel
theorem dX5_take_55 : decode cX5_take 55 = .ok (.iload_n 2, 1) := by decide +kernel
theorem dX5_take_56 : decode cX5_take 56 = .ok (.goto 7, 3) := by decide +kernel
theorem dX5_take_59 : decode cX5_take 59 = .ok (.aload_n 0, 1) := by decide +kernel
theorem dX5_take_60 : decode cX5_take 60 = .ok (.getfield 23, 3) := by decide +kernel
theorem dX5_take_63 : decode cX5_take 63 = .ok (.putfield 23, 3) := by decide +kernel
theorem dX5_take_66 : decode cX5_take 66 = .ok (.aload_n 0, 1) := by decide +kernel
theorem dX5_take_67 : decode cX5_take 67 = .ok (.dup, 1) := by decide +kernel
theorem dX5_take_68 : decode cX5_take 68 = .ok (.getfield 19, 3) := by decide +kernel
theorem dX5_take_71 : decode cX5_take 71 = .ok (.aload_n 0, 1) := by decide +kernel
theorem dX5_take_72 : decode cX5_take 72 = .ok (.getfield 9, 3) := by decide +kernel
theorem dX5_take_75 : decode cX5_take 75 = .ok (.iload_n 2, 1) := by decide +kernel
theorem dX5_take_76 : decode cX5_take 76 = .ok (.iaload, 1) := by decide +kernel
theorem dX5_take_77 : decode cX5_take 77 = .ok (.invokestatic 34, 3) := by decide +kernel
theorem dX5_take_80 : decode cX5_take 80 = .ok (.lor, 1) := by decide +kernel
theorem dX5_take_81 : decode cX5_take 81 = .ok (.putfield 19, 3) := by decide +kernel
theorem dX5_take_84 : decode cX5_take 84 = .ok (.iinc 2 1, 3) := by decide +kernel
theorem dX5_take_87 : decode cX5_take 87 = .ok (.goto (-52), 3) := by decide +kernel
theorem dX5_take_90 : decode cX5_take 90 = .ok (.return_, 1) := by decide +kernel
theorem dX5_deniedAhead_0 : decode cX5_deniedAhead 0 = .ok (.aload_n 0, 1) := by decide +kernel
theorem dX5_deniedAhead_1 : decode cX5_deniedAhead 1 = .ok (.iconst 0, 1) := by decide +kernel
theorem dX5_deniedAhead_2 : decode cX5_deniedAhead 2 = .ok (.aload_n 0, 1) := by decide +kernel
theorem dX5_deniedAhead_3 : decode cX5_deniedAhead 3 = .ok (.getfield 23, 3) := by decide +kernel
theorem dX5_deniedAhead_6 : decode cX5_deniedAhead 6 = .ok (.iload_n 1, 1) := by decide +kernel
theorem dX5_deniedAhead_7 : decode cX5_deniedAhead 7 = .ok (.invokevirtual 52, 3) := by decide +kernel
theorem dX5_deniedAhead_10 : decode cX5_deniedAhead 10 = .ok (.ireturn, 1) := by decide +kernel
theorem dX5_deniedBehind_0 : decode cX5_deniedBehind 0 = .ok (.aload_n 0, 1) := by decide +kernel
theorem dX5_deniedBehind_1 : decode cX5_deniedBehind 1 = .ok (.aload_n 0, 1) := by decide +kernel
theorem dX5_deniedBehind_2 : decode cX5_deniedBehind 2 = .ok (.getfield 23, 3) := by decide +kernel
theorem dX5_deniedBehind_5 : decode cX5_deniedBehind 5 = .ok (.iconst 1, 1) := by decide +kernel
theorem dX5_deniedBehind_6 : decode cX5_deniedBehind 6 = .ok (.iadd, 1) := by decide +kernel
theorem dX5_deniedBehind_7 : decode cX5_deniedBehind 7 = .ok (.aload_n 0, 1) := by decide +kernel
theorem dX5_deniedBehind_8 : decode cX5_deniedBehind 8 = .ok (.getfield 15, 3) := by decide +kernel
theorem dX5_deniedBehind_11 : decode cX5_deniedBehind 11 = .ok (.iload_n 1, 1) := by decide +kernel
theorem dX5_deniedBehind_12 : decode cX5_deniedBehind 12 = .ok (.invokevirtual 52, 3) := by decide +kernel
theorem dX5_deniedBehind_15 : decode cX5_deniedBehind 15 = .ok (.ireturn, 1) := by decide +kernel
theorem dX5_deniedFrom_0 : decode cX5_deniedFrom 0 = .ok (.iconst 0, 1) := by decide +kernel
theorem dX5_deniedFrom_1 : decode cX5_deniedFrom 1 = .ok (.istore 4, 2) := by decide +kernel
theorem dX5_deniedFrom_3 : decode cX5_deniedFrom 3 = .ok (.iload_n 1, 1) := by decide +kernel
theorem dX5_deniedFrom_4 : decode cX5_deniedFrom 4 = .ok (.istore 5, 2) := by decide +kernel
theorem dX5_deniedFrom_6 : decode cX5_deniedFrom 6 = .ok (.iload 5, 2) := by decide +kernel
theorem dX5_deniedFrom_8 : decode cX5_deniedFrom 8 = .ok (.iconst 2, 1) := by decide +kernel
theorem dX5_deniedFrom_9 : decode cX5_deniedFrom 9 = .ok (.iadd, 1) := by decide +kernel
theorem dX5_deniedFrom_10 : decode cX5_deniedFrom 10 = .ok (.iload_n 2, 1) := by decide +kernel
theorem dX5_deniedFrom_11 : decode cX5_deniedFrom 11 = .ok (.if_icmp .ge 92, 3) := by decide +kernel
theorem dX5_deniedFrom_14 : decode cX5_deniedFrom 14 = .ok (.aload_n 0, 1) := by decide +kernel
theorem dX5_deniedFrom_15 : decode cX5_deniedFrom 15 = .ok (.getfield 9, 3) := by decide +kernel
theorem dX5_deniedFrom_18 : decode cX5_deniedFrom 18 = .ok (.iload 5, 2) := by decide +kernel
theorem dX5_deniedFrom_20 : decode cX5_deniedFrom 20 = .ok (.iaload, 1) := by decide +kernel
theorem dX5_deniedFrom_21 : decode cX5_deniedFrom 21 = .ok (.invokestatic 30, 3) := by decide +kernel
theorem dX5_deniedFrom_24 : decode cX5_deniedFrom 24 = .ok (.ifCond .eq 53, 3) := by decide +kernel
theorem dX5_deniedFrom_27 : decode cX5_deniedFrom 27 = .ok (.iload_n 3, 1) := by decide +kernel
theorem dX5_deniedFrom_28 : decode cX5_deniedFrom 28 = .ok (.aload_n 0, 1) := by decide +kernel
theorem dX5_deniedFrom_29 : decode cX5_deniedFrom 29 = .ok (.getfield 9, 3) := by decide +kernel
theorem dX5_deniedFrom_32 : decode cX5_deniedFrom 32 = .ok (.iload 5, 2) := by decide +kernel
theorem dX5_deniedFrom_34 : decode cX5_deniedFrom 34 = .ok (.iaload, 1) := by decide +kernel
theorem dX5_deniedFrom_35 : decode cX5_deniedFrom 35 = .ok (.bipush 97, 2) := by decide +kernel
theorem dX5_deniedFrom_37 : decode cX5_deniedFrom 37 = .ok (.isub, 1) := by decide +kernel
theorem dX5_deniedFrom_38 : decode cX5_deniedFrom 38 = .ok (.invokestatic 56, 3) := by decide +kernel
theorem dX5_deniedFrom_41 : decode cX5_deniedFrom 41 = .ok (.istore 6, 2) := by decide +kernel
theorem dX5_deniedFrom_43 : decode cX5_deniedFrom 43 = .ok (.iload 4, 2) := by decide +kernel
theorem dX5_deniedFrom_45 : decode cX5_deniedFrom 45 = .ok (.aload_n 0, 1) := by decide +kernel
theorem dX5_deniedFrom_46 : decode cX5_deniedFrom 46 = .ok (.getfield 9, 3) := by decide +kernel
theorem dX5_deniedFrom_49 : decode cX5_deniedFrom 49 = .ok (.iload 5, 2) := by decide +kernel
theorem dX5_deniedFrom_51 : decode cX5_deniedFrom 51 = .ok (.iconst 1, 1) := by decide +kernel
theorem dX5_deniedFrom_52 : decode cX5_deniedFrom 52 = .ok (.iadd, 1) := by decide +kernel
theorem dX5_deniedFrom_53 : decode cX5_deniedFrom 53 = .ok (.iaload, 1) := by decide +kernel
theorem dX5_deniedFrom_54 : decode cX5_deniedFrom 54 = .ok (.iload 6, 2) := by decide +kernel
theorem dX5_deniedFrom_56 : decode cX5_deniedFrom 56 = .ok (.invokestatic 60, 3) := by decide +kernel
theorem dX5_deniedFrom_59 : decode cX5_deniedFrom 59 = .ok (.iconst 4, 1) := by decide +kernel
theorem dX5_deniedFrom_60 : decode cX5_deniedFrom 60 = .ok (.aload_n 0, 1) := by decide +kernel
theorem dX5_deniedFrom_61 : decode cX5_deniedFrom 61 = .ok (.getfield 9, 3) := by decide +kernel
theorem dX5_deniedFrom_64 : decode cX5_deniedFrom 64 = .ok (.iload 5, 2) := by decide +kernel
theorem dX5_deniedFrom_66 : decode cX5_deniedFrom 66 = .ok (.iconst 2, 1) := by decide +kernel
theorem dX5_deniedFrom_67 : decode cX5_deniedFrom 67 = .ok (.iadd, 1) := by decide +kernel
theorem dX5_deniedFrom_68 : decode cX5_deniedFrom 68 = .ok (.iaload, 1) := by decide +kernel
theorem dX5_deniedFrom_69 : decode cX5_deniedFrom 69 = .ok (.bipush 97, 2) := by decide +kernel
theorem dX5_deniedFrom_71 : decode cX5_deniedFrom 71 = .ok (.isub, 1) := by decide +kernel
theorem dX5_deniedFrom_72 : decode cX5_deniedFrom 72 = .ok (.imul, 1) := by decide +kernel
theorem dX5_deniedFrom_73 : decode cX5_deniedFrom 73 = .ok (.ishl, 1) := by decide +kernel
theorem dX5_deniedFrom_74 : decode cX5_deniedFrom 74 = .ok (.ior, 1) := by decide +kernel
theorem dX5_deniedFrom_75 : decode cX5_deniedFrom 75 = .ok (.istore 4, 2) := by decide +kernel
theorem dX5_deniedFrom_77 : decode cX5_deniedFrom 77 = .ok (.iload 5, 2) := by decide +kernel
theorem dX5_deniedFrom_79 : decode cX5_deniedFrom 79 = .ok (.aload_n 0, 1) := by decide +kernel
theorem dX5_deniedFrom_80 : decode cX5_deniedFrom 80 = .ok (.getfield 9, 3) := by decide +kernel
theorem dX5_deniedFrom_83 : decode cX5_deniedFrom 83 = .ok (.iload 5, 2) := by decide +kernel
theorem dX5_deniedFrom_85 : decode cX5_deniedFrom 85 = .ok (.iaload, 1) := by decide +kernel
theorem dX5_deniedFrom_86 : decode cX5_deniedFrom 86 = .ok (.invokestatic 30, 3) := by decide +kernel
theorem dX5_deniedFrom_89 : decode cX5_deniedFrom 89 = .ok (.ifCond .eq 7, 3) := by decide +kernel
theorem dX5_deniedFrom_92 : decode cX5_deniedFrom 92 = .ok (.iconst 4, 1) := by decide +kernel
theorem dX5_deniedFrom_93 : decode cX5_deniedFrom 93 = .ok (.goto 4, 3) := by decide +kernel
theorem dX5_deniedFrom_96 : decode cX5_deniedFrom 96 = .ok (.iconst 2, 1) := by decide +kernel
theorem dX5_deniedFrom_97 : decode cX5_deniedFrom 97 = .ok (.iadd, 1) := by decide +kernel
theorem dX5_deniedFrom_98 : decode cX5_deniedFrom 98 = .ok (.istore 5, 2) := by decide +kernel
theorem dX5_deniedFrom_100 : decode cX5_deniedFrom 100 = .ok (.goto (-94), 3) := by decide +kernel
theorem dX5_deniedFrom_103 : decode cX5_deniedFrom 103 = .ok (.iload 4, 2) := by decide +kernel
theorem dX5_deniedFrom_105 : decode cX5_deniedFrom 105 = .ok (.ireturn, 1) := by decide +kernel
theorem dX5_deniedBy_0 : decode cX5_deniedBy 0 = .ok (.iconst 1, 1) := by decide +kernel
theorem dX5_deniedBy_1 : decode cX5_deniedBy 1 = .ok (.iload_n 1, 1) := by decide +kernel
theorem dX5_deniedBy_2 : decode cX5_deniedBy 2 = .ok (.ishl, 1) := by decide +kernel
theorem dX5_deniedBy_3 : decode cX5_deniedBy 3 = .ok (.iconst 1, 1) := by decide +kernel
theorem dX5_deniedBy_4 : decode cX5_deniedBy 4 = .ok (.isub, 1) := by decide +kernel
theorem dX5_deniedBy_5 : decode cX5_deniedBy 5 = .ok (.istore_n 2, 1) := by decide +kernel
theorem dX5_deniedBy_6 : decode cX5_deniedBy 6 = .ok (.iconst 1, 1) := by decide +kernel
theorem dX5_deniedBy_7 : decode cX5_deniedBy 7 = .ok (.iload_n 1, 1) := by decide +kernel
theorem dX5_deniedBy_8 : decode cX5_deniedBy 8 = .ok (.ishl, 1) := by decide +kernel
theorem dX5_deniedBy_9 : decode cX5_deniedBy 9 = .ok (.istore_n 3, 1) := by decide +kernel
theorem dX5_deniedBy_10 : decode cX5_deniedBy 10 = .ok (.iload_n 0, 1) := by decide +kernel
theorem dX5_deniedBy_11 : decode cX5_deniedBy 11 = .ok (.tableswitch 43 60 62 #[32, 25, 36], 25) := by decide +kernel
theorem dX5_deniedBy_36 : decode cX5_deniedBy 36 = .ok (.bipush 15, 2) := by decide +kernel
theorem dX5_deniedBy_38 : decode cX5_deniedBy 38 = .ok (.iload_n 3, 1) := by decide +kernel
theorem dX5_deniedBy_39 : decode cX5_deniedBy 39 = .ok (.iconst (-1), 1) := by decide +kernel
theorem dX5_deniedBy_40 : decode cX5_deniedBy 40 = .ok (.ixor, 1) := by decide +kernel
theorem dX5_deniedBy_41 : decode cX5_deniedBy 41 = .ok (.iand, 1) := by decide +kernel
theorem dX5_deniedBy_42 : decode cX5_deniedBy 42 = .ok (.ireturn, 1) := by decide +kernel
theorem dX5_deniedBy_43 : decode cX5_deniedBy 43 = .ok (.iload_n 2, 1) := by decide +kernel
theorem dX5_deniedBy_44 : decode cX5_deniedBy 44 = .ok (.iload_n 3, 1) := by decide +kernel
theorem dX5_deniedBy_45 : decode cX5_deniedBy 45 = .ok (.ior, 1) := by decide +kernel
theorem dX5_deniedBy_46 : decode cX5_deniedBy 46 = .ok (.ireturn, 1) := by decide +kernel
theorem dX5_deniedBy_47 : decode cX5_deniedBy 47 = .ok (.bipush 15, 2) := by decide +kernel
theorem dX5_deniedBy_49 : decode cX5_deniedBy 49 = .ok (.iload_n 2, 1) := by decide +kernel
theorem dX5_deniedBy_50 : decode cX5_deniedBy 50 = .ok (.iconst (-1), 1) := by decide +kernel
theorem dX5_deniedBy_51 : decode cX5_deniedBy 51 = .ok (.ixor, 1) := by decide +kernel
theorem dX5_deniedBy_52 : decode cX5_deniedBy 52 = .ok (.iand, 1) := by decide +kernel
theorem dX5_deniedBy_53 : decode cX5_deniedBy 53 = .ok (.ireturn, 1) := by decide +kernel
theorem dX5_deniedBy_54 : decode cX5_deniedBy 54 = .ok (.iload_n 3, 1) := by decide +kernel
theorem dX5_deniedBy_55 : decode cX5_deniedBy 55 = .ok (.ireturn, 1) := by decide +kernel
theorem dX6_init_0 : decode cX6_init 0 = .ok (.aload_n 0, 1) := by decide +kernel
theorem dX6_init_1 : decode cX6_init 1 = .ok (.invokespecial 3, 3) := by decide +kernel
theorem dX6_init_4 : decode cX6_init 4 = .ok (.aload_n 0, 1) := by decide +kernel
theorem dX6_init_5 : decode cX6_init 5 = .ok (.aload_n 1, 1) := by decide +kernel
theorem dX6_init_6 : decode cX6_init 6 = .ok (.putfield 9, 3) := by decide +kernel
theorem dX6_init_9 : decode cX6_init 9 = .ok (.aload_n 0, 1) := by decide +kernel
theorem dX6_init_10 : decode cX6_init 10 = .ok (.sipush 256, 3) := by decide +kernel
theorem dX6_init_13 : decode cX6_init 13 = .ok (.newarray .int, 2) := by decide +kernel
theorem dX6_init_15 : decode cX6_init 15 = .ok (.putfield 15, 3) := by decide +kernel
theorem dX6_init_18 : decode cX6_init 18 = .ok (.aload_n 0, 1) := by decide +kernel
theorem dX6_init_19 : decode cX6_init 19 = .ok (.sipush 256, 3) := by decide +kernel
theorem dX6_init_22 : decode cX6_init 22 = .ok (.newarray .long, 2) := by decide +kernel
theorem dX6_init_24 : decode cX6_init 24 = .ok (.putfield 19, 3) := by decide +kernel
theorem dX6_init_27 : decode cX6_init 27 = .ok (.return_, 1) := by decide +kernel
theorem dX6_fewest_0 : decode cX6_fewest 0 = .ok (.aload_n 2, 1) := by decide +kernel
theorem dX6_fewest_1 : decode cX6_fewest 1 = .ok (.invokevirtual 23, 3) := by decide +kernel
theorem dX6_fewest_4 : decode cX6_fewest 4 = .ok (.istore_n 3, 1) := by decide +kernel
