theorem d_T_init_0 : decode c_T_init 0 = .ok (.aload_n 0, 1) := by decide +kernel
theorem d_T_init_1 : decode c_T_init 1 = .ok (.invokespecial 1, 3) := by decide +kernel
theorem d_T_init_4 : decode c_T_init 4 = .ok (.aload_n 0, 1) := by decide +kernel
theorem d_T_init_5 : decode c_T_init 5 = .ok (.sipush 800, 3) := by decide +kernel
theorem d_T_init_8 : decode c_T_init 8 = .ok (.newarray .byte, 2) := by decide +kernel
theorem d_T_init_10 : decode c_T_init 10 = .ok (.putfield 9, 3) := by decide +kernel
theorem d_T_init_13 : decode c_T_init 13 = .ok (.aload_n 0, 1) := by decide +kernel
theorem d_T_init_14 : decode c_T_init 14 = .ok (.iconst 0, 1) := by decide +kernel
theorem d_T_init_15 : decode c_T_init 15 = .ok (.putfield 13, 3) := by decide +kernel
theorem d_T_init_18 : decode c_T_init 18 = .ok (.return_, 1) := by decide +kernel
theorem d_T_putNumber_0 : decode c_T_putNumber 0 = .ok (.iload_n 2, 1) := by decide +kernel
theorem d_T_putNumber_1 : decode c_T_putNumber 1 = .ok (.iconst 1, 1) := by decide +kernel
theorem d_T_putNumber_2 : decode c_T_putNumber 2 = .ok (.isub, 1) := by decide +kernel
theorem d_T_putNumber_3 : decode c_T_putNumber 3 = .ok (.istore_n 3, 1) := by decide +kernel
theorem d_T_putNumber_4 : decode c_T_putNumber 4 = .ok (.iload_n 3, 1) := by decide +kernel
theorem d_T_putNumber_5 : decode c_T_putNumber 5 = .ok (.ifCond .lt 44, 3) := by decide +kernel
theorem d_T_putNumber_8 : decode c_T_putNumber 8 = .ok (.aload_n 0, 1) := by decide +kernel
theorem d_T_putNumber_9 : decode c_T_putNumber 9 = .ok (.getfield 13, 3) := by decide +kernel
theorem d_T_putNumber_12 : decode c_T_putNumber 12 = .ok (.sipush 800, 3) := by decide +kernel
theorem d_T_putNumber_15 : decode c_T_putNumber 15 = .ok (.if_icmp .ge 34, 3) := by decide +kernel
theorem d_T_putNumber_18 : decode c_T_putNumber 18 = .ok (.aload_n 0, 1) := by decide +kernel
theorem d_T_putNumber_19 : decode c_T_putNumber 19 = .ok (.getfield 9, 3) := by decide +kernel
theorem d_T_putNumber_22 : decode c_T_putNumber 22 = .ok (.aload_n 0, 1) := by decide +kernel
theorem d_T_putNumber_23 : decode c_T_putNumber 23 = .ok (.getfield 13, 3) := by decide +kernel
theorem d_T_putNumber_26 : decode c_T_putNumber 26 = .ok (.iload_n 1, 1) := by decide +kernel
theorem d_T_putNumber_27 : decode c_T_putNumber 27 = .ok (.iload_n 3, 1) := by decide +kernel
theorem d_T_putNumber_28 : decode c_T_putNumber 28 = .ok (.ishr, 1) := by decide +kernel
theorem d_T_putNumber_29 : decode c_T_putNumber 29 = .ok (.iconst 1, 1) := by decide +kernel
theorem d_T_putNumber_30 : decode c_T_putNumber 30 = .ok (.iand, 1) := by decide +kernel
theorem d_T_putNumber_31 : decode c_T_putNumber 31 = .ok (.i2b, 1) := by decide +kernel
theorem d_T_putNumber_32 : decode c_T_putNumber 32 = .ok (.bastore, 1) := by decide +kernel
theorem d_T_putNumber_33 : decode c_T_putNumber 33 = .ok (.aload_n 0, 1) := by decide +kernel
theorem d_T_putNumber_34 : decode c_T_putNumber 34 = .ok (.dup, 1) := by decide +kernel
theorem d_T_putNumber_35 : decode c_T_putNumber 35 = .ok (.getfield 13, 3) := by decide +kernel
theorem d_T_putNumber_38 : decode c_T_putNumber 38 = .ok (.iconst 1, 1) := by decide +kernel
theorem d_T_putNumber_39 : decode c_T_putNumber 39 = .ok (.iadd, 1) := by decide +kernel
theorem d_T_putNumber_40 : decode c_T_putNumber 40 = .ok (.putfield 13, 3) := by decide +kernel
theorem d_T_putNumber_43 : decode c_T_putNumber 43 = .ok (.iinc 3 (-1), 3) := by decide +kernel
theorem d_T_putNumber_46 : decode c_T_putNumber 46 = .ok (.goto (-42), 3) := by decide +kernel
theorem d_T_putNumber_49 : decode c_T_putNumber 49 = .ok (.return_, 1) := by decide +kernel
theorem d_T_putUnary_0 : decode c_T_putUnary 0 = .ok (.aload_n 0, 1) := by decide +kernel
theorem d_T_putUnary_1 : decode c_T_putUnary 1 = .ok (.iconst 1, 1) := by decide +kernel
theorem d_T_putUnary_2 : decode c_T_putUnary 2 = .ok (.iload_n 1, 1) := by decide +kernel
theorem d_T_putUnary_3 : decode c_T_putUnary 3 = .ok (.iconst 1, 1) := by decide +kernel
theorem d_T_putUnary_4 : decode c_T_putUnary 4 = .ok (.iadd, 1) := by decide +kernel
theorem d_T_putUnary_5 : decode c_T_putUnary 5 = .ok (.invokevirtual 17, 3) := by decide +kernel
theorem d_T_putUnary_8 : decode c_T_putUnary 8 = .ok (.return_, 1) := by decide +kernel
theorem d_T_putGamma_0 : decode c_T_putGamma 0 = .ok (.aload_n 0, 1) := by decide +kernel
theorem d_T_putGamma_1 : decode c_T_putGamma 1 = .ok (.iload_n 1, 1) := by decide +kernel
theorem d_T_putGamma_2 : decode c_T_putGamma 2 = .ok (.iconst 1, 1) := by decide +kernel
theorem d_T_putGamma_3 : decode c_T_putGamma 3 = .ok (.iadd, 1) := by decide +kernel
theorem d_T_putGamma_4 : decode c_T_putGamma 4 = .ok (.iconst 2, 1) := by decide +kernel
theorem d_T_putGamma_5 : decode c_T_putGamma 5 = .ok (.iload_n 1, 1) := by decide +kernel
theorem d_T_putGamma_6 : decode c_T_putGamma 6 = .ok (.iconst 1, 1) := by decide +kernel
theorem d_T_putGamma_7 : decode c_T_putGamma 7 = .ok (.iadd, 1) := by decide +kernel
theorem d_T_putGamma_8 : decode c_T_putGamma 8 = .ok (.invokestatic 21, 3) := by decide +kernel
theorem d_T_putGamma_11 : decode c_T_putGamma 11 = .ok (.imul, 1) := by decide +kernel
theorem d_T_putGamma_12 : decode c_T_putGamma 12 = .ok (.iconst 1, 1) := by decide +kernel
theorem d_T_putGamma_13 : decode c_T_putGamma 13 = .ok (.iadd, 1) := by decide +kernel
theorem d_T_putGamma_14 : decode c_T_putGamma 14 = .ok (.invokevirtual 17, 3) := by decide +kernel
theorem d_T_putGamma_17 : decode c_T_putGamma 17 = .ok (.return_, 1) := by decide +kernel
theorem d_T_putZeta_0 : decode c_T_putZeta 0 = .ok (.iload_n 1, 1) := by decide +kernel
theorem d_T_putZeta_1 : decode c_T_putZeta 1 = .ok (.iconst 1, 1) := by decide +kernel
theorem d_T_putZeta_2 : decode c_T_putZeta 2 = .ok (.iadd, 1) := by decide +kernel
theorem d_T_putZeta_3 : decode c_T_putZeta 3 = .ok (.invokestatic 21, 3) := by decide +kernel
theorem d_T_putZeta_6 : decode c_T_putZeta 6 = .ok (.iload_n 2, 1) := by decide +kernel
theorem d_T_putZeta_7 : decode c_T_putZeta 7 = .ok (.idiv, 1) := by decide +kernel
theorem d_T_putZeta_8 : decode c_T_putZeta 8 = .ok (.istore_n 3, 1) := by decide +kernel
theorem d_T_putZeta_9 : decode c_T_putZeta 9 = .ok (.iconst 1, 1) := by decide +kernel
theorem d_T_putZeta_10 : decode c_T_putZeta 10 = .ok (.iload_n 3, 1) := by decide +kernel
theorem d_T_putZeta_11 : decode c_T_putZeta 11 = .ok (.iload_n 2, 1) := by decide +kernel
theorem d_T_putZeta_12 : decode c_T_putZeta 12 = .ok (.imul, 1) := by decide +kernel
theorem d_T_putZeta_13 : decode c_T_putZeta 13 = .ok (.ishl, 1) := by decide +kernel
theorem d_T_putZeta_14 : decode c_T_putZeta 14 = .ok (.istore 4, 2) := by decide +kernel
theorem d_T_putZeta_16 : decode c_T_putZeta 16 = .ok (.aload_n 0, 1) := by decide +kernel
theorem d_T_putZeta_17 : decode c_T_putZeta 17 = .ok (.iconst 1, 1) := by decide +kernel
theorem d_T_putZeta_18 : decode c_T_putZeta 18 = .ok (.iload_n 3, 1) := by decide +kernel
theorem d_T_putZeta_19 : decode c_T_putZeta 19 = .ok (.iconst 1, 1) := by decide +kernel
theorem d_T_putZeta_20 : decode c_T_putZeta 20 = .ok (.iadd, 1) := by decide +kernel
theorem d_T_putZeta_21 : decode c_T_putZeta 21 = .ok (.invokevirtual 17, 3) := by decide +kernel
theorem d_T_putZeta_24 : decode c_T_putZeta 24 = .ok (.iload_n 1, 1) := by decide +kernel
theorem d_T_putZeta_25 : decode c_T_putZeta 25 = .ok (.iconst 1, 1) := by decide +kernel
theorem d_T_putZeta_26 : decode c_T_putZeta 26 = .ok (.iadd, 1) := by decide +kernel
theorem d_T_putZeta_27 : decode c_T_putZeta 27 = .ok (.iconst 2, 1) := by decide +kernel
theorem d_T_putZeta_28 : decode c_T_putZeta 28 = .ok (.iload 4, 2) := by decide +kernel
theorem d_T_putZeta_30 : decode c_T_putZeta 30 = .ok (.imul, 1) := by decide +kernel
theorem d_T_putZeta_31 : decode c_T_putZeta 31 = .ok (.if_icmp .ge 23, 3) := by decide +kernel
theorem d_T_putZeta_34 : decode c_T_putZeta 34 = .ok (.aload_n 0, 1) := by decide +kernel
theorem d_T_putZeta_35 : decode c_T_putZeta 35 = .ok (.iload_n 1, 1) := by decide +kernel
theorem d_T_putZeta_36 : decode c_T_putZeta 36 = .ok (.iconst 1, 1) := by decide +kernel
theorem d_T_putZeta_37 : decode c_T_putZeta 37 = .ok (.iadd, 1) := by decide +kernel
theorem d_T_putZeta_38 : decode c_T_putZeta 38 = .ok (.iload 4, 2) := by decide +kernel
theorem d_T_putZeta_40 : decode c_T_putZeta 40 = .ok (.isub, 1) := by decide +kernel
theorem d_T_putZeta_41 : decode c_T_putZeta 41 = .ok (.iload_n 3, 1) := by decide +kernel
theorem d_T_putZeta_42 : decode c_T_putZeta 42 = .ok (.iload_n 2, 1) := by decide +kernel
theorem d_T_putZeta_43 : decode c_T_putZeta 43 = .ok (.imul, 1) := by decide +kernel
theorem d_T_putZeta_44 : decode c_T_putZeta 44 = .ok (.iload_n 2, 1) := by decide +kernel
theorem d_T_putZeta_45 : decode c_T_putZeta 45 = .ok (.iadd, 1) := by decide +kernel
theorem d_T_putZeta_46 : decode c_T_putZeta 46 = .ok (.iconst 1, 1) := by decide +kernel
theorem d_T_putZeta_47 : decode c_T_putZeta 47 = .ok (.isub, 1) := by decide +kernel
theorem d_T_putZeta_48 : decode c_T_putZeta 48 = .ok (.invokevirtual 17, 3) := by decide +kernel
theorem d_T_putZeta_51 : decode c_T_putZeta 51 = .ok (.goto 15, 3) := by decide +kernel
theorem d_T_putZeta_54 : decode c_T_putZeta 54 = .ok (.aload_n 0, 1) := by decide +kernel
theorem d_T_putZeta_55 : decode c_T_putZeta 55 = .ok (.iload_n 1, 1) := by decide +kernel
theorem d_T_putZeta_56 : decode c_T_putZeta 56 = .ok (.iconst 1, 1) := by decide +kernel
theorem d_T_putZeta_57 : decode c_T_putZeta 57 = .ok (.iadd, 1) := by decide +kernel
theorem d_T_putZeta_58 : decode c_T_putZeta 58 = .ok (.iload_n 3, 1) := by decide +kernel
theorem d_T_putZeta_59 : decode c_T_putZeta 59 = .ok (.iload_n 2, 1) := by decide +kernel
theorem d_T_putZeta_60 : decode c_T_putZeta 60 = .ok (.imul, 1) := by decide +kernel
theorem d_T_putZeta_61 : decode c_T_putZeta 61 = .ok (.iload_n 2, 1) := by decide +kernel
theorem d_T_putZeta_62 : decode c_T_putZeta 62 = .ok (.iadd, 1) := by decide +kernel
theorem d_T_putZeta_63 : decode c_T_putZeta 63 = .ok (.invokevirtual 17, 3) := by decide +kernel
theorem d_T_putZeta_66 : decode c_T_putZeta 66 = .ok (.return_, 1) := by decide +kernel
theorem d_T_exponent_0 : decode c_T_exponent 0 = .ok (.iconst 0, 1) := by decide +kernel
theorem d_T_exponent_1 : decode c_T_exponent 1 = .ok (.istore_n 1, 1) := by decide +kernel
theorem d_T_exponent_2 : decode c_T_exponent 2 = .ok (.iload_n 1, 1) := by decide +kernel
theorem d_T_exponent_3 : decode c_T_exponent 3 = .ok (.bipush 30, 2) := by decide +kernel
theorem d_T_exponent_5 : decode c_T_exponent 5 = .ok (.if_icmp .ge 18, 3) := by decide +kernel
theorem d_T_exponent_8 : decode c_T_exponent 8 = .ok (.iconst 1, 1) := by decide +kernel
theorem d_T_exponent_9 : decode c_T_exponent 9 = .ok (.iload_n 1, 1) := by decide +kernel
theorem d_T_exponent_10 : decode c_T_exponent 10 = .ok (.iconst 1, 1) := by decide +kernel
theorem d_T_exponent_11 : decode c_T_exponent 11 = .ok (.iadd, 1) := by decide +kernel
theorem d_T_exponent_12 : decode c_T_exponent 12 = .ok (.ishl, 1) := by decide +kernel
theorem d_T_exponent_13 : decode c_T_exponent 13 = .ok (.iload_n 0, 1) := by decide +kernel
theorem d_T_exponent_14 : decode c_T_exponent 14 = .ok (.if_icmp .gt 9, 3) := by decide +kernel
theorem d_T_exponent_17 : decode c_T_exponent 17 = .ok (.iinc 1 1, 3) := by decide +kernel
theorem d_T_exponent_20 : decode c_T_exponent 20 = .ok (.goto (-18), 3) := by decide +kernel
theorem d_T_exponent_23 : decode c_T_exponent 23 = .ok (.iload_n 1, 1) := by decide +kernel
theorem d_T_exponent_24 : decode c_T_exponent 24 = .ok (.ireturn, 1) := by decide +kernel
theorem d_T_withoutSign_0 : decode c_T_withoutSign 0 = .ok (.iload_n 0, 1) := by decide +kernel
theorem d_T_withoutSign_1 : decode c_T_withoutSign 1 = .ok (.ifCond .lt 9, 3) := by decide +kernel
theorem d_T_withoutSign_4 : decode c_T_withoutSign 4 = .ok (.iconst 2, 1) := by decide +kernel
theorem d_T_withoutSign_5 : decode c_T_withoutSign 5 = .ok (.iload_n 0, 1) := by decide +kernel
theorem d_T_withoutSign_6 : decode c_T_withoutSign 6 = .ok (.imul, 1) := by decide +kernel
theorem d_T_withoutSign_7 : decode c_T_withoutSign 7 = .ok (.goto 9, 3) := by decide +kernel
theorem d_T_withoutSign_10 : decode c_T_withoutSign 10 = .ok (.bipush (-2), 2) := by decide +kernel
theorem d_T_withoutSign_12 : decode c_T_withoutSign 12 = .ok (.iload_n 0, 1) := by decide +kernel
theorem d_T_withoutSign_13 : decode c_T_withoutSign 13 = .ok (.imul, 1) := by decide +kernel
theorem d_T_withoutSign_14 : decode c_T_withoutSign 14 = .ok (.iconst 1, 1) := by decide +kernel
theorem d_T_withoutSign_15 : decode c_T_withoutSign 15 = .ok (.isub, 1) := by decide +kernel
theorem d_T_withoutSign_16 : decode c_T_withoutSign 16 = .ok (.ireturn, 1) := by decide +kernel
theorem d_T_withSign_0 : decode c_T_withSign 0 = .ok (.iload_n 0, 1) := by decide +kernel
theorem d_T_withSign_1 : decode c_T_withSign 1 = .ok (.iconst 2, 1) := by decide +kernel
theorem d_T_withSign_2 : decode c_T_withSign 2 = .ok (.irem, 1) := by decide +kernel
theorem d_T_withSign_3 : decode c_T_withSign 3 = .ok (.ifCond .ne 9, 3) := by decide +kernel
theorem d_T_withSign_6 : decode c_T_withSign 6 = .ok (.iload_n 0, 1) := by decide +kernel
theorem d_T_withSign_7 : decode c_T_withSign 7 = .ok (.iconst 2, 1) := by decide +kernel
theorem d_T_withSign_8 : decode c_T_withSign 8 = .ok (.idiv, 1) := by decide +kernel
theorem d_T_withSign_9 : decode c_T_withSign 9 = .ok (.goto 9, 3) := by decide +kernel
theorem d_T_withSign_12 : decode c_T_withSign 12 = .ok (.iload_n 0, 1) := by decide +kernel
theorem d_T_withSign_13 : decode c_T_withSign 13 = .ok (.iconst 1, 1) := by decide +kernel
theorem d_T_withSign_14 : decode c_T_withSign 14 = .ok (.iadd, 1) := by decide +kernel
theorem d_T_withSign_15 : decode c_T_withSign 15 = .ok (.ineg, 1) := by decide +kernel
theorem d_T_withSign_16 : decode c_T_withSign 16 = .ok (.iconst 2, 1) := by decide +kernel
theorem d_T_withSign_17 : decode c_T_withSign 17 = .ok (.idiv, 1) := by decide +kernel
theorem d_T_withSign_18 : decode c_T_withSign 18 = .ok (.ireturn, 1) := by decide +kernel
theorem d_A_init_0 : decode c_A_init 0 = .ok (.aload_n 0, 1) := by decide +kernel
theorem d_A_init_1 : decode c_A_init 1 = .ok (.invokespecial 1, 3) := by decide +kernel
theorem d_A_init_4 : decode c_A_init 4 = .ok (.aload_n 0, 1) := by decide +kernel
theorem d_A_init_5 : decode c_A_init 5 = .ok (.iconst 1, 1) := by decide +kernel
theorem d_A_init_6 : decode c_A_init 6 = .ok (.bipush 12, 2) := by decide +kernel
theorem d_A_init_8 : decode c_A_init 8 = .ok (.iload_n 1, 1) := by decide +kernel
theorem d_A_init_9 : decode c_A_init 9 = .ok (.invokestatic 9, 3) := by decide +kernel
theorem d_A_init_12 : decode c_A_init 12 = .ok (.invokestatic 15, 3) := by decide +kernel
theorem d_A_init_15 : decode c_A_init 15 = .ok (.putfield 18, 3) := by decide +kernel
theorem d_A_init_18 : decode c_A_init 18 = .ok (.aload_n 0, 1) := by decide +kernel
theorem d_A_init_19 : decode c_A_init 19 = .ok (.aload_n 0, 1) := by decide +kernel
theorem d_A_init_20 : decode c_A_init 20 = .ok (.getfield 18, 3) := by decide +kernel
theorem d_A_init_23 : decode c_A_init 23 = .ok (.newarray .int, 2) := by decide +kernel
theorem d_A_init_25 : decode c_A_init 25 = .ok (.putfield 22, 3) := by decide +kernel
theorem d_A_init_28 : decode c_A_init 28 = .ok (.aload_n 0, 1) := by decide +kernel
theorem d_A_init_29 : decode c_A_init 29 = .ok (.new 26, 3) := by decide +kernel
theorem d_A_init_32 : decode c_A_init 32 = .ok (.dup, 1) := by decide +kernel
theorem d_A_init_33 : decode c_A_init 33 = .ok (.invokespecial 28, 3) := by decide +kernel
theorem d_A_init_36 : decode c_A_init 36 = .ok (.putfield 29, 3) := by decide +kernel
theorem d_A_init_39 : decode c_A_init 39 = .ok (.aload_n 0, 1) := by decide +kernel
theorem d_A_init_40 : decode c_A_init 40 = .ok (.new 33, 3) := by decide +kernel
theorem d_A_init_43 : decode c_A_init 43 = .ok (.dup, 1) := by decide +kernel
theorem d_A_init_44 : decode c_A_init 44 = .ok (.aload_n 0, 1) := by decide +kernel
theorem d_A_init_45 : decode c_A_init 45 = .ok (.getfield 18, 3) := by decide +kernel
theorem d_A_init_48 : decode c_A_init 48 = .ok (.invokespecial 35, 3) := by decide +kernel
theorem d_A_init_51 : decode c_A_init 51 = .ok (.putfield 38, 3) := by decide +kernel
theorem d_A_init_54 : decode c_A_init 54 = .ok (.aload_n 0, 1) := by decide +kernel
theorem d_A_init_55 : decode c_A_init 55 = .ok (.new 42, 3) := by decide +kernel
theorem d_A_init_58 : decode c_A_init 58 = .ok (.dup, 1) := by decide +kernel
theorem d_A_init_59 : decode c_A_init 59 = .ok (.aload_n 0, 1) := by decide +kernel
theorem d_A_init_60 : decode c_A_init 60 = .ok (.getfield 22, 3) := by decide +kernel
theorem d_A_init_63 : decode c_A_init 63 = .ok (.aload_n 0, 1) := by decide +kernel
theorem d_A_init_64 : decode c_A_init 64 = .ok (.getfield 38, 3) := by decide +kernel
theorem d_A_init_67 : decode c_A_init 67 = .ok (.aload_n 0, 1) := by decide +kernel
theorem d_A_init_68 : decode c_A_init 68 = .ok (.getfield 29, 3) := by decide +kernel
theorem d_A_init_71 : decode c_A_init 71 = .ok (.invokespecial 44, 3) := by decide +kernel
theorem d_A_init_74 : decode c_A_init 74 = .ok (.putfield 47, 3) := by decide +kernel
theorem d_A_init_77 : decode c_A_init 77 = .ok (.aload_n 0, 1) := by decide +kernel
theorem d_A_init_78 : decode c_A_init 78 = .ok (.new 51, 3) := by decide +kernel
theorem d_A_init_81 : decode c_A_init 81 = .ok (.dup, 1) := by decide +kernel
theorem d_A_init_82 : decode c_A_init 82 = .ok (.aload_n 0, 1) := by decide +kernel
theorem d_A_init_83 : decode c_A_init 83 = .ok (.getfield 18, 3) := by decide +kernel
theorem d_A_init_86 : decode c_A_init 86 = .ok (.aload_n 0, 1) := by decide +kernel
theorem d_A_init_87 : decode c_A_init 87 = .ok (.getfield 38, 3) := by decide +kernel
theorem d_A_init_90 : decode c_A_init 90 = .ok (.aload_n 0, 1) := by decide +kernel
theorem d_A_init_91 : decode c_A_init 91 = .ok (.getfield 29, 3) := by decide +kernel
theorem d_A_init_94 : decode c_A_init 94 = .ok (.invokespecial 53, 3) := by decide +kernel
theorem d_A_init_97 : decode c_A_init 97 = .ok (.putfield 56, 3) := by decide +kernel
theorem d_A_init_100 : decode c_A_init 100 = .ok (.aload_n 0, 1) := by decide +kernel
theorem d_A_init_101 : decode c_A_init 101 = .ok (.new 60, 3) := by decide +kernel
theorem d_A_init_104 : decode c_A_init 104 = .ok (.dup, 1) := by decide +kernel
theorem d_A_init_105 : decode c_A_init 105 = .ok (.aload_n 0, 1) := by decide +kernel
theorem d_A_init_106 : decode c_A_init 106 = .ok (.getfield 56, 3) := by decide +kernel
theorem d_A_init_109 : decode c_A_init 109 = .ok (.getfield 62, 3) := by decide +kernel
theorem d_A_init_112 : decode c_A_init 112 = .ok (.invokespecial 65, 3) := by decide +kernel
theorem d_A_init_115 : decode c_A_init 115 = .ok (.putfield 68, 3) := by decide +kernel
theorem d_A_init_118 : decode c_A_init 118 = .ok (.aload_n 0, 1) := by decide +kernel
theorem d_A_init_119 : decode c_A_init 119 = .ok (.new 72, 3) := by decide +kernel
theorem d_A_init_122 : decode c_A_init 122 = .ok (.dup, 1) := by decide +kernel
theorem d_A_init_123 : decode c_A_init 123 = .ok (.aload_n 0, 1) := by decide +kernel
theorem d_A_init_124 : decode c_A_init 124 = .ok (.getfield 56, 3) := by decide +kernel
theorem d_A_init_127 : decode c_A_init 127 = .ok (.getfield 62, 3) := by decide +kernel
theorem d_A_init_130 : decode c_A_init 130 = .ok (.invokespecial 74, 3) := by decide +kernel
theorem d_A_init_133 : decode c_A_init 133 = .ok (.putfield 75, 3) := by decide +kernel
theorem d_A_init_136 : decode c_A_init 136 = .ok (.aload_n 0, 1) := by decide +kernel
theorem d_A_init_137 : decode c_A_init 137 = .ok (.getfield 47, 3) := by decide +kernel
theorem d_A_init_140 : decode c_A_init 140 = .ok (.invokevirtual 79, 3) := by decide +kernel
theorem d_A_init_143 : decode c_A_init 143 = .ok (.aload_n 0, 1) := by decide +kernel
theorem d_A_init_144 : decode c_A_init 144 = .ok (.getfield 56, 3) := by decide +kernel
theorem d_A_init_147 : decode c_A_init 147 = .ok (.invokevirtual 82, 3) := by decide +kernel
theorem d_A_init_150 : decode c_A_init 150 = .ok (.aload_n 0, 1) := by decide +kernel
theorem d_A_init_151 : decode c_A_init 151 = .ok (.getfield 75, 3) := by decide +kernel
theorem d_A_init_154 : decode c_A_init 154 = .ok (.iconst 0, 1) := by decide +kernel
theorem d_A_init_155 : decode c_A_init 155 = .ok (.sipush 850, 3) := by decide +kernel
theorem d_A_init_158 : decode c_A_init 158 = .ok (.invokevirtual 85, 3) := by decide +kernel
theorem d_A_init_161 : decode c_A_init 161 = .ok (.return_, 1) := by decide +kernel
theorem d_A_add_0 : decode c_A_add 0 = .ok (.aload_n 0, 1) := by decide +kernel
theorem d_A_add_1 : decode c_A_add 1 = .ok (.iload_n 1, 1) := by decide +kernel
theorem d_A_add_2 : decode c_A_add 2 = .ok (.invokevirtual 89, 3) := by decide +kernel
theorem d_A_add_5 : decode c_A_add 5 = .ok (.ifCond .eq 24, 3) := by decide +kernel
theorem d_A_add_8 : decode c_A_add 8 = .ok (.aload_n 0, 1) := by decide +kernel
theorem d_A_add_9 : decode c_A_add 9 = .ok (.iload_n 2, 1) := by decide +kernel
theorem d_A_add_10 : decode c_A_add 10 = .ok (.invokevirtual 89, 3) := by decide +kernel
theorem d_A_add_13 : decode c_A_add 13 = .ok (.ifCond .eq 16, 3) := by decide +kernel
theorem d_A_add_16 : decode c_A_add 16 = .ok (.aload_n 0, 1) := by decide +kernel
theorem d_A_add_17 : decode c_A_add 17 = .ok (.getfield 22, 3) := by decide +kernel
theorem d_A_add_20 : decode c_A_add 20 = .ok (.iload_n 1, 1) := by decide +kernel
theorem d_A_add_21 : decode c_A_add 21 = .ok (.iaload, 1) := by decide +kernel
theorem d_A_add_22 : decode c_A_add 22 = .ok (.iload_n 2, 1) := by decide +kernel
theorem d_A_add_23 : decode c_A_add 23 = .ok (.invokestatic 93, 3) := by decide +kernel
theorem d_A_add_26 : decode c_A_add 26 = .ok (.ifCond .eq 5, 3) := by decide +kernel
theorem d_A_add_29 : decode c_A_add 29 = .ok (.iconst 0, 1) := by decide +kernel
theorem d_A_add_30 : decode c_A_add 30 = .ok (.ireturn, 1) := by decide +kernel
theorem d_A_add_31 : decode c_A_add 31 = .ok (.aload_n 0, 1) := by decide +kernel
theorem d_A_add_32 : decode c_A_add 32 = .ok (.getfield 22, 3) := by decide +kernel
theorem d_A_add_35 : decode c_A_add 35 = .ok (.iload_n 1, 1) := by decide +kernel
theorem d_A_add_36 : decode c_A_add 36 = .ok (.dup2, 1) := by decide +kernel
theorem d_A_add_37 : decode c_A_add 37 = .ok (.iaload, 1) := by decide +kernel
theorem d_A_add_38 : decode c_A_add 38 = .ok (.iconst 1, 1) := by decide +kernel
theorem d_A_add_39 : decode c_A_add 39 = .ok (.iload_n 2, 1) := by decide +kernel
theorem d_A_add_40 : decode c_A_add 40 = .ok (.ishl, 1) := by decide +kernel
theorem d_A_add_41 : decode c_A_add 41 = .ok (.ior, 1) := by decide +kernel
theorem d_A_add_42 : decode c_A_add 42 = .ok (.iastore, 1) := by decide +kernel
theorem d_A_add_43 : decode c_A_add 43 = .ok (.iconst 1, 1) := by decide +kernel
theorem d_A_add_44 : decode c_A_add 44 = .ok (.ireturn, 1) := by decide +kernel
theorem d_A_drop_0 : decode c_A_drop 0 = .ok (.aload_n 0, 1) := by decide +kernel
theorem d_A_drop_1 : decode c_A_drop 1 = .ok (.iload_n 1, 1) := by decide +kernel
theorem d_A_drop_2 : decode c_A_drop 2 = .ok (.invokevirtual 89, 3) := by decide +kernel
theorem d_A_drop_5 : decode c_A_drop 5 = .ok (.ifCond .eq 24, 3) := by decide +kernel
theorem d_A_drop_8 : decode c_A_drop 8 = .ok (.aload_n 0, 1) := by decide +kernel
theorem d_A_drop_9 : decode c_A_drop 9 = .ok (.iload_n 2, 1) := by decide +kernel
theorem d_A_drop_10 : decode c_A_drop 10 = .ok (.invokevirtual 89, 3) := by decide +kernel
theorem d_A_drop_13 : decode c_A_drop 13 = .ok (.ifCond .eq 16, 3) := by decide +kernel
theorem d_A_drop_16 : decode c_A_drop 16 = .ok (.aload_n 0, 1) := by decide +kernel
theorem d_A_drop_17 : decode c_A_drop 17 = .ok (.getfield 22, 3) := by decide +kernel
theorem d_A_drop_20 : decode c_A_drop 20 = .ok (.iload_n 1, 1) := by decide +kernel
theorem d_A_drop_21 : decode c_A_drop 21 = .ok (.iaload, 1) := by decide +kernel
theorem d_A_drop_22 : decode c_A_drop 22 = .ok (.iload_n 2, 1) := by decide +kernel
theorem d_A_drop_23 : decode c_A_drop 23 = .ok (.invokestatic 93, 3) := by decide +kernel
theorem d_A_drop_26 : decode c_A_drop 26 = .ok (.ifCond .ne 5, 3) := by decide +kernel
theorem d_A_drop_29 : decode c_A_drop 29 = .ok (.iconst 0, 1) := by decide +kernel
theorem d_A_drop_30 : decode c_A_drop 30 = .ok (.ireturn, 1) := by decide +kernel
theorem d_A_drop_31 : decode c_A_drop 31 = .ok (.aload_n 0, 1) := by decide +kernel
theorem d_A_drop_32 : decode c_A_drop 32 = .ok (.getfield 22, 3) := by decide +kernel
theorem d_A_drop_35 : decode c_A_drop 35 = .ok (.iload_n 1, 1) := by decide +kernel
theorem d_A_drop_36 : decode c_A_drop 36 = .ok (.dup2, 1) := by decide +kernel
theorem d_A_drop_37 : decode c_A_drop 37 = .ok (.iaload, 1) := by decide +kernel
theorem d_A_drop_38 : decode c_A_drop 38 = .ok (.iconst 1, 1) := by decide +kernel
theorem d_A_drop_39 : decode c_A_drop 39 = .ok (.iload_n 2, 1) := by decide +kernel
theorem d_A_drop_40 : decode c_A_drop 40 = .ok (.ishl, 1) := by decide +kernel
theorem d_A_drop_41 : decode c_A_drop 41 = .ok (.iconst (-1), 1) := by decide +kernel
theorem d_A_drop_42 : decode c_A_drop 42 = .ok (.ixor, 1) := by decide +kernel
theorem d_A_drop_43 : decode c_A_drop 43 = .ok (.iand, 1) := by decide +kernel
theorem d_A_drop_44 : decode c_A_drop 44 = .ok (.iastore, 1) := by decide +kernel
theorem d_A_drop_45 : decode c_A_drop 45 = .ok (.iconst 1, 1) := by decide +kernel
theorem d_A_drop_46 : decode c_A_drop 46 = .ok (.ireturn, 1) := by decide +kernel
theorem d_A_pack_0 : decode c_A_pack 0 = .ok (.iload_n 1, 1) := by decide +kernel
theorem d_A_pack_1 : decode c_A_pack 1 = .ok (.iconst 0, 1) := by decide +kernel
theorem d_A_pack_2 : decode c_A_pack 2 = .ok (.bipush 6, 2) := by decide +kernel
theorem d_A_pack_4 : decode c_A_pack 4 = .ok (.invokestatic 97, 3) := by decide +kernel
theorem d_A_pack_7 : decode c_A_pack 7 = .ok (.ifCond .eq 32, 3) := by decide +kernel
theorem d_A_pack_10 : decode c_A_pack 10 = .ok (.iload_n 2, 1) := by decide +kernel
theorem d_A_pack_11 : decode c_A_pack 11 = .ok (.iconst 0, 1) := by decide +kernel
theorem d_A_pack_12 : decode c_A_pack 12 = .ok (.iconst 3, 1) := by decide +kernel
theorem d_A_pack_13 : decode c_A_pack 13 = .ok (.invokestatic 97, 3) := by decide +kernel
theorem d_A_pack_16 : decode c_A_pack 16 = .ok (.ifCond .eq 23, 3) := by decide +kernel
theorem d_A_pack_19 : decode c_A_pack 19 = .ok (.iload_n 3, 1) := by decide +kernel
theorem d_A_pack_20 : decode c_A_pack 20 = .ok (.iconst 0, 1) := by decide +kernel
theorem d_A_pack_21 : decode c_A_pack 21 = .ok (.bipush 9, 2) := by decide +kernel
theorem d_A_pack_23 : decode c_A_pack 23 = .ok (.invokestatic 97, 3) := by decide +kernel
theorem d_A_pack_26 : decode c_A_pack 26 = .ok (.ifCond .eq 13, 3) := by decide +kernel
theorem d_A_pack_29 : decode c_A_pack 29 = .ok (.iload 4, 2) := by decide +kernel
theorem d_A_pack_31 : decode c_A_pack 31 = .ok (.iconst 1, 1) := by decide +kernel
theorem d_A_pack_32 : decode c_A_pack 32 = .ok (.iconst 4, 1) := by decide +kernel
theorem d_A_pack_33 : decode c_A_pack 33 = .ok (.invokestatic 97, 3) := by decide +kernel
theorem d_A_pack_36 : decode c_A_pack 36 = .ok (.ifCond .ne 5, 3) := by decide +kernel
theorem d_A_pack_39 : decode c_A_pack 39 = .ok (.iconst (-1), 1) := by decide +kernel
theorem d_A_pack_40 : decode c_A_pack 40 = .ok (.ireturn, 1) := by decide +kernel
theorem d_A_pack_41 : decode c_A_pack 41 = .ok (.aload_n 0, 1) := by decide +kernel
theorem d_A_pack_42 : decode c_A_pack 42 = .ok (.getfield 38, 3) := by decide +kernel
theorem d_A_pack_45 : decode c_A_pack 45 = .ok (.iload_n 1, 1) := by decide +kernel
theorem d_A_pack_46 : decode c_A_pack 46 = .ok (.putfield 101, 3) := by decide +kernel
theorem d_A_pack_49 : decode c_A_pack 49 = .ok (.aload_n 0, 1) := by decide +kernel
theorem d_A_pack_50 : decode c_A_pack 50 = .ok (.getfield 38, 3) := by decide +kernel
theorem d_A_pack_53 : decode c_A_pack 53 = .ok (.iload_n 2, 1) := by decide +kernel
theorem d_A_pack_54 : decode c_A_pack 54 = .ok (.putfield 104, 3) := by decide +kernel
theorem d_A_pack_57 : decode c_A_pack 57 = .ok (.aload_n 0, 1) := by decide +kernel
theorem d_A_pack_58 : decode c_A_pack 58 = .ok (.getfield 38, 3) := by decide +kernel
theorem d_A_pack_61 : decode c_A_pack 61 = .ok (.iload_n 3, 1) := by decide +kernel
theorem d_A_pack_62 : decode c_A_pack 62 = .ok (.putfield 107, 3) := by decide +kernel
theorem d_A_pack_65 : decode c_A_pack 65 = .ok (.aload_n 0, 1) := by decide +kernel
theorem d_A_pack_66 : decode c_A_pack 66 = .ok (.getfield 38, 3) := by decide +kernel
theorem d_A_pack_69 : decode c_A_pack 69 = .ok (.iload 4, 2) := by decide +kernel
theorem d_A_pack_71 : decode c_A_pack 71 = .ok (.putfield 110, 3) := by decide +kernel
theorem d_A_pack_74 : decode c_A_pack 74 = .ok (.aload_n 0, 1) := by decide +kernel
theorem d_A_pack_75 : decode c_A_pack 75 = .ok (.getfield 47, 3) := by decide +kernel
theorem d_A_pack_78 : decode c_A_pack 78 = .ok (.invokevirtual 79, 3) := by decide +kernel
theorem d_A_pack_81 : decode c_A_pack 81 = .ok (.aload_n 0, 1) := by decide +kernel
theorem d_A_pack_82 : decode c_A_pack 82 = .ok (.getfield 56, 3) := by decide +kernel
theorem d_A_pack_85 : decode c_A_pack 85 = .ok (.invokevirtual 82, 3) := by decide +kernel
theorem d_A_pack_88 : decode c_A_pack 88 = .ok (.aload_n 0, 1) := by decide +kernel
theorem d_A_pack_89 : decode c_A_pack 89 = .ok (.getfield 29, 3) := by decide +kernel
theorem d_A_pack_92 : decode c_A_pack 92 = .ok (.getfield 113, 3) := by decide +kernel
theorem d_A_pack_95 : decode c_A_pack 95 = .ok (.ireturn, 1) := by decide +kernel
theorem d_A_offset_0 : decode c_A_offset 0 = .ok (.iload_n 1, 1) := by decide +kernel
theorem d_A_offset_1 : decode c_A_offset 1 = .ok (.iconst 0, 1) := by decide +kernel
theorem d_A_offset_2 : decode c_A_offset 2 = .ok (.aload_n 0, 1) := by decide +kernel
theorem d_A_offset_3 : decode c_A_offset 3 = .ok (.getfield 18, 3) := by decide +kernel
theorem d_A_offset_6 : decode c_A_offset 6 = .ok (.invokestatic 97, 3) := by decide +kernel
theorem d_A_offset_9 : decode c_A_offset 9 = .ok (.ifCond .eq 15, 3) := by decide +kernel
theorem d_A_offset_12 : decode c_A_offset 12 = .ok (.aload_n 0, 1) := by decide +kernel
theorem d_A_offset_13 : decode c_A_offset 13 = .ok (.getfield 38, 3) := by decide +kernel
theorem d_A_offset_16 : decode c_A_offset 16 = .ok (.getfield 116, 3) := by decide +kernel
theorem d_A_offset_19 : decode c_A_offset 19 = .ok (.iload_n 1, 1) := by decide +kernel
theorem d_A_offset_20 : decode c_A_offset 20 = .ok (.iaload, 1) := by decide +kernel
theorem d_A_offset_21 : decode c_A_offset 21 = .ok (.goto 4, 3) := by decide +kernel
theorem d_A_offset_24 : decode c_A_offset 24 = .ok (.iconst (-1), 1) := by decide +kernel
theorem d_A_offset_25 : decode c_A_offset 25 = .ok (.ireturn, 1) := by decide +kernel
theorem d_A_bit_0 : decode c_A_bit 0 = .ok (.aload_n 0, 1) := by decide +kernel
theorem d_A_bit_1 : decode c_A_bit 1 = .ok (.iload_n 1, 1) := by decide +kernel
theorem d_A_bit_2 : decode c_A_bit 2 = .ok (.invokevirtual 119, 3) := by decide +kernel
theorem d_A_bit_5 : decode c_A_bit 5 = .ok (.ifCond .eq 15, 3) := by decide +kernel
theorem d_A_bit_8 : decode c_A_bit 8 = .ok (.aload_n 0, 1) := by decide +kernel
theorem d_A_bit_9 : decode c_A_bit 9 = .ok (.getfield 29, 3) := by decide +kernel
theorem d_A_bit_12 : decode c_A_bit 12 = .ok (.getfield 122, 3) := by decide +kernel
theorem d_A_bit_15 : decode c_A_bit 15 = .ok (.iload_n 1, 1) := by decide +kernel
theorem d_A_bit_16 : decode c_A_bit 16 = .ok (.baload, 1) := by decide +kernel
theorem d_A_bit_17 : decode c_A_bit 17 = .ok (.goto 4, 3) := by decide +kernel
theorem d_A_bit_20 : decode c_A_bit 20 = .ok (.iconst (-1), 1) := by decide +kernel
theorem d_A_bit_21 : decode c_A_bit 21 = .ok (.ireturn, 1) := by decide +kernel
theorem d_A_flip_0 : decode c_A_flip 0 = .ok (.aload_n 0, 1) := by decide +kernel
theorem d_A_flip_1 : decode c_A_flip 1 = .ok (.iload_n 1, 1) := by decide +kernel
theorem d_A_flip_2 : decode c_A_flip 2 = .ok (.invokevirtual 119, 3) := by decide +kernel
theorem d_A_flip_5 : decode c_A_flip 5 = .ok (.ifCond .ne 5, 3) := by decide +kernel
theorem d_A_flip_8 : decode c_A_flip 8 = .ok (.iconst 0, 1) := by decide +kernel
theorem d_A_flip_9 : decode c_A_flip 9 = .ok (.ireturn, 1) := by decide +kernel
theorem d_A_flip_10 : decode c_A_flip 10 = .ok (.aload_n 0, 1) := by decide +kernel
theorem d_A_flip_11 : decode c_A_flip 11 = .ok (.getfield 29, 3) := by decide +kernel
theorem d_A_flip_14 : decode c_A_flip 14 = .ok (.getfield 122, 3) := by decide +kernel
theorem d_A_flip_17 : decode c_A_flip 17 = .ok (.iload_n 1, 1) := by decide +kernel
theorem d_A_flip_18 : decode c_A_flip 18 = .ok (.iconst 1, 1) := by decide +kernel
theorem d_A_flip_19 : decode c_A_flip 19 = .ok (.aload_n 0, 1) := by decide +kernel
theorem d_A_flip_20 : decode c_A_flip 20 = .ok (.getfield 29, 3) := by decide +kernel
theorem d_A_flip_23 : decode c_A_flip 23 = .ok (.getfield 122, 3) := by decide +kernel
theorem d_A_flip_26 : decode c_A_flip 26 = .ok (.iload_n 1, 1) := by decide +kernel
theorem d_A_flip_27 : decode c_A_flip 27 = .ok (.baload, 1) := by decide +kernel
theorem d_A_flip_28 : decode c_A_flip 28 = .ok (.isub, 1) := by decide +kernel
theorem d_A_flip_29 : decode c_A_flip 29 = .ok (.i2b, 1) := by decide +kernel
theorem d_A_flip_30 : decode c_A_flip 30 = .ok (.bastore, 1) := by decide +kernel
theorem d_A_flip_31 : decode c_A_flip 31 = .ok (.aload_n 0, 1) := by decide +kernel
theorem d_A_flip_32 : decode c_A_flip 32 = .ok (.getfield 56, 3) := by decide +kernel
theorem d_A_flip_35 : decode c_A_flip 35 = .ok (.invokevirtual 82, 3) := by decide +kernel
theorem d_A_flip_38 : decode c_A_flip 38 = .ok (.iconst 1, 1) := by decide +kernel
theorem d_A_flip_39 : decode c_A_flip 39 = .ok (.ireturn, 1) := by decide +kernel
theorem d_A_degree_0 : decode c_A_degree 0 = .ok (.aload_n 0, 1) := by decide +kernel
theorem d_A_degree_1 : decode c_A_degree 1 = .ok (.iload_n 1, 1) := by decide +kernel
theorem d_A_degree_2 : decode c_A_degree 2 = .ok (.invokevirtual 89, 3) := by decide +kernel
theorem d_A_degree_5 : decode c_A_degree 5 = .ok (.ifCond .ne 6, 3) := by decide +kernel
theorem d_A_degree_8 : decode c_A_degree 8 = .ok (.bipush (-100), 2) := by decide +kernel
theorem d_A_degree_10 : decode c_A_degree 10 = .ok (.ireturn, 1) := by decide +kernel
theorem d_A_degree_11 : decode c_A_degree 11 = .ok (.aload_n 0, 1) := by decide +kernel
theorem d_A_degree_12 : decode c_A_degree 12 = .ok (.getfield 56, 3) := by decide +kernel
theorem d_A_degree_15 : decode c_A_degree 15 = .ok (.getfield 126, 3) := by decide +kernel
theorem d_A_degree_18 : decode c_A_degree 18 = .ok (.iload_n 1, 1) := by decide +kernel
theorem d_A_degree_19 : decode c_A_degree 19 = .ok (.iaload, 1) := by decide +kernel
theorem d_A_degree_20 : decode c_A_degree 20 = .ok (.ifCond .ne 18, 3) := by decide +kernel
theorem d_A_degree_23 : decode c_A_degree 23 = .ok (.aload_n 0, 1) := by decide +kernel
theorem d_A_degree_24 : decode c_A_degree 24 = .ok (.getfield 56, 3) := by decide +kernel
theorem d_A_degree_27 : decode c_A_degree 27 = .ok (.getfield 62, 3) := by decide +kernel
theorem d_A_degree_30 : decode c_A_degree 30 = .ok (.iload_n 1, 1) := by decide +kernel
theorem d_A_degree_31 : decode c_A_degree 31 = .ok (.iaload, 1) := by decide +kernel
theorem d_A_degree_32 : decode c_A_degree 32 = .ok (.invokestatic 129, 3) := by decide +kernel
theorem d_A_degree_35 : decode c_A_degree 35 = .ok (.goto 13, 3) := by decide +kernel
theorem d_A_degree_38 : decode c_A_degree 38 = .ok (.aload_n 0, 1) := by decide +kernel
theorem d_A_degree_39 : decode c_A_degree 39 = .ok (.getfield 56, 3) := by decide +kernel
theorem d_A_degree_42 : decode c_A_degree 42 = .ok (.getfield 126, 3) := by decide +kernel
theorem d_A_degree_45 : decode c_A_degree 45 = .ok (.iload_n 1, 1) := by decide +kernel
theorem d_A_degree_46 : decode c_A_degree 46 = .ok (.iaload, 1) := by decide +kernel
theorem d_A_degree_47 : decode c_A_degree 47 = .ok (.ineg, 1) := by decide +kernel
theorem d_A_degree_48 : decode c_A_degree 48 = .ok (.ireturn, 1) := by decide +kernel
theorem d_A_successor_0 : decode c_A_successor 0 = .ok (.aload_n 0, 1) := by decide +kernel
theorem d_A_successor_1 : decode c_A_successor 1 = .ok (.iload_n 1, 1) := by decide +kernel
theorem d_A_successor_2 : decode c_A_successor 2 = .ok (.invokevirtual 89, 3) := by decide +kernel
theorem d_A_successor_5 : decode c_A_successor 5 = .ok (.ifCond .ne 5, 3) := by decide +kernel
theorem d_A_successor_8 : decode c_A_successor 8 = .ok (.iconst (-1), 1) := by decide +kernel
theorem d_A_successor_9 : decode c_A_successor 9 = .ok (.ireturn, 1) := by decide +kernel
theorem d_A_successor_10 : decode c_A_successor 10 = .ok (.iconst 0, 1) := by decide +kernel
theorem d_A_successor_11 : decode c_A_successor 11 = .ok (.istore_n 3, 1) := by decide +kernel
theorem d_A_successor_12 : decode c_A_successor 12 = .ok (.iconst 0, 1) := by decide +kernel
theorem d_A_successor_13 : decode c_A_successor 13 = .ok (.istore 4, 2) := by decide +kernel
theorem d_A_successor_15 : decode c_A_successor 15 = .ok (.iload 4, 2) := by decide +kernel
theorem d_A_successor_17 : decode c_A_successor 17 = .ok (.aload_n 0, 1) := by decide +kernel
theorem d_A_successor_18 : decode c_A_successor 18 = .ok (.getfield 18, 3) := by decide +kernel
theorem d_A_successor_21 : decode c_A_successor 21 = .ok (.if_icmp .ge 37, 3) := by decide +kernel
theorem d_A_successor_24 : decode c_A_successor 24 = .ok (.aload_n 0, 1) := by decide +kernel
theorem d_A_successor_25 : decode c_A_successor 25 = .ok (.getfield 56, 3) := by decide +kernel
theorem d_A_successor_28 : decode c_A_successor 28 = .ok (.getfield 62, 3) := by decide +kernel
theorem d_A_successor_31 : decode c_A_successor 31 = .ok (.iload_n 1, 1) := by decide +kernel
theorem d_A_successor_32 : decode c_A_successor 32 = .ok (.iaload, 1) := by decide +kernel
theorem d_A_successor_33 : decode c_A_successor 33 = .ok (.iload 4, 2) := by decide +kernel
theorem d_A_successor_35 : decode c_A_successor 35 = .ok (.invokestatic 93, 3) := by decide +kernel
theorem d_A_successor_38 : decode c_A_successor 38 = .ok (.ifCond .eq 14, 3) := by decide +kernel
theorem d_A_successor_41 : decode c_A_successor 41 = .ok (.iload_n 3, 1) := by decide +kernel
theorem d_A_successor_42 : decode c_A_successor 42 = .ok (.iload_n 2, 1) := by decide +kernel
theorem d_A_successor_43 : decode c_A_successor 43 = .ok (.if_icmp .ne 6, 3) := by decide +kernel
theorem d_A_successor_46 : decode c_A_successor 46 = .ok (.iload 4, 2) := by decide +kernel
theorem d_A_successor_48 : decode c_A_successor 48 = .ok (.ireturn, 1) := by decide +kernel
theorem d_A_successor_49 : decode c_A_successor 49 = .ok (.iinc 3 1, 3) := by decide +kernel
theorem d_A_successor_52 : decode c_A_successor 52 = .ok (.iinc 4 1, 3) := by decide +kernel
theorem d_A_successor_55 : decode c_A_successor 55 = .ok (.goto (-40), 3) := by decide +kernel
theorem d_A_successor_58 : decode c_A_successor 58 = .ok (.iconst (-1), 1) := by decide +kernel
theorem d_A_successor_59 : decode c_A_successor 59 = .ok (.ireturn, 1) := by decide +kernel
theorem d_A_reference_0 : decode c_A_reference 0 = .ok (.aload_n 0, 1) := by decide +kernel
theorem d_A_reference_1 : decode c_A_reference 1 = .ok (.iload_n 1, 1) := by decide +kernel
theorem d_A_reference_2 : decode c_A_reference 2 = .ok (.invokevirtual 89, 3) := by decide +kernel
theorem d_A_reference_5 : decode c_A_reference 5 = .ok (.ifCond .eq 27, 3) := by decide +kernel
theorem d_A_reference_8 : decode c_A_reference 8 = .ok (.aload_n 0, 1) := by decide +kernel
theorem d_A_reference_9 : decode c_A_reference 9 = .ok (.getfield 56, 3) := by decide +kernel
theorem d_A_reference_12 : decode c_A_reference 12 = .ok (.getfield 126, 3) := by decide +kernel
theorem d_A_reference_15 : decode c_A_reference 15 = .ok (.iload_n 1, 1) := by decide +kernel
theorem d_A_reference_16 : decode c_A_reference 16 = .ok (.iaload, 1) := by decide +kernel
theorem d_A_reference_17 : decode c_A_reference 17 = .ok (.ifCond .ne 15, 3) := by decide +kernel
theorem d_A_reference_20 : decode c_A_reference 20 = .ok (.aload_n 0, 1) := by decide +kernel
theorem d_A_reference_21 : decode c_A_reference 21 = .ok (.getfield 56, 3) := by decide +kernel
theorem d_A_reference_24 : decode c_A_reference 24 = .ok (.getfield 135, 3) := by decide +kernel
theorem d_A_reference_27 : decode c_A_reference 27 = .ok (.iload_n 1, 1) := by decide +kernel
theorem d_A_reference_28 : decode c_A_reference 28 = .ok (.iaload, 1) := by decide +kernel
theorem d_A_reference_29 : decode c_A_reference 29 = .ok (.goto 4, 3) := by decide +kernel
theorem d_A_reference_32 : decode c_A_reference 32 = .ok (.iconst (-1), 1) := by decide +kernel
theorem d_A_reference_33 : decode c_A_reference 33 = .ok (.ireturn, 1) := by decide +kernel
theorem d_A_components_0 : decode c_A_components 0 = .ok (.aload_n 0, 1) := by decide +kernel
theorem d_A_components_1 : decode c_A_components 1 = .ok (.getfield 68, 3) := by decide +kernel
theorem d_A_components_4 : decode c_A_components 4 = .ok (.invokevirtual 138, 3) := by decide +kernel
theorem d_A_components_7 : decode c_A_components 7 = .ok (.ireturn, 1) := by decide +kernel
theorem d_A_component_0 : decode c_A_component 0 = .ok (.aload_n 0, 1) := by decide +kernel
theorem d_A_component_1 : decode c_A_component 1 = .ok (.iload_n 1, 1) := by decide +kernel
theorem d_A_component_2 : decode c_A_component 2 = .ok (.invokevirtual 89, 3) := by decide +kernel
theorem d_A_component_5 : decode c_A_component 5 = .ok (.ifCond .ne 5, 3) := by decide +kernel
theorem d_A_component_8 : decode c_A_component 8 = .ok (.iconst (-1), 1) := by decide +kernel
theorem d_A_component_9 : decode c_A_component 9 = .ok (.ireturn, 1) := by decide +kernel
theorem d_A_component_10 : decode c_A_component 10 = .ok (.aload_n 0, 1) := by decide +kernel
theorem d_A_component_11 : decode c_A_component 11 = .ok (.getfield 68, 3) := by decide +kernel
theorem d_A_component_14 : decode c_A_component 14 = .ok (.invokevirtual 138, 3) := by decide +kernel
theorem d_A_component_17 : decode c_A_component 17 = .ok (.pop, 1) := by decide +kernel
theorem d_A_component_18 : decode c_A_component 18 = .ok (.aload_n 0, 1) := by decide +kernel
theorem d_A_component_19 : decode c_A_component 19 = .ok (.getfield 68, 3) := by decide +kernel
theorem d_A_component_22 : decode c_A_component 22 = .ok (.getfield 142, 3) := by decide +kernel
theorem d_A_component_25 : decode c_A_component 25 = .ok (.iload_n 1, 1) := by decide +kernel
theorem d_A_component_26 : decode c_A_component 26 = .ok (.iaload, 1) := by decide +kernel
theorem d_A_component_27 : decode c_A_component 27 = .ok (.ireturn, 1) := by decide +kernel
theorem d_A_prefer_0 : decode c_A_prefer 0 = .ok (.aload_n 0, 1) := by decide +kernel
theorem d_A_prefer_1 : decode c_A_prefer 1 = .ok (.iload_n 1, 1) := by decide +kernel
theorem d_A_prefer_2 : decode c_A_prefer 2 = .ok (.invokevirtual 89, 3) := by decide +kernel
theorem d_A_prefer_5 : decode c_A_prefer 5 = .ok (.ifCond .eq 26, 3) := by decide +kernel
theorem d_A_prefer_8 : decode c_A_prefer 8 = .ok (.iload_n 2, 1) := by decide +kernel
theorem d_A_prefer_9 : decode c_A_prefer 9 = .ok (.iconst 0, 1) := by decide +kernel
theorem d_A_prefer_10 : decode c_A_prefer 10 = .ok (.bipush 100, 2) := by decide +kernel
theorem d_A_prefer_12 : decode c_A_prefer 12 = .ok (.invokestatic 97, 3) := by decide +kernel
theorem d_A_prefer_15 : decode c_A_prefer 15 = .ok (.ifCond .eq 16, 3) := by decide +kernel
theorem d_A_prefer_18 : decode c_A_prefer 18 = .ok (.aload_n 0, 1) := by decide +kernel
theorem d_A_prefer_19 : decode c_A_prefer 19 = .ok (.getfield 75, 3) := by decide +kernel
theorem d_A_prefer_22 : decode c_A_prefer 22 = .ok (.iload_n 1, 1) := by decide +kernel
theorem d_A_prefer_23 : decode c_A_prefer 23 = .ok (.invokevirtual 145, 3) := by decide +kernel
theorem d_A_prefer_26 : decode c_A_prefer 26 = .ok (.iload_n 2, 1) := by decide +kernel
theorem d_A_prefer_27 : decode c_A_prefer 27 = .ok (.iadd, 1) := by decide +kernel
theorem d_A_prefer_28 : decode c_A_prefer 28 = .ok (.ifCond .ne 5, 3) := by decide +kernel
theorem d_A_prefer_31 : decode c_A_prefer 31 = .ok (.iconst 0, 1) := by decide +kernel
theorem d_A_prefer_32 : decode c_A_prefer 32 = .ok (.ireturn, 1) := by decide +kernel
theorem d_A_prefer_33 : decode c_A_prefer 33 = .ok (.aload_n 0, 1) := by decide +kernel
theorem d_A_prefer_34 : decode c_A_prefer 34 = .ok (.getfield 75, 3) := by decide +kernel
theorem d_A_prefer_37 : decode c_A_prefer 37 = .ok (.getfield 148, 3) := by decide +kernel
theorem d_A_prefer_40 : decode c_A_prefer 40 = .ok (.iload_n 1, 1) := by decide +kernel
theorem d_A_prefer_41 : decode c_A_prefer 41 = .ok (.iload_n 2, 1) := by decide +kernel
theorem d_A_prefer_42 : decode c_A_prefer 42 = .ok (.iastore, 1) := by decide +kernel
theorem d_A_prefer_43 : decode c_A_prefer 43 = .ok (.iconst 1, 1) := by decide +kernel
theorem d_A_prefer_44 : decode c_A_prefer 44 = .ok (.ireturn, 1) := by decide +kernel
theorem d_A_start_0 : decode c_A_start 0 = .ok (.iload_n 1, 1) := by decide +kernel
theorem d_A_start_1 : decode c_A_start 1 = .ok (.iconst 0, 1) := by decide +kernel
theorem d_A_start_2 : decode c_A_start 2 = .ok (.iconst 2, 1) := by decide +kernel
theorem d_A_start_3 : decode c_A_start 3 = .ok (.invokestatic 97, 3) := by decide +kernel
theorem d_A_start_6 : decode c_A_start 6 = .ok (.ifCond .eq 14, 3) := by decide +kernel
theorem d_A_start_9 : decode c_A_start 9 = .ok (.iload_n 2, 1) := by decide +kernel
theorem d_A_start_10 : decode c_A_start 10 = .ok (.iconst 0, 1) := by decide +kernel
theorem d_A_start_11 : decode c_A_start 11 = .ok (.sipush 1000, 3) := by decide +kernel
theorem d_A_start_14 : decode c_A_start 14 = .ok (.invokestatic 97, 3) := by decide +kernel
theorem d_A_start_17 : decode c_A_start 17 = .ok (.ifCond .ne 5, 3) := by decide +kernel
theorem d_A_start_20 : decode c_A_start 20 = .ok (.iconst 0, 1) := by decide +kernel
theorem d_A_start_21 : decode c_A_start 21 = .ok (.ireturn, 1) := by decide +kernel
theorem d_A_start_22 : decode c_A_start 22 = .ok (.aload_n 0, 1) := by decide +kernel
theorem d_A_start_23 : decode c_A_start 23 = .ok (.getfield 75, 3) := by decide +kernel
theorem d_A_start_26 : decode c_A_start 26 = .ok (.iload_n 1, 1) := by decide +kernel
theorem d_A_start_27 : decode c_A_start 27 = .ok (.iload_n 2, 1) := by decide +kernel
theorem d_A_start_28 : decode c_A_start 28 = .ok (.invokevirtual 85, 3) := by decide +kernel
theorem d_A_start_31 : decode c_A_start 31 = .ok (.iconst 1, 1) := by decide +kernel
theorem d_A_start_32 : decode c_A_start 32 = .ok (.ireturn, 1) := by decide +kernel
theorem d_A_step_0 : decode c_A_step 0 = .ok (.iload_n 1, 1) := by decide +kernel
theorem d_A_step_1 : decode c_A_step 1 = .ok (.iconst 0, 1) := by decide +kernel
theorem d_A_step_2 : decode c_A_step 2 = .ok (.bipush 20, 2) := by decide +kernel
theorem d_A_step_4 : decode c_A_step 4 = .ok (.invokestatic 97, 3) := by decide +kernel
theorem d_A_step_7 : decode c_A_step 7 = .ok (.ifCond .eq 14, 3) := by decide +kernel
theorem d_A_step_10 : decode c_A_step 10 = .ok (.aload_n 0, 1) := by decide +kernel
theorem d_A_step_11 : decode c_A_step 11 = .ok (.getfield 75, 3) := by decide +kernel
theorem d_A_step_14 : decode c_A_step 14 = .ok (.iload_n 1, 1) := by decide +kernel
theorem d_A_step_15 : decode c_A_step 15 = .ok (.invokevirtual 151, 3) := by decide +kernel
theorem d_A_step_18 : decode c_A_step 18 = .ok (.goto 4, 3) := by decide +kernel
theorem d_A_step_21 : decode c_A_step 21 = .ok (.iconst (-1), 1) := by decide +kernel
theorem d_A_step_22 : decode c_A_step 22 = .ok (.ireturn, 1) := by decide +kernel
theorem d_A_score_0 : decode c_A_score 0 = .ok (.aload_n 0, 1) := by decide +kernel
theorem d_A_score_1 : decode c_A_score 1 = .ok (.iload_n 1, 1) := by decide +kernel
theorem d_A_score_2 : decode c_A_score 2 = .ok (.invokevirtual 89, 3) := by decide +kernel
theorem d_A_score_5 : decode c_A_score 5 = .ok (.ifCond .eq 15, 3) := by decide +kernel
theorem d_A_score_8 : decode c_A_score 8 = .ok (.aload_n 0, 1) := by decide +kernel
theorem d_A_score_9 : decode c_A_score 9 = .ok (.getfield 75, 3) := by decide +kernel
theorem d_A_score_12 : decode c_A_score 12 = .ok (.getfield 154, 3) := by decide +kernel
theorem d_A_score_15 : decode c_A_score 15 = .ok (.iload_n 1, 1) := by decide +kernel
theorem d_A_score_16 : decode c_A_score 16 = .ok (.laload, 1) := by decide +kernel
theorem d_A_score_17 : decode c_A_score 17 = .ok (.goto 6, 3) := by decide +kernel
theorem d_A_score_20 : decode c_A_score 20 = .ok (.ldc2_w 157, 3) := by decide +kernel
theorem d_A_score_23 : decode c_A_score 23 = .ok (.lreturn, 1) := by decide +kernel
theorem d_A_hub_0 : decode c_A_hub 0 = .ok (.aload_n 0, 1) := by decide +kernel
theorem d_A_hub_1 : decode c_A_hub 1 = .ok (.iload_n 1, 1) := by decide +kernel
theorem d_A_hub_2 : decode c_A_hub 2 = .ok (.invokevirtual 89, 3) := by decide +kernel
theorem d_A_hub_5 : decode c_A_hub 5 = .ok (.ifCond .eq 15, 3) := by decide +kernel
theorem d_A_hub_8 : decode c_A_hub 8 = .ok (.aload_n 0, 1) := by decide +kernel
theorem d_A_hub_9 : decode c_A_hub 9 = .ok (.getfield 75, 3) := by decide +kernel
theorem d_A_hub_12 : decode c_A_hub 12 = .ok (.getfield 159, 3) := by decide +kernel
theorem d_A_hub_15 : decode c_A_hub 15 = .ok (.iload_n 1, 1) := by decide +kernel
theorem d_A_hub_16 : decode c_A_hub 16 = .ok (.laload, 1) := by decide +kernel
theorem d_A_hub_17 : decode c_A_hub 17 = .ok (.goto 6, 3) := by decide +kernel
theorem d_A_hub_20 : decode c_A_hub 20 = .ok (.ldc2_w 157, 3) := by decide +kernel
theorem d_A_hub_23 : decode c_A_hub 23 = .ok (.lreturn, 1) := by decide +kernel
theorem d_A_top_0 : decode c_A_top 0 = .ok (.iconst 0, 1) := by decide +kernel
theorem d_A_top_1 : decode c_A_top 1 = .ok (.istore_n 2, 1) := by decide +kernel
theorem d_A_top_2 : decode c_A_top 2 = .ok (.iload_n 2, 1) := by decide +kernel
theorem d_A_top_3 : decode c_A_top 3 = .ok (.aload_n 0, 1) := by decide +kernel
theorem d_A_top_4 : decode c_A_top 4 = .ok (.getfield 18, 3) := by decide +kernel
theorem d_A_top_7 : decode c_A_top 7 = .ok (.if_icmp .ge 23, 3) := by decide +kernel
theorem d_A_top_10 : decode c_A_top 10 = .ok (.aload_n 0, 1) := by decide +kernel
theorem d_A_top_11 : decode c_A_top 11 = .ok (.getfield 75, 3) := by decide +kernel
theorem d_A_top_14 : decode c_A_top 14 = .ok (.iload_n 2, 1) := by decide +kernel
theorem d_A_top_15 : decode c_A_top 15 = .ok (.invokevirtual 162, 3) := by decide +kernel
theorem d_A_top_18 : decode c_A_top 18 = .ok (.iload_n 1, 1) := by decide +kernel
theorem d_A_top_19 : decode c_A_top 19 = .ok (.if_icmp .ne 5, 3) := by decide +kernel
theorem d_A_top_22 : decode c_A_top 22 = .ok (.iload_n 2, 1) := by decide +kernel
theorem d_A_top_23 : decode c_A_top 23 = .ok (.ireturn, 1) := by decide +kernel
theorem d_A_top_24 : decode c_A_top 24 = .ok (.iinc 2 1, 3) := by decide +kernel
theorem d_A_top_27 : decode c_A_top 27 = .ok (.goto (-25), 3) := by decide +kernel
theorem d_A_top_30 : decode c_A_top 30 = .ok (.iconst (-1), 1) := by decide +kernel
theorem d_A_top_31 : decode c_A_top 31 = .ok (.ireturn, 1) := by decide +kernel
theorem d_A_change_0 : decode c_A_change 0 = .ok (.aload_n 0, 1) := by decide +kernel
theorem d_A_change_1 : decode c_A_change 1 = .ok (.getfield 75, 3) := by decide +kernel
theorem d_A_change_4 : decode c_A_change 4 = .ok (.getfield 165, 3) := by decide +kernel
theorem d_A_change_7 : decode c_A_change 7 = .ok (.lreturn, 1) := by decide +kernel
theorem d_A_isNode_0 : decode c_A_isNode 0 = .ok (.iload_n 1, 1) := by decide +kernel
theorem d_A_isNode_1 : decode c_A_isNode 1 = .ok (.iconst 0, 1) := by decide +kernel
theorem d_A_isNode_2 : decode c_A_isNode 2 = .ok (.aload_n 0, 1) := by decide +kernel
theorem d_A_isNode_3 : decode c_A_isNode 3 = .ok (.getfield 18, 3) := by decide +kernel
theorem d_A_isNode_6 : decode c_A_isNode 6 = .ok (.iconst 1, 1) := by decide +kernel
theorem d_A_isNode_7 : decode c_A_isNode 7 = .ok (.isub, 1) := by decide +kernel
theorem d_A_isNode_8 : decode c_A_isNode 8 = .ok (.invokestatic 97, 3) := by decide +kernel
theorem d_A_isNode_11 : decode c_A_isNode 11 = .ok (.ireturn, 1) := by decide +kernel
theorem d_A_isPlace_0 : decode c_A_isPlace 0 = .ok (.iload_n 1, 1) := by decide +kernel
theorem d_A_isPlace_1 : decode c_A_isPlace 1 = .ok (.iconst 0, 1) := by decide +kernel
theorem d_A_isPlace_2 : decode c_A_isPlace 2 = .ok (.aload_n 0, 1) := by decide +kernel
theorem d_A_isPlace_3 : decode c_A_isPlace 3 = .ok (.getfield 29, 3) := by decide +kernel
theorem d_A_isPlace_6 : decode c_A_isPlace 6 = .ok (.getfield 113, 3) := by decide +kernel
theorem d_A_isPlace_9 : decode c_A_isPlace 9 = .ok (.iconst 1, 1) := by decide +kernel
theorem d_A_isPlace_10 : decode c_A_isPlace 10 = .ok (.isub, 1) := by decide +kernel
theorem d_A_isPlace_11 : decode c_A_isPlace 11 = .ok (.invokestatic 97, 3) := by decide +kernel
theorem d_A_isPlace_14 : decode c_A_isPlace 14 = .ok (.ireturn, 1) := by decide +kernel
theorem d_A_within_0 : decode c_A_within 0 = .ok (.iload_n 0, 1) := by decide +kernel
theorem d_A_within_1 : decode c_A_within 1 = .ok (.iload_n 1, 1) := by decide +kernel
theorem d_A_within_2 : decode c_A_within 2 = .ok (.if_icmp .lt 12, 3) := by decide +kernel
theorem d_A_within_5 : decode c_A_within 5 = .ok (.iload_n 0, 1) := by decide +kernel
theorem d_A_within_6 : decode c_A_within 6 = .ok (.iload_n 2, 1) := by decide +kernel
theorem d_A_within_7 : decode c_A_within 7 = .ok (.if_icmp .gt 7, 3) := by decide +kernel
theorem d_A_within_10 : decode c_A_within 10 = .ok (.iconst 1, 1) := by decide +kernel
theorem d_A_within_11 : decode c_A_within 11 = .ok (.goto 4, 3) := by decide +kernel
theorem d_A_within_14 : decode c_A_within 14 = .ok (.iconst 0, 1) := by decide +kernel
theorem d_A_within_15 : decode c_A_within 15 = .ok (.ireturn, 1) := by decide +kernel
theorem d_A_holds_0 : decode c_A_holds 0 = .ok (.iload_n 0, 1) := by decide +kernel
theorem d_A_holds_1 : decode c_A_holds 1 = .ok (.iload_n 1, 1) := by decide +kernel
theorem d_A_holds_2 : decode c_A_holds 2 = .ok (.ishr, 1) := by decide +kernel
theorem d_A_holds_3 : decode c_A_holds 3 = .ok (.iconst 1, 1) := by decide +kernel
theorem d_A_holds_4 : decode c_A_holds 4 = .ok (.iand, 1) := by decide +kernel
theorem d_A_holds_5 : decode c_A_holds 5 = .ok (.ifCond .eq 7, 3) := by decide +kernel
theorem d_A_holds_8 : decode c_A_holds 8 = .ok (.iconst 1, 1) := by decide +kernel
theorem d_A_holds_9 : decode c_A_holds 9 = .ok (.goto 4, 3) := by decide +kernel
theorem d_A_holds_12 : decode c_A_holds 12 = .ok (.iconst 0, 1) := by decide +kernel
theorem d_A_holds_13 : decode c_A_holds 13 = .ok (.ireturn, 1) := by decide +kernel
theorem d_K_init_0 : decode c_K_init 0 = .ok (.aload_n 0, 1) := by decide +kernel
theorem d_K_init_1 : decode c_K_init 1 = .ok (.invokespecial 3, 3) := by decide +kernel
theorem d_K_init_4 : decode c_K_init 4 = .ok (.aload_n 0, 1) := by decide +kernel
theorem d_K_init_5 : decode c_K_init 5 = .ok (.bipush 13, 2) := by decide +kernel
theorem d_K_init_7 : decode c_K_init 7 = .ok (.newarray .int, 2) := by decide +kernel
theorem d_K_init_9 : decode c_K_init 9 = .ok (.putfield 9, 3) := by decide +kernel
theorem d_K_init_12 : decode c_K_init 12 = .ok (.aload_n 0, 1) := by decide +kernel
theorem d_K_init_13 : decode c_K_init 13 = .ok (.bipush 12, 2) := by decide +kernel
theorem d_K_init_15 : decode c_K_init 15 = .ok (.newarray .int, 2) := by decide +kernel
theorem d_K_init_17 : decode c_K_init 17 = .ok (.putfield 15, 3) := by decide +kernel
theorem d_K_init_20 : decode c_K_init 20 = .ok (.aload_n 0, 1) := by decide +kernel
theorem d_K_init_21 : decode c_K_init 21 = .ok (.bipush 12, 2) := by decide +kernel
theorem d_K_init_23 : decode c_K_init 23 = .ok (.newarray .int, 2) := by decide +kernel
theorem d_K_init_25 : decode c_K_init 25 = .ok (.putfield 18, 3) := by decide +kernel
theorem d_K_init_28 : decode c_K_init 28 = .ok (.aload_n 0, 1) := by decide +kernel
theorem d_K_init_29 : decode c_K_init 29 = .ok (.aload_n 1, 1) := by decide +kernel
theorem d_K_init_30 : decode c_K_init 30 = .ok (.putfield 21, 3) := by decide +kernel
theorem d_K_init_33 : decode c_K_init 33 = .ok (.aload_n 0, 1) := by decide +kernel
theorem d_K_init_34 : decode c_K_init 34 = .ok (.aload_n 2, 1) := by decide +kernel
theorem d_K_init_35 : decode c_K_init 35 = .ok (.putfield 24, 3) := by decide +kernel
theorem d_K_init_38 : decode c_K_init 38 = .ok (.aload_n 0, 1) := by decide +kernel
theorem d_K_init_39 : decode c_K_init 39 = .ok (.aload_n 3, 1) := by decide +kernel
theorem d_K_init_40 : decode c_K_init 40 = .ok (.putfield 28, 3) := by decide +kernel
theorem d_K_init_43 : decode c_K_init 43 = .ok (.aload_n 0, 1) := by decide +kernel
theorem d_K_init_44 : decode c_K_init 44 = .ok (.aload_n 1, 1) := by decide +kernel
theorem d_K_init_45 : decode c_K_init 45 = .ok (.arraylength, 1) := by decide +kernel
theorem d_K_init_46 : decode c_K_init 46 = .ok (.newarray .int, 2) := by decide +kernel
theorem d_K_init_48 : decode c_K_init 48 = .ok (.putfield 32, 3) := by decide +kernel
theorem d_K_init_51 : decode c_K_init 51 = .ok (.return_, 1) := by decide +kernel
theorem d_K_writeAll_0 : decode c_K_writeAll 0 = .ok (.aload_n 0, 1) := by decide +kernel
theorem d_K_writeAll_1 : decode c_K_writeAll 1 = .ok (.getfield 28, 3) := by decide +kernel
theorem d_K_writeAll_4 : decode c_K_writeAll 4 = .ok (.iconst 0, 1) := by decide +kernel
theorem d_K_writeAll_5 : decode c_K_writeAll 5 = .ok (.putfield 35, 3) := by decide +kernel
theorem d_K_writeAll_8 : decode c_K_writeAll 8 = .ok (.iconst 0, 1) := by decide +kernel
theorem d_K_writeAll_9 : decode c_K_writeAll 9 = .ok (.istore_n 1, 1) := by decide +kernel
theorem d_K_writeAll_10 : decode c_K_writeAll 10 = .ok (.iload_n 1, 1) := by decide +kernel
theorem d_K_writeAll_11 : decode c_K_writeAll 11 = .ok (.aload_n 0, 1) := by decide +kernel
theorem d_K_writeAll_12 : decode c_K_writeAll 12 = .ok (.getfield 21, 3) := by decide +kernel
theorem d_K_writeAll_15 : decode c_K_writeAll 15 = .ok (.arraylength, 1) := by decide +kernel
theorem d_K_writeAll_16 : decode c_K_writeAll 16 = .ok (.if_icmp .ge 61, 3) := by decide +kernel
theorem d_K_writeAll_19 : decode c_K_writeAll 19 = .ok (.aload_n 0, 1) := by decide +kernel
theorem d_K_writeAll_20 : decode c_K_writeAll 20 = .ok (.getfield 24, 3) := by decide +kernel
theorem d_K_writeAll_23 : decode c_K_writeAll 23 = .ok (.getfield 41, 3) := by decide +kernel
theorem d_K_writeAll_26 : decode c_K_writeAll 26 = .ok (.iload_n 1, 1) := by decide +kernel
theorem d_K_writeAll_27 : decode c_K_writeAll 27 = .ok (.aload_n 0, 1) := by decide +kernel
theorem d_K_writeAll_28 : decode c_K_writeAll 28 = .ok (.getfield 28, 3) := by decide +kernel
theorem d_K_writeAll_31 : decode c_K_writeAll 31 = .ok (.getfield 35, 3) := by decide +kernel
theorem d_K_writeAll_34 : decode c_K_writeAll 34 = .ok (.iastore, 1) := by decide +kernel
theorem d_K_writeAll_35 : decode c_K_writeAll 35 = .ok (.aload_n 0, 1) := by decide +kernel
theorem d_K_writeAll_36 : decode c_K_writeAll 36 = .ok (.iload_n 1, 1) := by decide +kernel
theorem d_K_writeAll_37 : decode c_K_writeAll 37 = .ok (.invokevirtual 46, 3) := by decide +kernel
theorem d_K_writeAll_40 : decode c_K_writeAll 40 = .ok (.istore_n 2, 1) := by decide +kernel
theorem d_K_writeAll_41 : decode c_K_writeAll 41 = .ok (.aload_n 0, 1) := by decide +kernel
theorem d_K_writeAll_42 : decode c_K_writeAll 42 = .ok (.iload_n 1, 1) := by decide +kernel
theorem d_K_writeAll_43 : decode c_K_writeAll 43 = .ok (.iload_n 2, 1) := by decide +kernel
theorem d_K_writeAll_44 : decode c_K_writeAll 44 = .ok (.invokevirtual 50, 3) := by decide +kernel
theorem d_K_writeAll_47 : decode c_K_writeAll 47 = .ok (.aload_n 0, 1) := by decide +kernel
theorem d_K_writeAll_48 : decode c_K_writeAll 48 = .ok (.getfield 32, 3) := by decide +kernel
theorem d_K_writeAll_51 : decode c_K_writeAll 51 = .ok (.iload_n 1, 1) := by decide +kernel
theorem d_K_writeAll_52 : decode c_K_writeAll 52 = .ok (.iload_n 2, 1) := by decide +kernel
theorem d_K_writeAll_53 : decode c_K_writeAll 53 = .ok (.ifCond .ne 7, 3) := by decide +kernel
theorem d_K_writeAll_56 : decode c_K_writeAll 56 = .ok (.iconst 0, 1) := by decide +kernel
theorem d_K_writeAll_57 : decode c_K_writeAll 57 = .ok (.goto 13, 3) := by decide +kernel
theorem d_K_writeAll_60 : decode c_K_writeAll 60 = .ok (.aload_n 0, 1) := by decide +kernel
theorem d_K_writeAll_61 : decode c_K_writeAll 61 = .ok (.getfield 32, 3) := by decide +kernel
theorem d_K_writeAll_64 : decode c_K_writeAll 64 = .ok (.iload_n 1, 1) := by decide +kernel
theorem d_K_writeAll_65 : decode c_K_writeAll 65 = .ok (.iload_n 2, 1) := by decide +kernel
theorem d_K_writeAll_66 : decode c_K_writeAll 66 = .ok (.isub, 1) := by decide +kernel
theorem d_K_writeAll_67 : decode c_K_writeAll 67 = .ok (.iaload, 1) := by decide +kernel
theorem d_K_writeAll_68 : decode c_K_writeAll 68 = .ok (.iconst 1, 1) := by decide +kernel
theorem d_K_writeAll_69 : decode c_K_writeAll 69 = .ok (.iadd, 1) := by decide +kernel
theorem d_K_writeAll_70 : decode c_K_writeAll 70 = .ok (.iastore, 1) := by decide +kernel
theorem d_K_writeAll_71 : decode c_K_writeAll 71 = .ok (.iinc 1 1, 3) := by decide +kernel
theorem d_K_writeAll_74 : decode c_K_writeAll 74 = .ok (.goto (-64), 3) := by decide +kernel
theorem d_K_writeAll_77 : decode c_K_writeAll 77 = .ok (.aload_n 0, 1) := by decide +kernel
theorem d_K_writeAll_78 : decode c_K_writeAll 78 = .ok (.getfield 24, 3) := by decide +kernel
theorem d_K_writeAll_81 : decode c_K_writeAll 81 = .ok (.getfield 41, 3) := by decide +kernel
theorem d_K_writeAll_84 : decode c_K_writeAll 84 = .ok (.aload_n 0, 1) := by decide +kernel
theorem d_K_writeAll_85 : decode c_K_writeAll 85 = .ok (.getfield 21, 3) := by decide +kernel
theorem d_K_writeAll_88 : decode c_K_writeAll 88 = .ok (.arraylength, 1) := by decide +kernel
theorem d_K_writeAll_89 : decode c_K_writeAll 89 = .ok (.aload_n 0, 1) := by decide +kernel
theorem d_K_writeAll_90 : decode c_K_writeAll 90 = .ok (.getfield 28, 3) := by decide +kernel
theorem d_K_writeAll_93 : decode c_K_writeAll 93 = .ok (.getfield 35, 3) := by decide +kernel
theorem d_K_writeAll_96 : decode c_K_writeAll 96 = .ok (.iastore, 1) := by decide +kernel
theorem d_K_writeAll_97 : decode c_K_writeAll 97 = .ok (.return_, 1) := by decide +kernel
theorem d_K_bestReference_0 : decode c_K_bestReference 0 = .ok (.aload_n 0, 1) := by decide +kernel
theorem d_K_bestReference_1 : decode c_K_bestReference 1 = .ok (.getfield 28, 3) := by decide +kernel
theorem d_K_bestReference_4 : decode c_K_bestReference 4 = .ok (.getfield 35, 3) := by decide +kernel
theorem d_K_bestReference_7 : decode c_K_bestReference 7 = .ok (.istore_n 2, 1) := by decide +kernel
theorem d_K_bestReference_8 : decode c_K_bestReference 8 = .ok (.iconst 0, 1) := by decide +kernel
theorem d_K_bestReference_9 : decode c_K_bestReference 9 = .ok (.istore_n 3, 1) := by decide +kernel
theorem d_K_bestReference_10 : decode c_K_bestReference 10 = .ok (.sipush 800, 3) := by decide +kernel
theorem d_K_bestReference_13 : decode c_K_bestReference 13 = .ok (.istore 4, 2) := by decide +kernel
theorem d_K_bestReference_15 : decode c_K_bestReference 15 = .ok (.aload_n 0, 1) := by decide +kernel
theorem d_K_bestReference_16 : decode c_K_bestReference 16 = .ok (.getfield 21, 3) := by decide +kernel
theorem d_K_bestReference_19 : decode c_K_bestReference 19 = .ok (.iload_n 1, 1) := by decide +kernel
theorem d_K_bestReference_20 : decode c_K_bestReference 20 = .ok (.iaload, 1) := by decide +kernel
theorem d_K_bestReference_21 : decode c_K_bestReference 21 = .ok (.ifCond .ne 7, 3) := by decide +kernel
theorem d_K_bestReference_24 : decode c_K_bestReference 24 = .ok (.iconst 0, 1) := by decide +kernel
theorem d_K_bestReference_25 : decode c_K_bestReference 25 = .ok (.goto 14, 3) := by decide +kernel
theorem d_K_bestReference_28 : decode c_K_bestReference 28 = .ok (.aload_n 0, 1) := by decide +kernel
theorem d_K_bestReference_29 : decode c_K_bestReference 29 = .ok (.getfield 24, 3) := by decide +kernel
theorem d_K_bestReference_32 : decode c_K_bestReference 32 = .ok (.getfield 54, 3) := by decide +kernel
theorem d_K_bestReference_35 : decode c_K_bestReference 35 = .ok (.iload_n 1, 1) := by decide +kernel
theorem d_K_bestReference_36 : decode c_K_bestReference 36 = .ok (.invokestatic 57, 3) := by decide +kernel
theorem d_K_bestReference_39 : decode c_K_bestReference 39 = .ok (.istore 5, 2) := by decide +kernel
theorem d_K_bestReference_41 : decode c_K_bestReference 41 = .ok (.iconst 0, 1) := by decide +kernel
theorem d_K_bestReference_42 : decode c_K_bestReference 42 = .ok (.istore 6, 2) := by decide +kernel
theorem d_K_bestReference_44 : decode c_K_bestReference 44 = .ok (.iload 6, 2) := by decide +kernel
theorem d_K_bestReference_46 : decode c_K_bestReference 46 = .ok (.iload 5, 2) := by decide +kernel
theorem d_K_bestReference_48 : decode c_K_bestReference 48 = .ok (.if_icmp .gt 68, 3) := by decide +kernel
theorem d_K_bestReference_51 : decode c_K_bestReference 51 = .ok (.iload 6, 2) := by decide +kernel
theorem d_K_bestReference_53 : decode c_K_bestReference 53 = .ok (.ifCond .eq 14, 3) := by decide +kernel
theorem d_K_bestReference_56 : decode c_K_bestReference 56 = .ok (.aload_n 0, 1) := by decide +kernel
theorem d_K_bestReference_57 : decode c_K_bestReference 57 = .ok (.iload_n 1, 1) := by decide +kernel
theorem d_K_bestReference_58 : decode c_K_bestReference 58 = .ok (.iload 6, 2) := by decide +kernel
theorem d_K_bestReference_60 : decode c_K_bestReference 60 = .ok (.isub, 1) := by decide +kernel
theorem d_K_bestReference_61 : decode c_K_bestReference 61 = .ok (.invokevirtual 63, 3) := by decide +kernel
theorem d_K_bestReference_64 : decode c_K_bestReference 64 = .ok (.ifCond .eq 46, 3) := by decide +kernel
theorem d_K_bestReference_67 : decode c_K_bestReference 67 = .ok (.aload_n 0, 1) := by decide +kernel
theorem d_K_bestReference_68 : decode c_K_bestReference 68 = .ok (.iload_n 1, 1) := by decide +kernel
theorem d_K_bestReference_69 : decode c_K_bestReference 69 = .ok (.iload 6, 2) := by decide +kernel
theorem d_K_bestReference_71 : decode c_K_bestReference 71 = .ok (.invokevirtual 50, 3) := by decide +kernel
theorem d_K_bestReference_74 : decode c_K_bestReference 74 = .ok (.aload_n 0, 1) := by decide +kernel
theorem d_K_bestReference_75 : decode c_K_bestReference 75 = .ok (.getfield 28, 3) := by decide +kernel
theorem d_K_bestReference_78 : decode c_K_bestReference 78 = .ok (.getfield 35, 3) := by decide +kernel
theorem d_K_bestReference_81 : decode c_K_bestReference 81 = .ok (.iload_n 2, 1) := by decide +kernel
theorem d_K_bestReference_82 : decode c_K_bestReference 82 = .ok (.isub, 1) := by decide +kernel
theorem d_K_bestReference_83 : decode c_K_bestReference 83 = .ok (.iload 4, 2) := by decide +kernel
theorem d_K_bestReference_85 : decode c_K_bestReference 85 = .ok (.if_icmp .ge 17, 3) := by decide +kernel
theorem d_K_bestReference_88 : decode c_K_bestReference 88 = .ok (.aload_n 0, 1) := by decide +kernel
theorem d_K_bestReference_89 : decode c_K_bestReference 89 = .ok (.getfield 28, 3) := by decide +kernel
theorem d_K_bestReference_92 : decode c_K_bestReference 92 = .ok (.getfield 35, 3) := by decide +kernel
theorem d_K_bestReference_95 : decode c_K_bestReference 95 = .ok (.iload_n 2, 1) := by decide +kernel
theorem d_K_bestReference_96 : decode c_K_bestReference 96 = .ok (.isub, 1) := by decide +kernel
theorem d_K_bestReference_97 : decode c_K_bestReference 97 = .ok (.istore 4, 2) := by decide +kernel
theorem d_K_bestReference_99 : decode c_K_bestReference 99 = .ok (.iload 6, 2) := by decide +kernel
theorem d_K_bestReference_101 : decode c_K_bestReference 101 = .ok (.istore_n 3, 1) := by decide +kernel
theorem d_K_bestReference_102 : decode c_K_bestReference 102 = .ok (.aload_n 0, 1) := by decide +kernel
theorem d_K_bestReference_103 : decode c_K_bestReference 103 = .ok (.getfield 28, 3) := by decide +kernel
theorem d_K_bestReference_106 : decode c_K_bestReference 106 = .ok (.iload_n 2, 1) := by decide +kernel
theorem d_K_bestReference_107 : decode c_K_bestReference 107 = .ok (.putfield 35, 3) := by decide +kernel
theorem d_K_bestReference_110 : decode c_K_bestReference 110 = .ok (.iinc 6 1, 3) := by decide +kernel
theorem d_K_bestReference_113 : decode c_K_bestReference 113 = .ok (.goto (-69), 3) := by decide +kernel
theorem d_K_bestReference_116 : decode c_K_bestReference 116 = .ok (.iload_n 3, 1) := by decide +kernel
theorem d_K_bestReference_117 : decode c_K_bestReference 117 = .ok (.ireturn, 1) := by decide +kernel
theorem d_K_mayBeReferredTo_0 : decode c_K_mayBeReferredTo 0 = .ok (.aload_n 0, 1) := by decide +kernel
theorem d_K_mayBeReferredTo_1 : decode c_K_mayBeReferredTo 1 = .ok (.getfield 21, 3) := by decide +kernel
theorem d_K_mayBeReferredTo_4 : decode c_K_mayBeReferredTo 4 = .ok (.iload_n 1, 1) := by decide +kernel
theorem d_K_mayBeReferredTo_5 : decode c_K_mayBeReferredTo 5 = .ok (.iaload, 1) := by decide +kernel
theorem d_K_mayBeReferredTo_6 : decode c_K_mayBeReferredTo 6 = .ok (.ifCond .eq 23, 3) := by decide +kernel
theorem d_K_mayBeReferredTo_9 : decode c_K_mayBeReferredTo 9 = .ok (.aload_n 0, 1) := by decide +kernel
theorem d_K_mayBeReferredTo_10 : decode c_K_mayBeReferredTo 10 = .ok (.getfield 32, 3) := by decide +kernel
theorem d_K_mayBeReferredTo_13 : decode c_K_mayBeReferredTo 13 = .ok (.iload_n 1, 1) := by decide +kernel
theorem d_K_mayBeReferredTo_14 : decode c_K_mayBeReferredTo 14 = .ok (.iaload, 1) := by decide +kernel
theorem d_K_mayBeReferredTo_15 : decode c_K_mayBeReferredTo 15 = .ok (.aload_n 0, 1) := by decide +kernel
theorem d_K_mayBeReferredTo_16 : decode c_K_mayBeReferredTo 16 = .ok (.getfield 24, 3) := by decide +kernel
theorem d_K_mayBeReferredTo_19 : decode c_K_mayBeReferredTo 19 = .ok (.getfield 67, 3) := by decide +kernel
theorem d_K_mayBeReferredTo_22 : decode c_K_mayBeReferredTo 22 = .ok (.if_icmp .ge 7, 3) := by decide +kernel
theorem d_K_mayBeReferredTo_25 : decode c_K_mayBeReferredTo 25 = .ok (.iconst 1, 1) := by decide +kernel
theorem d_K_mayBeReferredTo_26 : decode c_K_mayBeReferredTo 26 = .ok (.goto 4, 3) := by decide +kernel
theorem d_K_mayBeReferredTo_29 : decode c_K_mayBeReferredTo 29 = .ok (.iconst 0, 1) := by decide +kernel
theorem d_K_mayBeReferredTo_30 : decode c_K_mayBeReferredTo 30 = .ok (.ireturn, 1) := by decide +kernel
theorem d_K_writeRecord_0 : decode c_K_writeRecord 0 = .ok (.aload_n 0, 1) := by decide +kernel
theorem d_K_writeRecord_1 : decode c_K_writeRecord 1 = .ok (.getfield 21, 3) := by decide +kernel
theorem d_K_writeRecord_4 : decode c_K_writeRecord 4 = .ok (.iload_n 1, 1) := by decide +kernel
theorem d_K_writeRecord_5 : decode c_K_writeRecord 5 = .ok (.iaload, 1) := by decide +kernel
theorem d_K_writeRecord_6 : decode c_K_writeRecord 6 = .ok (.istore_n 3, 1) := by decide +kernel
theorem d_K_writeRecord_7 : decode c_K_writeRecord 7 = .ok (.aload_n 0, 1) := by decide +kernel
theorem d_K_writeRecord_8 : decode c_K_writeRecord 8 = .ok (.getfield 28, 3) := by decide +kernel
theorem d_K_writeRecord_11 : decode c_K_writeRecord 11 = .ok (.iload_n 3, 1) := by decide +kernel
theorem d_K_writeRecord_12 : decode c_K_writeRecord 12 = .ok (.invokestatic 70, 3) := by decide +kernel
theorem d_K_writeRecord_15 : decode c_K_writeRecord 15 = .ok (.invokevirtual 75, 3) := by decide +kernel
theorem d_K_writeRecord_18 : decode c_K_writeRecord 18 = .ok (.iload_n 3, 1) := by decide +kernel
theorem d_K_writeRecord_19 : decode c_K_writeRecord 19 = .ok (.ifCond .eq 21, 3) := by decide +kernel
theorem d_K_writeRecord_22 : decode c_K_writeRecord 22 = .ok (.aload_n 0, 1) := by decide +kernel
theorem d_K_writeRecord_23 : decode c_K_writeRecord 23 = .ok (.getfield 24, 3) := by decide +kernel
theorem d_K_writeRecord_26 : decode c_K_writeRecord 26 = .ok (.getfield 54, 3) := by decide +kernel
theorem d_K_writeRecord_29 : decode c_K_writeRecord 29 = .ok (.ifCond .le 11, 3) := by decide +kernel
theorem d_K_writeRecord_32 : decode c_K_writeRecord 32 = .ok (.aload_n 0, 1) := by decide +kernel
theorem d_K_writeRecord_33 : decode c_K_writeRecord 33 = .ok (.getfield 28, 3) := by decide +kernel
theorem d_K_writeRecord_36 : decode c_K_writeRecord 36 = .ok (.iload_n 2, 1) := by decide +kernel
theorem d_K_writeRecord_37 : decode c_K_writeRecord 37 = .ok (.invokevirtual 79, 3) := by decide +kernel
theorem d_K_writeRecord_40 : decode c_K_writeRecord 40 = .ok (.iload_n 2, 1) := by decide +kernel
theorem d_K_writeRecord_41 : decode c_K_writeRecord 41 = .ok (.ifCond .le 29, 3) := by decide +kernel
theorem d_K_writeRecord_44 : decode c_K_writeRecord 44 = .ok (.aload_n 0, 1) := by decide +kernel
theorem d_K_writeRecord_45 : decode c_K_writeRecord 45 = .ok (.iload_n 3, 1) := by decide +kernel
theorem d_K_writeRecord_46 : decode c_K_writeRecord 46 = .ok (.aload_n 0, 1) := by decide +kernel
theorem d_K_writeRecord_47 : decode c_K_writeRecord 47 = .ok (.getfield 21, 3) := by decide +kernel
theorem d_K_writeRecord_50 : decode c_K_writeRecord 50 = .ok (.iload_n 1, 1) := by decide +kernel
theorem d_K_writeRecord_51 : decode c_K_writeRecord 51 = .ok (.iload_n 2, 1) := by decide +kernel
theorem d_K_writeRecord_52 : decode c_K_writeRecord 52 = .ok (.isub, 1) := by decide +kernel
theorem d_K_writeRecord_53 : decode c_K_writeRecord 53 = .ok (.iaload, 1) := by decide +kernel
theorem d_K_writeRecord_54 : decode c_K_writeRecord 54 = .ok (.invokevirtual 82, 3) := by decide +kernel
theorem d_K_writeRecord_57 : decode c_K_writeRecord 57 = .ok (.iload_n 3, 1) := by decide +kernel
theorem d_K_writeRecord_58 : decode c_K_writeRecord 58 = .ok (.aload_n 0, 1) := by decide +kernel
theorem d_K_writeRecord_59 : decode c_K_writeRecord 59 = .ok (.getfield 21, 3) := by decide +kernel
theorem d_K_writeRecord_62 : decode c_K_writeRecord 62 = .ok (.iload_n 1, 1) := by decide +kernel
theorem d_K_writeRecord_63 : decode c_K_writeRecord 63 = .ok (.iload_n 2, 1) := by decide +kernel
theorem d_K_writeRecord_64 : decode c_K_writeRecord 64 = .ok (.isub, 1) := by decide +kernel
theorem d_K_writeRecord_65 : decode c_K_writeRecord 65 = .ok (.iaload, 1) := by decide +kernel
theorem d_K_writeRecord_66 : decode c_K_writeRecord 66 = .ok (.iconst (-1), 1) := by decide +kernel
theorem d_K_writeRecord_67 : decode c_K_writeRecord 67 = .ok (.ixor, 1) := by decide +kernel
theorem d_K_writeRecord_68 : decode c_K_writeRecord 68 = .ok (.iand, 1) := by decide +kernel
theorem d_K_writeRecord_69 : decode c_K_writeRecord 69 = .ok (.istore_n 3, 1) := by decide +kernel
theorem d_K_writeRecord_70 : decode c_K_writeRecord 70 = .ok (.iload_n 3, 1) := by decide +kernel
theorem d_K_writeRecord_71 : decode c_K_writeRecord 71 = .ok (.ifCond .eq 20, 3) := by decide +kernel
theorem d_K_writeRecord_74 : decode c_K_writeRecord 74 = .ok (.aload_n 0, 1) := by decide +kernel
theorem d_K_writeRecord_75 : decode c_K_writeRecord 75 = .ok (.getfield 24, 3) := by decide +kernel
theorem d_K_writeRecord_78 : decode c_K_writeRecord 78 = .ok (.getfield 85, 3) := by decide +kernel
theorem d_K_writeRecord_81 : decode c_K_writeRecord 81 = .ok (.ifCond .le 10, 3) := by decide +kernel
theorem d_K_writeRecord_84 : decode c_K_writeRecord 84 = .ok (.aload_n 0, 1) := by decide +kernel
theorem d_K_writeRecord_85 : decode c_K_writeRecord 85 = .ok (.iload_n 1, 1) := by decide +kernel
theorem d_K_writeRecord_86 : decode c_K_writeRecord 86 = .ok (.iload_n 3, 1) := by decide +kernel
theorem d_K_writeRecord_87 : decode c_K_writeRecord 87 = .ok (.invokevirtual 88, 3) := by decide +kernel
theorem d_K_writeRecord_90 : decode c_K_writeRecord 90 = .ok (.istore_n 3, 1) := by decide +kernel
theorem d_K_writeRecord_91 : decode c_K_writeRecord 91 = .ok (.aload_n 0, 1) := by decide +kernel
theorem d_K_writeRecord_92 : decode c_K_writeRecord 92 = .ok (.iload_n 1, 1) := by decide +kernel
theorem d_K_writeRecord_93 : decode c_K_writeRecord 93 = .ok (.iload_n 3, 1) := by decide +kernel
theorem d_K_writeRecord_94 : decode c_K_writeRecord 94 = .ok (.invokevirtual 91, 3) := by decide +kernel
theorem d_K_writeRecord_97 : decode c_K_writeRecord 97 = .ok (.return_, 1) := by decide +kernel
theorem d_K_writeRuns_0 : decode c_K_writeRuns 0 = .ok (.iconst 0, 1) := by decide +kernel
theorem d_K_writeRuns_1 : decode c_K_writeRuns 1 = .ok (.istore_n 3, 1) := by decide +kernel
theorem d_K_writeRuns_2 : decode c_K_writeRuns 2 = .ok (.iconst 1, 1) := by decide +kernel
theorem d_K_writeRuns_3 : decode c_K_writeRuns 3 = .ok (.istore 4, 2) := by decide +kernel
theorem d_K_writeRuns_5 : decode c_K_writeRuns 5 = .ok (.aload_n 0, 1) := by decide +kernel
theorem d_K_writeRuns_6 : decode c_K_writeRuns 6 = .ok (.getfield 9, 3) := by decide +kernel
theorem d_K_writeRuns_9 : decode c_K_writeRuns 9 = .ok (.iconst 0, 1) := by decide +kernel
theorem d_K_writeRuns_10 : decode c_K_writeRuns 10 = .ok (.iconst 0, 1) := by decide +kernel
theorem d_K_writeRuns_11 : decode c_K_writeRuns 11 = .ok (.iastore, 1) := by decide +kernel
theorem d_K_writeRuns_12 : decode c_K_writeRuns 12 = .ok (.iconst 0, 1) := by decide +kernel
theorem d_K_writeRuns_13 : decode c_K_writeRuns 13 = .ok (.istore 5, 2) := by decide +kernel
theorem d_K_writeRuns_15 : decode c_K_writeRuns 15 = .ok (.iload 5, 2) := by decide +kernel
theorem d_K_writeRuns_17 : decode c_K_writeRuns 17 = .ok (.aload_n 0, 1) := by decide +kernel
theorem d_K_writeRuns_18 : decode c_K_writeRuns 18 = .ok (.getfield 21, 3) := by decide +kernel
theorem d_K_writeRuns_21 : decode c_K_writeRuns 21 = .ok (.arraylength, 1) := by decide +kernel
theorem d_K_writeRuns_22 : decode c_K_writeRuns 22 = .ok (.if_icmp .ge 61, 3) := by decide +kernel
theorem d_K_writeRuns_25 : decode c_K_writeRuns 25 = .ok (.iload_n 2, 1) := by decide +kernel
theorem d_K_writeRuns_26 : decode c_K_writeRuns 26 = .ok (.iload 5, 2) := by decide +kernel
theorem d_K_writeRuns_28 : decode c_K_writeRuns 28 = .ok (.invokestatic 94, 3) := by decide +kernel
theorem d_K_writeRuns_31 : decode c_K_writeRuns 31 = .ok (.ifCond .eq 46, 3) := by decide +kernel
theorem d_K_writeRuns_34 : decode c_K_writeRuns 34 = .ok (.iload_n 1, 1) := by decide +kernel
theorem d_K_writeRuns_35 : decode c_K_writeRuns 35 = .ok (.iload 5, 2) := by decide +kernel
theorem d_K_writeRuns_37 : decode c_K_writeRuns 37 = .ok (.invokestatic 94, 3) := by decide +kernel
theorem d_K_writeRuns_40 : decode c_K_writeRuns 40 = .ok (.iload 4, 2) := by decide +kernel
theorem d_K_writeRuns_42 : decode c_K_writeRuns 42 = .ok (.if_icmp .eq 25, 3) := by decide +kernel
theorem d_K_writeRuns_45 : decode c_K_writeRuns 45 = .ok (.iload 4, 2) := by decide +kernel
theorem d_K_writeRuns_47 : decode c_K_writeRuns 47 = .ok (.ifCond .ne 7, 3) := by decide +kernel
theorem d_K_writeRuns_50 : decode c_K_writeRuns 50 = .ok (.iconst 1, 1) := by decide +kernel
theorem d_K_writeRuns_51 : decode c_K_writeRuns 51 = .ok (.goto 4, 3) := by decide +kernel
theorem d_K_writeRuns_54 : decode c_K_writeRuns 54 = .ok (.iconst 0, 1) := by decide +kernel
theorem d_K_writeRuns_55 : decode c_K_writeRuns 55 = .ok (.istore 4, 2) := by decide +kernel
theorem d_K_writeRuns_57 : decode c_K_writeRuns 57 = .ok (.iinc 3 1, 3) := by decide +kernel
theorem d_K_writeRuns_60 : decode c_K_writeRuns 60 = .ok (.aload_n 0, 1) := by decide +kernel
theorem d_K_writeRuns_61 : decode c_K_writeRuns 61 = .ok (.getfield 9, 3) := by decide +kernel
theorem d_K_writeRuns_64 : decode c_K_writeRuns 64 = .ok (.iload_n 3, 1) := by decide +kernel
theorem d_K_writeRuns_65 : decode c_K_writeRuns 65 = .ok (.iconst 0, 1) := by decide +kernel
theorem d_K_writeRuns_66 : decode c_K_writeRuns 66 = .ok (.iastore, 1) := by decide +kernel
theorem d_K_writeRuns_67 : decode c_K_writeRuns 67 = .ok (.aload_n 0, 1) := by decide +kernel
theorem d_K_writeRuns_68 : decode c_K_writeRuns 68 = .ok (.getfield 9, 3) := by decide +kernel
theorem d_K_writeRuns_71 : decode c_K_writeRuns 71 = .ok (.iload_n 3, 1) := by decide +kernel
theorem d_K_writeRuns_72 : decode c_K_writeRuns 72 = .ok (.dup2, 1) := by decide +kernel
theorem d_K_writeRuns_73 : decode c_K_writeRuns 73 = .ok (.iaload, 1) := by decide +kernel
theorem d_K_writeRuns_74 : decode c_K_writeRuns 74 = .ok (.iconst 1, 1) := by decide +kernel
theorem d_K_writeRuns_75 : decode c_K_writeRuns 75 = .ok (.iadd, 1) := by decide +kernel
theorem d_K_writeRuns_76 : decode c_K_writeRuns 76 = .ok (.iastore, 1) := by decide +kernel
theorem d_K_writeRuns_77 : decode c_K_writeRuns 77 = .ok (.iinc 5 1, 3) := by decide +kernel
theorem d_K_writeRuns_80 : decode c_K_writeRuns 80 = .ok (.goto (-65), 3) := by decide +kernel
theorem d_K_writeRuns_83 : decode c_K_writeRuns 83 = .ok (.aload_n 0, 1) := by decide +kernel
theorem d_K_writeRuns_84 : decode c_K_writeRuns 84 = .ok (.getfield 28, 3) := by decide +kernel
theorem d_K_writeRuns_87 : decode c_K_writeRuns 87 = .ok (.iload_n 3, 1) := by decide +kernel
theorem d_K_writeRuns_88 : decode c_K_writeRuns 88 = .ok (.invokevirtual 75, 3) := by decide +kernel
theorem d_K_writeRuns_91 : decode c_K_writeRuns 91 = .ok (.iconst 0, 1) := by decide +kernel
theorem d_K_writeRuns_92 : decode c_K_writeRuns 92 = .ok (.istore 5, 2) := by decide +kernel
theorem d_K_writeRuns_94 : decode c_K_writeRuns 94 = .ok (.iload 5, 2) := by decide +kernel
theorem d_K_writeRuns_96 : decode c_K_writeRuns 96 = .ok (.iload_n 3, 1) := by decide +kernel
theorem d_K_writeRuns_97 : decode c_K_writeRuns 97 = .ok (.if_icmp .ge 40, 3) := by decide +kernel
theorem d_K_writeRuns_100 : decode c_K_writeRuns 100 = .ok (.aload_n 0, 1) := by decide +kernel
theorem d_K_writeRuns_101 : decode c_K_writeRuns 101 = .ok (.getfield 28, 3) := by decide +kernel
theorem d_K_writeRuns_104 : decode c_K_writeRuns 104 = .ok (.iload 5, 2) := by decide +kernel
theorem d_K_writeRuns_106 : decode c_K_writeRuns 106 = .ok (.ifCond .ne 13, 3) := by decide +kernel
theorem d_K_writeRuns_109 : decode c_K_writeRuns 109 = .ok (.aload_n 0, 1) := by decide +kernel
theorem d_K_writeRuns_110 : decode c_K_writeRuns 110 = .ok (.getfield 9, 3) := by decide +kernel
theorem d_K_writeRuns_113 : decode c_K_writeRuns 113 = .ok (.iload 5, 2) := by decide +kernel
theorem d_K_writeRuns_115 : decode c_K_writeRuns 115 = .ok (.iaload, 1) := by decide +kernel
theorem d_K_writeRuns_116 : decode c_K_writeRuns 116 = .ok (.goto 12, 3) := by decide +kernel
theorem d_K_writeRuns_119 : decode c_K_writeRuns 119 = .ok (.aload_n 0, 1) := by decide +kernel
theorem d_K_writeRuns_120 : decode c_K_writeRuns 120 = .ok (.getfield 9, 3) := by decide +kernel
theorem d_K_writeRuns_123 : decode c_K_writeRuns 123 = .ok (.iload 5, 2) := by decide +kernel
theorem d_K_writeRuns_125 : decode c_K_writeRuns 125 = .ok (.iaload, 1) := by decide +kernel
theorem d_K_writeRuns_126 : decode c_K_writeRuns 126 = .ok (.iconst 1, 1) := by decide +kernel
theorem d_K_writeRuns_127 : decode c_K_writeRuns 127 = .ok (.isub, 1) := by decide +kernel
theorem d_K_writeRuns_128 : decode c_K_writeRuns 128 = .ok (.invokevirtual 75, 3) := by decide +kernel
theorem d_K_writeRuns_131 : decode c_K_writeRuns 131 = .ok (.iinc 5 1, 3) := by decide +kernel
theorem d_K_writeRuns_134 : decode c_K_writeRuns 134 = .ok (.goto (-40), 3) := by decide +kernel
theorem d_K_writeRuns_137 : decode c_K_writeRuns 137 = .ok (.return_, 1) := by decide +kernel
theorem d_K_writeIntervals_0 : decode c_K_writeIntervals 0 = .ok (.iconst 0, 1) := by decide +kernel
theorem d_K_writeIntervals_1 : decode c_K_writeIntervals 1 = .ok (.istore_n 3, 1) := by decide +kernel
theorem d_K_writeIntervals_2 : decode c_K_writeIntervals 2 = .ok (.iload_n 2, 1) := by decide +kernel
theorem d_K_writeIntervals_3 : decode c_K_writeIntervals 3 = .ok (.istore 4, 2) := by decide +kernel
theorem d_K_writeIntervals_5 : decode c_K_writeIntervals 5 = .ok (.iconst 0, 1) := by decide +kernel
theorem d_K_writeIntervals_6 : decode c_K_writeIntervals 6 = .ok (.istore 5, 2) := by decide +kernel
theorem d_K_writeIntervals_8 : decode c_K_writeIntervals 8 = .ok (.iload 5, 2) := by decide +kernel
theorem d_K_writeIntervals_10 : decode c_K_writeIntervals 10 = .ok (.aload_n 0, 1) := by decide +kernel
theorem d_K_writeIntervals_11 : decode c_K_writeIntervals 11 = .ok (.getfield 21, 3) := by decide +kernel
theorem d_K_writeIntervals_14 : decode c_K_writeIntervals 14 = .ok (.arraylength, 1) := by decide +kernel
theorem d_K_writeIntervals_15 : decode c_K_writeIntervals 15 = .ok (.if_icmp .ge 76, 3) := by decide +kernel
theorem d_K_writeIntervals_18 : decode c_K_writeIntervals 18 = .ok (.aload_n 0, 1) := by decide +kernel
theorem d_K_writeIntervals_19 : decode c_K_writeIntervals 19 = .ok (.iload_n 2, 1) := by decide +kernel
theorem d_K_writeIntervals_20 : decode c_K_writeIntervals 20 = .ok (.iload 5, 2) := by decide +kernel
theorem d_K_writeIntervals_22 : decode c_K_writeIntervals 22 = .ok (.invokevirtual 98, 3) := by decide +kernel
theorem d_K_writeIntervals_25 : decode c_K_writeIntervals 25 = .ok (.istore 6, 2) := by decide +kernel
theorem d_K_writeIntervals_27 : decode c_K_writeIntervals 27 = .ok (.iload 6, 2) := by decide +kernel
theorem d_K_writeIntervals_29 : decode c_K_writeIntervals 29 = .ok (.aload_n 0, 1) := by decide +kernel
theorem d_K_writeIntervals_30 : decode c_K_writeIntervals 30 = .ok (.getfield 24, 3) := by decide +kernel
theorem d_K_writeIntervals_33 : decode c_K_writeIntervals 33 = .ok (.getfield 85, 3) := by decide +kernel
theorem d_K_writeIntervals_36 : decode c_K_writeIntervals 36 = .ok (.if_icmp .lt 38, 3) := by decide +kernel
theorem d_K_writeIntervals_39 : decode c_K_writeIntervals 39 = .ok (.aload_n 0, 1) := by decide +kernel
theorem d_K_writeIntervals_40 : decode c_K_writeIntervals 40 = .ok (.getfield 15, 3) := by decide +kernel
theorem d_K_writeIntervals_43 : decode c_K_writeIntervals 43 = .ok (.iload_n 3, 1) := by decide +kernel
theorem d_K_writeIntervals_44 : decode c_K_writeIntervals 44 = .ok (.iload 5, 2) := by decide +kernel
theorem d_K_writeIntervals_46 : decode c_K_writeIntervals 46 = .ok (.iastore, 1) := by decide +kernel
theorem d_K_writeIntervals_47 : decode c_K_writeIntervals 47 = .ok (.aload_n 0, 1) := by decide +kernel
theorem d_K_writeIntervals_48 : decode c_K_writeIntervals 48 = .ok (.getfield 18, 3) := by decide +kernel
theorem d_K_writeIntervals_51 : decode c_K_writeIntervals 51 = .ok (.iload_n 3, 1) := by decide +kernel
theorem d_K_writeIntervals_52 : decode c_K_writeIntervals 52 = .ok (.iload 6, 2) := by decide +kernel
theorem d_K_writeIntervals_54 : decode c_K_writeIntervals 54 = .ok (.iastore, 1) := by decide +kernel
theorem d_K_writeIntervals_55 : decode c_K_writeIntervals 55 = .ok (.iinc 3 1, 3) := by decide +kernel
theorem d_K_writeIntervals_58 : decode c_K_writeIntervals 58 = .ok (.iload 4, 2) := by decide +kernel
theorem d_K_writeIntervals_60 : decode c_K_writeIntervals 60 = .ok (.iconst 1, 1) := by decide +kernel
theorem d_K_writeIntervals_61 : decode c_K_writeIntervals 61 = .ok (.iload 6, 2) := by decide +kernel
theorem d_K_writeIntervals_63 : decode c_K_writeIntervals 63 = .ok (.ishl, 1) := by decide +kernel
theorem d_K_writeIntervals_64 : decode c_K_writeIntervals 64 = .ok (.iconst 1, 1) := by decide +kernel
theorem d_K_writeIntervals_65 : decode c_K_writeIntervals 65 = .ok (.isub, 1) := by decide +kernel
theorem d_K_writeIntervals_66 : decode c_K_writeIntervals 66 = .ok (.iload 5, 2) := by decide +kernel
theorem d_K_writeIntervals_68 : decode c_K_writeIntervals 68 = .ok (.ishl, 1) := by decide +kernel
theorem d_K_writeIntervals_69 : decode c_K_writeIntervals 69 = .ok (.iconst (-1), 1) := by decide +kernel
theorem d_K_writeIntervals_70 : decode c_K_writeIntervals 70 = .ok (.ixor, 1) := by decide +kernel
theorem d_K_writeIntervals_71 : decode c_K_writeIntervals 71 = .ok (.iand, 1) := by decide +kernel
theorem d_K_writeIntervals_72 : decode c_K_writeIntervals 72 = .ok (.istore 4, 2) := by decide +kernel
theorem d_K_writeIntervals_74 : decode c_K_writeIntervals 74 = .ok (.iload 5, 2) := by decide +kernel
theorem d_K_writeIntervals_76 : decode c_K_writeIntervals 76 = .ok (.aload_n 0, 1) := by decide +kernel
theorem d_K_writeIntervals_77 : decode c_K_writeIntervals 77 = .ok (.iload_n 2, 1) := by decide +kernel
theorem d_K_writeIntervals_78 : decode c_K_writeIntervals 78 = .ok (.iload 5, 2) := by decide +kernel
theorem d_K_writeIntervals_80 : decode c_K_writeIntervals 80 = .ok (.invokevirtual 98, 3) := by decide +kernel
theorem d_K_writeIntervals_83 : decode c_K_writeIntervals 83 = .ok (.iconst 1, 1) := by decide +kernel
theorem d_K_writeIntervals_84 : decode c_K_writeIntervals 84 = .ok (.iadd, 1) := by decide +kernel
theorem d_K_writeIntervals_85 : decode c_K_writeIntervals 85 = .ok (.iadd, 1) := by decide +kernel
theorem d_K_writeIntervals_86 : decode c_K_writeIntervals 86 = .ok (.istore 5, 2) := by decide +kernel
theorem d_K_writeIntervals_88 : decode c_K_writeIntervals 88 = .ok (.goto (-80), 3) := by decide +kernel
theorem d_K_writeIntervals_91 : decode c_K_writeIntervals 91 = .ok (.aload_n 0, 1) := by decide +kernel
theorem d_K_writeIntervals_92 : decode c_K_writeIntervals 92 = .ok (.getfield 28, 3) := by decide +kernel
theorem d_K_writeIntervals_95 : decode c_K_writeIntervals 95 = .ok (.iload_n 3, 1) := by decide +kernel
theorem d_K_writeIntervals_96 : decode c_K_writeIntervals 96 = .ok (.invokevirtual 75, 3) := by decide +kernel
theorem d_K_writeIntervals_99 : decode c_K_writeIntervals 99 = .ok (.iconst 0, 1) := by decide +kernel
theorem d_K_writeIntervals_100 : decode c_K_writeIntervals 100 = .ok (.istore 5, 2) := by decide +kernel
theorem d_K_writeIntervals_102 : decode c_K_writeIntervals 102 = .ok (.iconst 0, 1) := by decide +kernel
theorem d_K_writeIntervals_103 : decode c_K_writeIntervals 103 = .ok (.istore 6, 2) := by decide +kernel
theorem d_K_writeIntervals_105 : decode c_K_writeIntervals 105 = .ok (.iload 6, 2) := by decide +kernel
theorem d_K_writeIntervals_107 : decode c_K_writeIntervals 107 = .ok (.iload_n 3, 1) := by decide +kernel
theorem d_K_writeIntervals_108 : decode c_K_writeIntervals 108 = .ok (.if_icmp .ge 89, 3) := by decide +kernel
theorem d_K_writeIntervals_111 : decode c_K_writeIntervals 111 = .ok (.aload_n 0, 1) := by decide +kernel
theorem d_K_writeIntervals_112 : decode c_K_writeIntervals 112 = .ok (.getfield 28, 3) := by decide +kernel
theorem d_K_writeIntervals_115 : decode c_K_writeIntervals 115 = .ok (.iload 6, 2) := by decide +kernel
theorem d_K_writeIntervals_117 : decode c_K_writeIntervals 117 = .ok (.ifCond .ne 18, 3) := by decide +kernel
theorem d_K_writeIntervals_120 : decode c_K_writeIntervals 120 = .ok (.aload_n 0, 1) := by decide +kernel
theorem d_K_writeIntervals_121 : decode c_K_writeIntervals 121 = .ok (.getfield 15, 3) := by decide +kernel
theorem d_K_writeIntervals_124 : decode c_K_writeIntervals 124 = .ok (.iload 6, 2) := by decide +kernel
theorem d_K_writeIntervals_126 : decode c_K_writeIntervals 126 = .ok (.iaload, 1) := by decide +kernel
theorem d_K_writeIntervals_127 : decode c_K_writeIntervals 127 = .ok (.iload_n 1, 1) := by decide +kernel
theorem d_K_writeIntervals_128 : decode c_K_writeIntervals 128 = .ok (.isub, 1) := by decide +kernel
theorem d_K_writeIntervals_129 : decode c_K_writeIntervals 129 = .ok (.invokestatic 101, 3) := by decide +kernel
theorem d_K_writeIntervals_132 : decode c_K_writeIntervals 132 = .ok (.goto 15, 3) := by decide +kernel
theorem d_K_writeIntervals_135 : decode c_K_writeIntervals 135 = .ok (.aload_n 0, 1) := by decide +kernel
theorem d_K_writeIntervals_136 : decode c_K_writeIntervals 136 = .ok (.getfield 15, 3) := by decide +kernel
theorem d_K_writeIntervals_139 : decode c_K_writeIntervals 139 = .ok (.iload 6, 2) := by decide +kernel
theorem d_K_writeIntervals_141 : decode c_K_writeIntervals 141 = .ok (.iaload, 1) := by decide +kernel
theorem d_K_writeIntervals_142 : decode c_K_writeIntervals 142 = .ok (.iload 5, 2) := by decide +kernel
theorem d_K_writeIntervals_144 : decode c_K_writeIntervals 144 = .ok (.isub, 1) := by decide +kernel
theorem d_K_writeIntervals_145 : decode c_K_writeIntervals 145 = .ok (.iconst 2, 1) := by decide +kernel
theorem d_K_writeIntervals_146 : decode c_K_writeIntervals 146 = .ok (.isub, 1) := by decide +kernel
theorem d_K_writeIntervals_147 : decode c_K_writeIntervals 147 = .ok (.invokevirtual 75, 3) := by decide +kernel
theorem d_K_writeIntervals_150 : decode c_K_writeIntervals 150 = .ok (.aload_n 0, 1) := by decide +kernel
theorem d_K_writeIntervals_151 : decode c_K_writeIntervals 151 = .ok (.getfield 28, 3) := by decide +kernel
theorem d_K_writeIntervals_154 : decode c_K_writeIntervals 154 = .ok (.aload_n 0, 1) := by decide +kernel
theorem d_K_writeIntervals_155 : decode c_K_writeIntervals 155 = .ok (.getfield 18, 3) := by decide +kernel
theorem d_K_writeIntervals_158 : decode c_K_writeIntervals 158 = .ok (.iload 6, 2) := by decide +kernel
theorem d_K_writeIntervals_160 : decode c_K_writeIntervals 160 = .ok (.iaload, 1) := by decide +kernel
theorem d_K_writeIntervals_161 : decode c_K_writeIntervals 161 = .ok (.aload_n 0, 1) := by decide +kernel
theorem d_K_writeIntervals_162 : decode c_K_writeIntervals 162 = .ok (.getfield 24, 3) := by decide +kernel
theorem d_K_writeIntervals_165 : decode c_K_writeIntervals 165 = .ok (.getfield 85, 3) := by decide +kernel
theorem d_K_writeIntervals_168 : decode c_K_writeIntervals 168 = .ok (.isub, 1) := by decide +kernel
theorem d_K_writeIntervals_169 : decode c_K_writeIntervals 169 = .ok (.invokevirtual 75, 3) := by decide +kernel
theorem d_K_writeIntervals_172 : decode c_K_writeIntervals 172 = .ok (.aload_n 0, 1) := by decide +kernel
theorem d_K_writeIntervals_173 : decode c_K_writeIntervals 173 = .ok (.getfield 15, 3) := by decide +kernel
theorem d_K_writeIntervals_176 : decode c_K_writeIntervals 176 = .ok (.iload 6, 2) := by decide +kernel
theorem d_K_writeIntervals_178 : decode c_K_writeIntervals 178 = .ok (.iaload, 1) := by decide +kernel
theorem d_K_writeIntervals_179 : decode c_K_writeIntervals 179 = .ok (.aload_n 0, 1) := by decide +kernel
theorem d_K_writeIntervals_180 : decode c_K_writeIntervals 180 = .ok (.getfield 18, 3) := by decide +kernel
theorem d_K_writeIntervals_183 : decode c_K_writeIntervals 183 = .ok (.iload 6, 2) := by decide +kernel
theorem d_K_writeIntervals_185 : decode c_K_writeIntervals 185 = .ok (.iaload, 1) := by decide +kernel
theorem d_K_writeIntervals_186 : decode c_K_writeIntervals 186 = .ok (.iadd, 1) := by decide +kernel
theorem d_K_writeIntervals_187 : decode c_K_writeIntervals 187 = .ok (.iconst 1, 1) := by decide +kernel
theorem d_K_writeIntervals_188 : decode c_K_writeIntervals 188 = .ok (.isub, 1) := by decide +kernel
theorem d_K_writeIntervals_189 : decode c_K_writeIntervals 189 = .ok (.istore 5, 2) := by decide +kernel
theorem d_K_writeIntervals_191 : decode c_K_writeIntervals 191 = .ok (.iinc 6 1, 3) := by decide +kernel
theorem d_K_writeIntervals_194 : decode c_K_writeIntervals 194 = .ok (.goto (-89), 3) := by decide +kernel
theorem d_K_writeIntervals_197 : decode c_K_writeIntervals 197 = .ok (.iload 4, 2) := by decide +kernel
theorem d_K_writeIntervals_199 : decode c_K_writeIntervals 199 = .ok (.ireturn, 1) := by decide +kernel
theorem d_K_rowLength_0 : decode c_K_rowLength 0 = .ok (.iconst 0, 1) := by decide +kernel
theorem d_K_rowLength_1 : decode c_K_rowLength 1 = .ok (.istore_n 3, 1) := by decide +kernel
theorem d_K_rowLength_2 : decode c_K_rowLength 2 = .ok (.iload_n 2, 1) := by decide +kernel
theorem d_K_rowLength_3 : decode c_K_rowLength 3 = .ok (.iload_n 3, 1) := by decide +kernel
theorem d_K_rowLength_4 : decode c_K_rowLength 4 = .ok (.iadd, 1) := by decide +kernel
theorem d_K_rowLength_5 : decode c_K_rowLength 5 = .ok (.aload_n 0, 1) := by decide +kernel
theorem d_K_rowLength_6 : decode c_K_rowLength 6 = .ok (.getfield 21, 3) := by decide +kernel
theorem d_K_rowLength_9 : decode c_K_rowLength 9 = .ok (.arraylength, 1) := by decide +kernel
theorem d_K_rowLength_10 : decode c_K_rowLength 10 = .ok (.if_icmp .ge 19, 3) := by decide +kernel
theorem d_K_rowLength_13 : decode c_K_rowLength 13 = .ok (.iload_n 1, 1) := by decide +kernel
theorem d_K_rowLength_14 : decode c_K_rowLength 14 = .ok (.iload_n 2, 1) := by decide +kernel
theorem d_K_rowLength_15 : decode c_K_rowLength 15 = .ok (.iload_n 3, 1) := by decide +kernel
theorem d_K_rowLength_16 : decode c_K_rowLength 16 = .ok (.iadd, 1) := by decide +kernel
theorem d_K_rowLength_17 : decode c_K_rowLength 17 = .ok (.invokestatic 94, 3) := by decide +kernel
theorem d_K_rowLength_20 : decode c_K_rowLength 20 = .ok (.ifCond .eq 9, 3) := by decide +kernel
theorem d_K_rowLength_23 : decode c_K_rowLength 23 = .ok (.iinc 3 1, 3) := by decide +kernel
theorem d_K_rowLength_26 : decode c_K_rowLength 26 = .ok (.goto (-24), 3) := by decide +kernel
theorem d_K_rowLength_29 : decode c_K_rowLength 29 = .ok (.iload_n 3, 1) := by decide +kernel
theorem d_K_rowLength_30 : decode c_K_rowLength 30 = .ok (.ireturn, 1) := by decide +kernel
theorem d_K_writeSingles_0 : decode c_K_writeSingles 0 = .ok (.iconst (-1), 1) := by decide +kernel
theorem d_K_writeSingles_1 : decode c_K_writeSingles 1 = .ok (.istore_n 3, 1) := by decide +kernel
theorem d_K_writeSingles_2 : decode c_K_writeSingles 2 = .ok (.iconst 0, 1) := by decide +kernel
theorem d_K_writeSingles_3 : decode c_K_writeSingles 3 = .ok (.istore 4, 2) := by decide +kernel
theorem d_K_writeSingles_5 : decode c_K_writeSingles 5 = .ok (.iload 4, 2) := by decide +kernel
theorem d_K_writeSingles_7 : decode c_K_writeSingles 7 = .ok (.aload_n 0, 1) := by decide +kernel
theorem d_K_writeSingles_8 : decode c_K_writeSingles 8 = .ok (.getfield 21, 3) := by decide +kernel
theorem d_K_writeSingles_11 : decode c_K_writeSingles 11 = .ok (.arraylength, 1) := by decide +kernel
theorem d_K_writeSingles_12 : decode c_K_writeSingles 12 = .ok (.if_icmp .ge 55, 3) := by decide +kernel
theorem d_K_writeSingles_15 : decode c_K_writeSingles 15 = .ok (.iload_n 2, 1) := by decide +kernel
theorem d_K_writeSingles_16 : decode c_K_writeSingles 16 = .ok (.iload 4, 2) := by decide +kernel
theorem d_K_writeSingles_18 : decode c_K_writeSingles 18 = .ok (.invokestatic 94, 3) := by decide +kernel
theorem d_K_writeSingles_21 : decode c_K_writeSingles 21 = .ok (.ifCond .eq 40, 3) := by decide +kernel
theorem d_K_writeSingles_24 : decode c_K_writeSingles 24 = .ok (.aload_n 0, 1) := by decide +kernel
theorem d_K_writeSingles_25 : decode c_K_writeSingles 25 = .ok (.getfield 28, 3) := by decide +kernel
theorem d_K_writeSingles_28 : decode c_K_writeSingles 28 = .ok (.iload_n 3, 1) := by decide +kernel
theorem d_K_writeSingles_29 : decode c_K_writeSingles 29 = .ok (.ifCond .ge 13, 3) := by decide +kernel
theorem d_K_writeSingles_32 : decode c_K_writeSingles 32 = .ok (.iload 4, 2) := by decide +kernel
theorem d_K_writeSingles_34 : decode c_K_writeSingles 34 = .ok (.iload_n 1, 1) := by decide +kernel
theorem d_K_writeSingles_35 : decode c_K_writeSingles 35 = .ok (.isub, 1) := by decide +kernel
theorem d_K_writeSingles_36 : decode c_K_writeSingles 36 = .ok (.invokestatic 101, 3) := by decide +kernel
theorem d_K_writeSingles_39 : decode c_K_writeSingles 39 = .ok (.goto 9, 3) := by decide +kernel
theorem d_K_writeSingles_42 : decode c_K_writeSingles 42 = .ok (.iload 4, 2) := by decide +kernel
theorem d_K_writeSingles_44 : decode c_K_writeSingles 44 = .ok (.iload_n 3, 1) := by decide +kernel
theorem d_K_writeSingles_45 : decode c_K_writeSingles 45 = .ok (.isub, 1) := by decide +kernel
theorem d_K_writeSingles_46 : decode c_K_writeSingles 46 = .ok (.iconst 1, 1) := by decide +kernel
theorem d_K_writeSingles_47 : decode c_K_writeSingles 47 = .ok (.isub, 1) := by decide +kernel
theorem d_K_writeSingles_48 : decode c_K_writeSingles 48 = .ok (.aload_n 0, 1) := by decide +kernel
theorem d_K_writeSingles_49 : decode c_K_writeSingles 49 = .ok (.getfield 24, 3) := by decide +kernel
theorem d_K_writeSingles_52 : decode c_K_writeSingles 52 = .ok (.getfield 104, 3) := by decide +kernel
theorem d_K_writeSingles_55 : decode c_K_writeSingles 55 = .ok (.invokevirtual 107, 3) := by decide +kernel
theorem d_K_writeSingles_58 : decode c_K_writeSingles 58 = .ok (.iload 4, 2) := by decide +kernel
theorem d_K_writeSingles_60 : decode c_K_writeSingles 60 = .ok (.istore_n 3, 1) := by decide +kernel
theorem d_K_writeSingles_61 : decode c_K_writeSingles 61 = .ok (.iinc 4 1, 3) := by decide +kernel
theorem d_K_writeSingles_64 : decode c_K_writeSingles 64 = .ok (.goto (-59), 3) := by decide +kernel
theorem d_K_writeSingles_67 : decode c_K_writeSingles 67 = .ok (.return_, 1) := by decide +kernel
theorem d_O_init_0 : decode c_O_init 0 = .ok (.aload_n 0, 1) := by decide +kernel
theorem d_O_init_1 : decode c_O_init 1 = .ok (.invokespecial 3, 3) := by decide +kernel
theorem d_O_init_4 : decode c_O_init 4 = .ok (.aload_n 0, 1) := by decide +kernel
theorem d_O_init_5 : decode c_O_init 5 = .ok (.aload_n 1, 1) := by decide +kernel
theorem d_O_init_6 : decode c_O_init 6 = .ok (.putfield 9, 3) := by decide +kernel
theorem d_O_init_9 : decode c_O_init 9 = .ok (.aload_n 0, 1) := by decide +kernel
theorem d_O_init_10 : decode c_O_init 10 = .ok (.aload_n 1, 1) := by decide +kernel
theorem d_O_init_11 : decode c_O_init 11 = .ok (.arraylength, 1) := by decide +kernel
theorem d_O_init_12 : decode c_O_init 12 = .ok (.newarray .long, 2) := by decide +kernel
theorem d_O_init_14 : decode c_O_init 14 = .ok (.putfield 15, 3) := by decide +kernel
theorem d_O_init_17 : decode c_O_init 17 = .ok (.aload_n 0, 1) := by decide +kernel
theorem d_O_init_18 : decode c_O_init 18 = .ok (.aload_n 1, 1) := by decide +kernel
theorem d_O_init_19 : decode c_O_init 19 = .ok (.arraylength, 1) := by decide +kernel
theorem d_O_init_20 : decode c_O_init 20 = .ok (.newarray .long, 2) := by decide +kernel
theorem d_O_init_22 : decode c_O_init 22 = .ok (.putfield 19, 3) := by decide +kernel
theorem d_O_init_25 : decode c_O_init 25 = .ok (.aload_n 0, 1) := by decide +kernel
theorem d_O_init_26 : decode c_O_init 26 = .ok (.aload_n 1, 1) := by decide +kernel
theorem d_O_init_27 : decode c_O_init 27 = .ok (.arraylength, 1) := by decide +kernel
theorem d_O_init_28 : decode c_O_init 28 = .ok (.newarray .long, 2) := by decide +kernel
theorem d_O_init_30 : decode c_O_init 30 = .ok (.putfield 22, 3) := by decide +kernel
theorem d_O_init_33 : decode c_O_init 33 = .ok (.aload_n 0, 1) := by decide +kernel
theorem d_O_init_34 : decode c_O_init 34 = .ok (.aload_n 1, 1) := by decide +kernel
theorem d_O_init_35 : decode c_O_init 35 = .ok (.arraylength, 1) := by decide +kernel
theorem d_O_init_36 : decode c_O_init 36 = .ok (.newarray .int, 2) := by decide +kernel
theorem d_O_init_38 : decode c_O_init 38 = .ok (.putfield 25, 3) := by decide +kernel
theorem d_O_init_41 : decode c_O_init 41 = .ok (.iconst 0, 1) := by decide +kernel
theorem d_O_init_42 : decode c_O_init 42 = .ok (.istore_n 2, 1) := by decide +kernel
theorem d_O_init_43 : decode c_O_init 43 = .ok (.iload_n 2, 1) := by decide +kernel
theorem d_O_init_44 : decode c_O_init 44 = .ok (.aload_n 1, 1) := by decide +kernel
theorem d_O_init_45 : decode c_O_init 45 = .ok (.arraylength, 1) := by decide +kernel
theorem d_O_init_46 : decode c_O_init 46 = .ok (.if_icmp .ge 16, 3) := by decide +kernel
theorem d_O_init_49 : decode c_O_init 49 = .ok (.aload_n 0, 1) := by decide +kernel
theorem d_O_init_50 : decode c_O_init 50 = .ok (.getfield 25, 3) := by decide +kernel
theorem d_O_init_53 : decode c_O_init 53 = .ok (.iload_n 2, 1) := by decide +kernel
theorem d_O_init_54 : decode c_O_init 54 = .ok (.iconst 1, 1) := by decide +kernel
theorem d_O_init_55 : decode c_O_init 55 = .ok (.iastore, 1) := by decide +kernel
theorem d_O_init_56 : decode c_O_init 56 = .ok (.iinc 2 1, 3) := by decide +kernel
theorem d_O_init_59 : decode c_O_init 59 = .ok (.goto (-16), 3) := by decide +kernel
theorem d_O_init_62 : decode c_O_init 62 = .ok (.return_, 1) := by decide +kernel
theorem d_O_begin_0 : decode c_O_begin 0 = .ok (.aload_n 0, 1) := by decide +kernel
theorem d_O_begin_1 : decode c_O_begin 1 = .ok (.iload_n 1, 1) := by decide +kernel
theorem d_O_begin_2 : decode c_O_begin 2 = .ok (.putfield 28, 3) := by decide +kernel
theorem d_O_begin_5 : decode c_O_begin 5 = .ok (.aload_n 0, 1) := by decide +kernel
theorem d_O_begin_6 : decode c_O_begin 6 = .ok (.iload_n 2, 1) := by decide +kernel
theorem d_O_begin_7 : decode c_O_begin 7 = .ok (.putfield 32, 3) := by decide +kernel
theorem d_O_begin_10 : decode c_O_begin 10 = .ok (.aload_n 0, 1) := by decide +kernel
theorem d_O_begin_11 : decode c_O_begin 11 = .ok (.lconst 0, 1) := by decide +kernel
theorem d_O_begin_12 : decode c_O_begin 12 = .ok (.putfield 35, 3) := by decide +kernel
theorem d_O_begin_15 : decode c_O_begin 15 = .ok (.iconst 0, 1) := by decide +kernel
theorem d_O_begin_16 : decode c_O_begin 16 = .ok (.istore_n 3, 1) := by decide +kernel
theorem d_O_begin_17 : decode c_O_begin 17 = .ok (.iload_n 3, 1) := by decide +kernel
theorem d_O_begin_18 : decode c_O_begin 18 = .ok (.aload_n 0, 1) := by decide +kernel
theorem d_O_begin_19 : decode c_O_begin 19 = .ok (.getfield 9, 3) := by decide +kernel
theorem d_O_begin_22 : decode c_O_begin 22 = .ok (.arraylength, 1) := by decide +kernel
theorem d_O_begin_23 : decode c_O_begin 23 = .ok (.if_icmp .ge 62, 3) := by decide +kernel
theorem d_O_begin_26 : decode c_O_begin 26 = .ok (.aload_n 0, 1) := by decide +kernel
theorem d_O_begin_27 : decode c_O_begin 27 = .ok (.getfield 15, 3) := by decide +kernel
theorem d_O_begin_30 : decode c_O_begin 30 = .ok (.iload_n 3, 1) := by decide +kernel
theorem d_O_begin_31 : decode c_O_begin 31 = .ok (.aload_n 0, 1) := by decide +kernel
theorem d_O_begin_32 : decode c_O_begin 32 = .ok (.getfield 28, 3) := by decide +kernel
theorem d_O_begin_35 : decode c_O_begin 35 = .ok (.iconst 1, 1) := by decide +kernel
theorem d_O_begin_36 : decode c_O_begin 36 = .ok (.if_icmp .ne 9, 3) := by decide +kernel
theorem d_O_begin_39 : decode c_O_begin 39 = .ok (.ldc2_w 39, 3) := by decide +kernel
theorem d_O_begin_42 : decode c_O_begin 42 = .ok (.goto 15, 3) := by decide +kernel
theorem d_O_begin_45 : decode c_O_begin 45 = .ok (.ldc2_w 41, 3) := by decide +kernel
theorem d_O_begin_48 : decode c_O_begin 48 = .ok (.aload_n 0, 1) := by decide +kernel
theorem d_O_begin_49 : decode c_O_begin 49 = .ok (.getfield 9, 3) := by decide +kernel
theorem d_O_begin_52 : decode c_O_begin 52 = .ok (.arraylength, 1) := by decide +kernel
theorem d_O_begin_53 : decode c_O_begin 53 = .ok (.i2l, 1) := by decide +kernel
theorem d_O_begin_54 : decode c_O_begin 54 = .ok (.invokestatic 43, 3) := by decide +kernel
theorem d_O_begin_57 : decode c_O_begin 57 = .ok (.lastore, 1) := by decide +kernel
theorem d_O_begin_58 : decode c_O_begin 58 = .ok (.aload_n 0, 1) := by decide +kernel
theorem d_O_begin_59 : decode c_O_begin 59 = .ok (.getfield 19, 3) := by decide +kernel
theorem d_O_begin_62 : decode c_O_begin 62 = .ok (.iload_n 3, 1) := by decide +kernel
theorem d_O_begin_63 : decode c_O_begin 63 = .ok (.aload_n 0, 1) := by decide +kernel
theorem d_O_begin_64 : decode c_O_begin 64 = .ok (.getfield 28, 3) := by decide +kernel
theorem d_O_begin_67 : decode c_O_begin 67 = .ok (.iconst 1, 1) := by decide +kernel
theorem d_O_begin_68 : decode c_O_begin 68 = .ok (.if_icmp .ne 9, 3) := by decide +kernel
theorem d_O_begin_71 : decode c_O_begin 71 = .ok (.ldc2_w 39, 3) := by decide +kernel
theorem d_O_begin_74 : decode c_O_begin 74 = .ok (.goto 4, 3) := by decide +kernel
theorem d_O_begin_77 : decode c_O_begin 77 = .ok (.lconst 0, 1) := by decide +kernel
theorem d_O_begin_78 : decode c_O_begin 78 = .ok (.lastore, 1) := by decide +kernel
theorem d_O_begin_79 : decode c_O_begin 79 = .ok (.iinc 3 1, 3) := by decide +kernel
theorem d_O_begin_82 : decode c_O_begin 82 = .ok (.goto (-65), 3) := by decide +kernel
theorem d_O_begin_85 : decode c_O_begin 85 = .ok (.return_, 1) := by decide +kernel
theorem d_O_advance_0 : decode c_O_advance 0 = .ok (.iconst 0, 1) := by decide +kernel
theorem d_O_advance_1 : decode c_O_advance 1 = .ok (.istore_n 2, 1) := by decide +kernel
theorem d_O_advance_2 : decode c_O_advance 2 = .ok (.iload_n 2, 1) := by decide +kernel
theorem d_O_advance_3 : decode c_O_advance 3 = .ok (.iload_n 1, 1) := by decide +kernel
theorem d_O_advance_4 : decode c_O_advance 4 = .ok (.if_icmp .ge 26, 3) := by decide +kernel
theorem d_O_advance_7 : decode c_O_advance 7 = .ok (.aload_n 0, 1) := by decide +kernel
theorem d_O_advance_8 : decode c_O_advance 8 = .ok (.invokevirtual 47, 3) := by decide +kernel
theorem d_O_advance_11 : decode c_O_advance 11 = .ok (.aload_n 0, 1) := by decide +kernel
theorem d_O_advance_12 : decode c_O_advance 12 = .ok (.getfield 35, 3) := by decide +kernel
theorem d_O_advance_15 : decode c_O_advance 15 = .ok (.lconst 0, 1) := by decide +kernel
theorem d_O_advance_16 : decode c_O_advance 16 = .ok (.lcmp, 1) := by decide +kernel
theorem d_O_advance_17 : decode c_O_advance 17 = .ok (.ifCond .ne 7, 3) := by decide +kernel
theorem d_O_advance_20 : decode c_O_advance 20 = .ok (.iload_n 2, 1) := by decide +kernel
theorem d_O_advance_21 : decode c_O_advance 21 = .ok (.iconst 1, 1) := by decide +kernel
theorem d_O_advance_22 : decode c_O_advance 22 = .ok (.iadd, 1) := by decide +kernel
theorem d_O_advance_23 : decode c_O_advance 23 = .ok (.ireturn, 1) := by decide +kernel
theorem d_O_advance_24 : decode c_O_advance 24 = .ok (.iinc 2 1, 3) := by decide +kernel
theorem d_O_advance_27 : decode c_O_advance 27 = .ok (.goto (-25), 3) := by decide +kernel
theorem d_O_advance_30 : decode c_O_advance 30 = .ok (.iload_n 1, 1) := by decide +kernel
theorem d_O_advance_31 : decode c_O_advance 31 = .ok (.ireturn, 1) := by decide +kernel
theorem d_O_weightOfOthers_0 : decode c_O_weightOfOthers 0 = .ok (.iconst 0, 1) := by decide +kernel
theorem d_O_weightOfOthers_1 : decode c_O_weightOfOthers 1 = .ok (.istore_n 2, 1) := by decide +kernel
theorem d_O_weightOfOthers_2 : decode c_O_weightOfOthers 2 = .ok (.iconst 0, 1) := by decide +kernel
theorem d_O_weightOfOthers_3 : decode c_O_weightOfOthers 3 = .ok (.istore_n 3, 1) := by decide +kernel
theorem d_O_weightOfOthers_4 : decode c_O_weightOfOthers 4 = .ok (.iload_n 3, 1) := by decide +kernel
theorem d_O_weightOfOthers_5 : decode c_O_weightOfOthers 5 = .ok (.aload_n 0, 1) := by decide +kernel
theorem d_O_weightOfOthers_6 : decode c_O_weightOfOthers 6 = .ok (.getfield 9, 3) := by decide +kernel
theorem d_O_weightOfOthers_9 : decode c_O_weightOfOthers 9 = .ok (.arraylength, 1) := by decide +kernel
theorem d_O_weightOfOthers_10 : decode c_O_weightOfOthers 10 = .ok (.if_icmp .ge 23, 3) := by decide +kernel
theorem d_O_weightOfOthers_13 : decode c_O_weightOfOthers 13 = .ok (.iload_n 3, 1) := by decide +kernel
theorem d_O_weightOfOthers_14 : decode c_O_weightOfOthers 14 = .ok (.iload_n 1, 1) := by decide +kernel
theorem d_O_weightOfOthers_15 : decode c_O_weightOfOthers 15 = .ok (.if_icmp .eq 12, 3) := by decide +kernel
theorem d_O_weightOfOthers_18 : decode c_O_weightOfOthers 18 = .ok (.iload_n 2, 1) := by decide +kernel
theorem d_O_weightOfOthers_19 : decode c_O_weightOfOthers 19 = .ok (.aload_n 0, 1) := by decide +kernel
theorem d_O_weightOfOthers_20 : decode c_O_weightOfOthers 20 = .ok (.getfield 25, 3) := by decide +kernel
theorem d_O_weightOfOthers_23 : decode c_O_weightOfOthers 23 = .ok (.iload_n 3, 1) := by decide +kernel
theorem d_O_weightOfOthers_24 : decode c_O_weightOfOthers 24 = .ok (.iaload, 1) := by decide +kernel
theorem d_O_weightOfOthers_25 : decode c_O_weightOfOthers 25 = .ok (.iadd, 1) := by decide +kernel
theorem d_O_weightOfOthers_26 : decode c_O_weightOfOthers 26 = .ok (.istore_n 2, 1) := by decide +kernel
theorem d_O_weightOfOthers_27 : decode c_O_weightOfOthers 27 = .ok (.iinc 3 1, 3) := by decide +kernel
theorem d_O_weightOfOthers_30 : decode c_O_weightOfOthers 30 = .ok (.goto (-26), 3) := by decide +kernel
theorem d_O_weightOfOthers_33 : decode c_O_weightOfOthers 33 = .ok (.iload_n 2, 1) := by decide +kernel
theorem d_O_weightOfOthers_34 : decode c_O_weightOfOthers 34 = .ok (.ireturn, 1) := by decide +kernel
theorem d_O_placeOf_0 : decode c_O_placeOf 0 = .ok (.iconst 0, 1) := by decide +kernel
theorem d_O_placeOf_1 : decode c_O_placeOf 1 = .ok (.istore_n 2, 1) := by decide +kernel
theorem d_O_placeOf_2 : decode c_O_placeOf 2 = .ok (.iconst 0, 1) := by decide +kernel
theorem d_O_placeOf_3 : decode c_O_placeOf 3 = .ok (.istore_n 3, 1) := by decide +kernel
theorem d_O_placeOf_4 : decode c_O_placeOf 4 = .ok (.iload_n 3, 1) := by decide +kernel
theorem d_O_placeOf_5 : decode c_O_placeOf 5 = .ok (.aload_n 0, 1) := by decide +kernel
theorem d_O_placeOf_6 : decode c_O_placeOf 6 = .ok (.getfield 9, 3) := by decide +kernel
theorem d_O_placeOf_9 : decode c_O_placeOf 9 = .ok (.arraylength, 1) := by decide +kernel
theorem d_O_placeOf_10 : decode c_O_placeOf 10 = .ok (.if_icmp .ge 49, 3) := by decide +kernel
theorem d_O_placeOf_13 : decode c_O_placeOf 13 = .ok (.aload_n 0, 1) := by decide +kernel
theorem d_O_placeOf_14 : decode c_O_placeOf 14 = .ok (.getfield 15, 3) := by decide +kernel
theorem d_O_placeOf_17 : decode c_O_placeOf 17 = .ok (.iload_n 3, 1) := by decide +kernel
theorem d_O_placeOf_18 : decode c_O_placeOf 18 = .ok (.laload, 1) := by decide +kernel
theorem d_O_placeOf_19 : decode c_O_placeOf 19 = .ok (.aload_n 0, 1) := by decide +kernel
theorem d_O_placeOf_20 : decode c_O_placeOf 20 = .ok (.getfield 15, 3) := by decide +kernel
theorem d_O_placeOf_23 : decode c_O_placeOf 23 = .ok (.iload_n 1, 1) := by decide +kernel
theorem d_O_placeOf_24 : decode c_O_placeOf 24 = .ok (.laload, 1) := by decide +kernel
theorem d_O_placeOf_25 : decode c_O_placeOf 25 = .ok (.lcmp, 1) := by decide +kernel
theorem d_O_placeOf_26 : decode c_O_placeOf 26 = .ok (.ifCond .gt 24, 3) := by decide +kernel
theorem d_O_placeOf_29 : decode c_O_placeOf 29 = .ok (.aload_n 0, 1) := by decide +kernel
theorem d_O_placeOf_30 : decode c_O_placeOf 30 = .ok (.getfield 15, 3) := by decide +kernel
theorem d_O_placeOf_33 : decode c_O_placeOf 33 = .ok (.iload_n 3, 1) := by decide +kernel
theorem d_O_placeOf_34 : decode c_O_placeOf 34 = .ok (.laload, 1) := by decide +kernel
theorem d_O_placeOf_35 : decode c_O_placeOf 35 = .ok (.aload_n 0, 1) := by decide +kernel
theorem d_O_placeOf_36 : decode c_O_placeOf 36 = .ok (.getfield 15, 3) := by decide +kernel
theorem d_O_placeOf_39 : decode c_O_placeOf 39 = .ok (.iload_n 1, 1) := by decide +kernel
theorem d_O_placeOf_40 : decode c_O_placeOf 40 = .ok (.laload, 1) := by decide +kernel
theorem d_O_placeOf_41 : decode c_O_placeOf 41 = .ok (.lcmp, 1) := by decide +kernel
theorem d_O_placeOf_42 : decode c_O_placeOf 42 = .ok (.ifCond .ne 11, 3) := by decide +kernel
theorem d_O_placeOf_45 : decode c_O_placeOf 45 = .ok (.iload_n 3, 1) := by decide +kernel
theorem d_O_placeOf_46 : decode c_O_placeOf 46 = .ok (.iload_n 1, 1) := by decide +kernel
theorem d_O_placeOf_47 : decode c_O_placeOf 47 = .ok (.if_icmp .ge 6, 3) := by decide +kernel
theorem d_O_placeOf_50 : decode c_O_placeOf 50 = .ok (.iinc 2 1, 3) := by decide +kernel
theorem d_O_placeOf_53 : decode c_O_placeOf 53 = .ok (.iinc 3 1, 3) := by decide +kernel
theorem d_O_placeOf_56 : decode c_O_placeOf 56 = .ok (.goto (-52), 3) := by decide +kernel
theorem d_O_placeOf_59 : decode c_O_placeOf 59 = .ok (.iload_n 2, 1) := by decide +kernel
theorem d_O_placeOf_60 : decode c_O_placeOf 60 = .ok (.ireturn, 1) := by decide +kernel
theorem d_O_stepOnce_0 : decode c_O_stepOnce 0 = .ok (.aload_n 0, 1) := by decide +kernel
theorem d_O_stepOnce_1 : decode c_O_stepOnce 1 = .ok (.getfield 15, 3) := by decide +kernel
theorem d_O_stepOnce_4 : decode c_O_stepOnce 4 = .ok (.iconst 0, 1) := by decide +kernel
theorem d_O_stepOnce_5 : decode c_O_stepOnce 5 = .ok (.aload_n 0, 1) := by decide +kernel
theorem d_O_stepOnce_6 : decode c_O_stepOnce 6 = .ok (.getfield 22, 3) := by decide +kernel
theorem d_O_stepOnce_9 : decode c_O_stepOnce 9 = .ok (.iconst 0, 1) := by decide +kernel
theorem d_O_stepOnce_10 : decode c_O_stepOnce 10 = .ok (.aload_n 0, 1) := by decide +kernel
theorem d_O_stepOnce_11 : decode c_O_stepOnce 11 = .ok (.getfield 15, 3) := by decide +kernel
theorem d_O_stepOnce_14 : decode c_O_stepOnce 14 = .ok (.arraylength, 1) := by decide +kernel
theorem d_O_stepOnce_15 : decode c_O_stepOnce 15 = .ok (.invokestatic 50, 3) := by decide +kernel
theorem d_O_stepOnce_18 : decode c_O_stepOnce 18 = .ok (.aload_n 0, 1) := by decide +kernel
theorem d_O_stepOnce_19 : decode c_O_stepOnce 19 = .ok (.getfield 28, 3) := by decide +kernel
theorem d_O_stepOnce_22 : decode c_O_stepOnce 22 = .ok (.ifCond .ne 10, 3) := by decide +kernel
theorem d_O_stepOnce_25 : decode c_O_stepOnce 25 = .ok (.aload_n 0, 1) := by decide +kernel
theorem d_O_stepOnce_26 : decode c_O_stepOnce 26 = .ok (.invokevirtual 56, 3) := by decide +kernel
theorem d_O_stepOnce_29 : decode c_O_stepOnce 29 = .ok (.goto 22, 3) := by decide +kernel
theorem d_O_stepOnce_32 : decode c_O_stepOnce 32 = .ok (.aload_n 0, 1) := by decide +kernel
theorem d_O_stepOnce_33 : decode c_O_stepOnce 33 = .ok (.getfield 28, 3) := by decide +kernel
theorem d_O_stepOnce_36 : decode c_O_stepOnce 36 = .ok (.iconst 1, 1) := by decide +kernel
theorem d_O_stepOnce_37 : decode c_O_stepOnce 37 = .ok (.if_icmp .ne 10, 3) := by decide +kernel
theorem d_O_stepOnce_40 : decode c_O_stepOnce 40 = .ok (.aload_n 0, 1) := by decide +kernel
theorem d_O_stepOnce_41 : decode c_O_stepOnce 41 = .ok (.invokevirtual 59, 3) := by decide +kernel
theorem d_O_stepOnce_44 : decode c_O_stepOnce 44 = .ok (.goto 7, 3) := by decide +kernel
theorem d_O_stepOnce_47 : decode c_O_stepOnce 47 = .ok (.aload_n 0, 1) := by decide +kernel
theorem d_O_stepOnce_48 : decode c_O_stepOnce 48 = .ok (.invokevirtual 62, 3) := by decide +kernel
theorem d_O_stepOnce_51 : decode c_O_stepOnce 51 = .ok (.aload_n 0, 1) := by decide +kernel
theorem d_O_stepOnce_52 : decode c_O_stepOnce 52 = .ok (.lconst 0, 1) := by decide +kernel
theorem d_O_stepOnce_53 : decode c_O_stepOnce 53 = .ok (.putfield 35, 3) := by decide +kernel
theorem d_O_stepOnce_56 : decode c_O_stepOnce 56 = .ok (.iconst 0, 1) := by decide +kernel
theorem d_O_stepOnce_57 : decode c_O_stepOnce 57 = .ok (.istore_n 1, 1) := by decide +kernel
theorem d_O_stepOnce_58 : decode c_O_stepOnce 58 = .ok (.iload_n 1, 1) := by decide +kernel
theorem d_O_stepOnce_59 : decode c_O_stepOnce 59 = .ok (.aload_n 0, 1) := by decide +kernel
theorem d_O_stepOnce_60 : decode c_O_stepOnce 60 = .ok (.getfield 15, 3) := by decide +kernel
theorem d_O_stepOnce_63 : decode c_O_stepOnce 63 = .ok (.arraylength, 1) := by decide +kernel
theorem d_O_stepOnce_64 : decode c_O_stepOnce 64 = .ok (.if_icmp .ge 34, 3) := by decide +kernel
theorem d_O_stepOnce_67 : decode c_O_stepOnce 67 = .ok (.aload_n 0, 1) := by decide +kernel
theorem d_O_stepOnce_68 : decode c_O_stepOnce 68 = .ok (.dup, 1) := by decide +kernel
theorem d_O_stepOnce_69 : decode c_O_stepOnce 69 = .ok (.getfield 35, 3) := by decide +kernel
theorem d_O_stepOnce_72 : decode c_O_stepOnce 72 = .ok (.aload_n 0, 1) := by decide +kernel
theorem d_O_stepOnce_73 : decode c_O_stepOnce 73 = .ok (.getfield 15, 3) := by decide +kernel
theorem d_O_stepOnce_76 : decode c_O_stepOnce 76 = .ok (.iload_n 1, 1) := by decide +kernel
theorem d_O_stepOnce_77 : decode c_O_stepOnce 77 = .ok (.laload, 1) := by decide +kernel
theorem d_O_stepOnce_78 : decode c_O_stepOnce 78 = .ok (.aload_n 0, 1) := by decide +kernel
theorem d_O_stepOnce_79 : decode c_O_stepOnce 79 = .ok (.getfield 22, 3) := by decide +kernel
theorem d_O_stepOnce_82 : decode c_O_stepOnce 82 = .ok (.iload_n 1, 1) := by decide +kernel
theorem d_O_stepOnce_83 : decode c_O_stepOnce 83 = .ok (.laload, 1) := by decide +kernel
theorem d_O_stepOnce_84 : decode c_O_stepOnce 84 = .ok (.lsub, 1) := by decide +kernel
theorem d_O_stepOnce_85 : decode c_O_stepOnce 85 = .ok (.invokestatic 65, 3) := by decide +kernel
theorem d_O_stepOnce_88 : decode c_O_stepOnce 88 = .ok (.ladd, 1) := by decide +kernel
theorem d_O_stepOnce_89 : decode c_O_stepOnce 89 = .ok (.putfield 35, 3) := by decide +kernel
theorem d_O_stepOnce_92 : decode c_O_stepOnce 92 = .ok (.iinc 1 1, 3) := by decide +kernel
theorem d_O_stepOnce_95 : decode c_O_stepOnce 95 = .ok (.goto (-37), 3) := by decide +kernel
theorem d_O_stepOnce_98 : decode c_O_stepOnce 98 = .ok (.return_, 1) := by decide +kernel
theorem d_O_stepByRank_0 : decode c_O_stepByRank 0 = .ok (.aload_n 0, 1) := by decide +kernel
theorem d_O_stepByRank_1 : decode c_O_stepByRank 1 = .ok (.iconst (-1), 1) := by decide +kernel
theorem d_O_stepByRank_2 : decode c_O_stepByRank 2 = .ok (.invokevirtual 71, 3) := by decide +kernel
theorem d_O_stepByRank_5 : decode c_O_stepByRank 5 = .ok (.i2l, 1) := by decide +kernel
theorem d_O_stepByRank_6 : decode c_O_stepByRank 6 = .ok (.lstore_n 1, 1) := by decide +kernel
theorem d_O_stepByRank_7 : decode c_O_stepByRank 7 = .ok (.lconst 0, 1) := by decide +kernel
theorem d_O_stepByRank_8 : decode c_O_stepByRank 8 = .ok (.lstore_n 3, 1) := by decide +kernel
theorem d_O_stepByRank_9 : decode c_O_stepByRank 9 = .ok (.iconst 0, 1) := by decide +kernel
theorem d_O_stepByRank_10 : decode c_O_stepByRank 10 = .ok (.istore 5, 2) := by decide +kernel
theorem d_O_stepByRank_12 : decode c_O_stepByRank 12 = .ok (.iload 5, 2) := by decide +kernel
theorem d_O_stepByRank_14 : decode c_O_stepByRank 14 = .ok (.aload_n 0, 1) := by decide +kernel
theorem d_O_stepByRank_15 : decode c_O_stepByRank 15 = .ok (.getfield 9, 3) := by decide +kernel
theorem d_O_stepByRank_18 : decode c_O_stepByRank 18 = .ok (.arraylength, 1) := by decide +kernel
theorem d_O_stepByRank_19 : decode c_O_stepByRank 19 = .ok (.if_icmp .ge 33, 3) := by decide +kernel
theorem d_O_stepByRank_22 : decode c_O_stepByRank 22 = .ok (.lload_n 3, 1) := by decide +kernel
theorem d_O_stepByRank_23 : decode c_O_stepByRank 23 = .ok (.aload_n 0, 1) := by decide +kernel
theorem d_O_stepByRank_24 : decode c_O_stepByRank 24 = .ok (.getfield 9, 3) := by decide +kernel
theorem d_O_stepByRank_27 : decode c_O_stepByRank 27 = .ok (.iload 5, 2) := by decide +kernel
theorem d_O_stepByRank_29 : decode c_O_stepByRank 29 = .ok (.iaload, 1) := by decide +kernel
theorem d_O_stepByRank_30 : decode c_O_stepByRank 30 = .ok (.ifCond .ne 13, 3) := by decide +kernel
theorem d_O_stepByRank_33 : decode c_O_stepByRank 33 = .ok (.aload_n 0, 1) := by decide +kernel
theorem d_O_stepByRank_34 : decode c_O_stepByRank 34 = .ok (.getfield 22, 3) := by decide +kernel
theorem d_O_stepByRank_37 : decode c_O_stepByRank 37 = .ok (.iload 5, 2) := by decide +kernel
theorem d_O_stepByRank_39 : decode c_O_stepByRank 39 = .ok (.laload, 1) := by decide +kernel
theorem d_O_stepByRank_40 : decode c_O_stepByRank 40 = .ok (.goto 4, 3) := by decide +kernel
theorem d_O_stepByRank_43 : decode c_O_stepByRank 43 = .ok (.lconst 0, 1) := by decide +kernel
theorem d_O_stepByRank_44 : decode c_O_stepByRank 44 = .ok (.ladd, 1) := by decide +kernel
theorem d_O_stepByRank_45 : decode c_O_stepByRank 45 = .ok (.lstore_n 3, 1) := by decide +kernel
theorem d_O_stepByRank_46 : decode c_O_stepByRank 46 = .ok (.iinc 5 1, 3) := by decide +kernel
theorem d_O_stepByRank_49 : decode c_O_stepByRank 49 = .ok (.goto (-37), 3) := by decide +kernel
theorem d_O_stepByRank_52 : decode c_O_stepByRank 52 = .ok (.iconst 0, 1) := by decide +kernel
theorem d_O_stepByRank_53 : decode c_O_stepByRank 53 = .ok (.istore 5, 2) := by decide +kernel
theorem d_O_stepByRank_55 : decode c_O_stepByRank 55 = .ok (.iload 5, 2) := by decide +kernel
theorem d_O_stepByRank_57 : decode c_O_stepByRank 57 = .ok (.aload_n 0, 1) := by decide +kernel
theorem d_O_stepByRank_58 : decode c_O_stepByRank 58 = .ok (.getfield 9, 3) := by decide +kernel
theorem d_O_stepByRank_61 : decode c_O_stepByRank 61 = .ok (.arraylength, 1) := by decide +kernel
theorem d_O_stepByRank_62 : decode c_O_stepByRank 62 = .ok (.if_icmp .ge 137, 3) := by decide +kernel
theorem d_O_stepByRank_65 : decode c_O_stepByRank 65 = .ok (.lconst 0, 1) := by decide +kernel
theorem d_O_stepByRank_66 : decode c_O_stepByRank 66 = .ok (.lstore 6, 2) := by decide +kernel
theorem d_O_stepByRank_68 : decode c_O_stepByRank 68 = .ok (.iconst 0, 1) := by decide +kernel
theorem d_O_stepByRank_69 : decode c_O_stepByRank 69 = .ok (.istore 8, 2) := by decide +kernel
theorem d_O_stepByRank_71 : decode c_O_stepByRank 71 = .ok (.iload 8, 2) := by decide +kernel
theorem d_O_stepByRank_73 : decode c_O_stepByRank 73 = .ok (.aload_n 0, 1) := by decide +kernel
theorem d_O_stepByRank_74 : decode c_O_stepByRank 74 = .ok (.getfield 9, 3) := by decide +kernel
theorem d_O_stepByRank_77 : decode c_O_stepByRank 77 = .ok (.arraylength, 1) := by decide +kernel
theorem d_O_stepByRank_78 : decode c_O_stepByRank 78 = .ok (.if_icmp .ge 50, 3) := by decide +kernel
theorem d_O_stepByRank_81 : decode c_O_stepByRank 81 = .ok (.lload 6, 2) := by decide +kernel
theorem d_O_stepByRank_83 : decode c_O_stepByRank 83 = .ok (.aload_n 0, 1) := by decide +kernel
theorem d_O_stepByRank_84 : decode c_O_stepByRank 84 = .ok (.getfield 9, 3) := by decide +kernel
theorem d_O_stepByRank_87 : decode c_O_stepByRank 87 = .ok (.iload 8, 2) := by decide +kernel
theorem d_O_stepByRank_89 : decode c_O_stepByRank 89 = .ok (.iaload, 1) := by decide +kernel
theorem d_O_stepByRank_90 : decode c_O_stepByRank 90 = .ok (.iload 5, 2) := by decide +kernel
theorem d_O_stepByRank_92 : decode c_O_stepByRank 92 = .ok (.invokestatic 75, 3) := by decide +kernel
theorem d_O_stepByRank_95 : decode c_O_stepByRank 95 = .ok (.ifCond .eq 23, 3) := by decide +kernel
theorem d_O_stepByRank_98 : decode c_O_stepByRank 98 = .ok (.aload_n 0, 1) := by decide +kernel
theorem d_O_stepByRank_99 : decode c_O_stepByRank 99 = .ok (.getfield 22, 3) := by decide +kernel
theorem d_O_stepByRank_102 : decode c_O_stepByRank 102 = .ok (.iload 8, 2) := by decide +kernel
theorem d_O_stepByRank_104 : decode c_O_stepByRank 104 = .ok (.laload, 1) := by decide +kernel
theorem d_O_stepByRank_105 : decode c_O_stepByRank 105 = .ok (.aload_n 0, 1) := by decide +kernel
theorem d_O_stepByRank_106 : decode c_O_stepByRank 106 = .ok (.iload 8, 2) := by decide +kernel
theorem d_O_stepByRank_108 : decode c_O_stepByRank 108 = .ok (.invokevirtual 79, 3) := by decide +kernel
theorem d_O_stepByRank_111 : decode c_O_stepByRank 111 = .ok (.i2l, 1) := by decide +kernel
theorem d_O_stepByRank_112 : decode c_O_stepByRank 112 = .ok (.invokestatic 43, 3) := by decide +kernel
theorem d_O_stepByRank_115 : decode c_O_stepByRank 115 = .ok (.goto 4, 3) := by decide +kernel
theorem d_O_stepByRank_118 : decode c_O_stepByRank 118 = .ok (.lconst 0, 1) := by decide +kernel
theorem d_O_stepByRank_119 : decode c_O_stepByRank 119 = .ok (.ladd, 1) := by decide +kernel
theorem d_O_stepByRank_120 : decode c_O_stepByRank 120 = .ok (.lstore 6, 2) := by decide +kernel
theorem d_O_stepByRank_122 : decode c_O_stepByRank 122 = .ok (.iinc 8 1, 3) := by decide +kernel
theorem d_O_stepByRank_125 : decode c_O_stepByRank 125 = .ok (.goto (-54), 3) := by decide +kernel
theorem d_O_stepByRank_128 : decode c_O_stepByRank 128 = .ok (.sipush 1000, 3) := by decide +kernel
theorem d_O_stepByRank_131 : decode c_O_stepByRank 131 = .ok (.aload_n 0, 1) := by decide +kernel
theorem d_O_stepByRank_132 : decode c_O_stepByRank 132 = .ok (.getfield 32, 3) := by decide +kernel
theorem d_O_stepByRank_135 : decode c_O_stepByRank 135 = .ok (.isub, 1) := by decide +kernel
theorem d_O_stepByRank_136 : decode c_O_stepByRank 136 = .ok (.i2l, 1) := by decide +kernel
theorem d_O_stepByRank_137 : decode c_O_stepByRank 137 = .ok (.ldc2_w 82, 3) := by decide +kernel
theorem d_O_stepByRank_140 : decode c_O_stepByRank 140 = .ok (.lmul, 1) := by decide +kernel
theorem d_O_stepByRank_141 : decode c_O_stepByRank 141 = .ok (.aload_n 0, 1) := by decide +kernel
theorem d_O_stepByRank_142 : decode c_O_stepByRank 142 = .ok (.getfield 25, 3) := by decide +kernel
theorem d_O_stepByRank_145 : decode c_O_stepByRank 145 = .ok (.iload 5, 2) := by decide +kernel
theorem d_O_stepByRank_147 : decode c_O_stepByRank 147 = .ok (.iaload, 1) := by decide +kernel
theorem d_O_stepByRank_148 : decode c_O_stepByRank 148 = .ok (.i2l, 1) := by decide +kernel
theorem d_O_stepByRank_149 : decode c_O_stepByRank 149 = .ok (.lmul, 1) := by decide +kernel
theorem d_O_stepByRank_150 : decode c_O_stepByRank 150 = .ok (.lload_n 1, 1) := by decide +kernel
theorem d_O_stepByRank_151 : decode c_O_stepByRank 151 = .ok (.invokestatic 43, 3) := by decide +kernel
theorem d_O_stepByRank_154 : decode c_O_stepByRank 154 = .ok (.lstore 8, 2) := by decide +kernel
theorem d_O_stepByRank_156 : decode c_O_stepByRank 156 = .ok (.aload_n 0, 1) := by decide +kernel
theorem d_O_stepByRank_157 : decode c_O_stepByRank 157 = .ok (.getfield 15, 3) := by decide +kernel
theorem d_O_stepByRank_160 : decode c_O_stepByRank 160 = .ok (.iload 5, 2) := by decide +kernel
theorem d_O_stepByRank_162 : decode c_O_stepByRank 162 = .ok (.lload 8, 2) := by decide +kernel
theorem d_O_stepByRank_164 : decode c_O_stepByRank 164 = .ok (.aload_n 0, 1) := by decide +kernel
theorem d_O_stepByRank_165 : decode c_O_stepByRank 165 = .ok (.getfield 32, 3) := by decide +kernel
theorem d_O_stepByRank_168 : decode c_O_stepByRank 168 = .ok (.i2l, 1) := by decide +kernel
