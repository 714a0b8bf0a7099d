theorem d_M_nextNumber_12 : decode c_M_nextNumber 12 = .ok (.aload_n 0, 1) := by decide +kernel
theorem d_M_nextNumber_13 : decode c_M_nextNumber 13 = .ok (.invokevirtual 131, 3) := by decide +kernel
theorem d_M_nextNumber_16 : decode c_M_nextNumber 16 = .ok (.iadd, 1) := by decide +kernel
theorem d_M_nextNumber_17 : decode c_M_nextNumber 17 = .ok (.istore_n 2, 1) := by decide +kernel
theorem d_M_nextNumber_18 : decode c_M_nextNumber 18 = .ok (.iinc 3 1, 3) := by decide +kernel
theorem d_M_nextNumber_21 : decode c_M_nextNumber 21 = .ok (.goto (-17), 3) := by decide +kernel
theorem d_M_nextNumber_24 : decode c_M_nextNumber 24 = .ok (.iload_n 2, 1) := by decide +kernel
theorem d_M_nextNumber_25 : decode c_M_nextNumber 25 = .ok (.ireturn, 1) := by decide +kernel
theorem d_M_nextGamma_0 : decode c_M_nextGamma 0 = .ok (.aload_n 0, 1) := by decide +kernel
theorem d_M_nextGamma_1 : decode c_M_nextGamma 1 = .ok (.invokevirtual 135, 3) := by decide +kernel
theorem d_M_nextGamma_4 : decode c_M_nextGamma 4 = .ok (.istore_n 1, 1) := by decide +kernel
theorem d_M_nextGamma_5 : decode c_M_nextGamma 5 = .ok (.aload_n 0, 1) := by decide +kernel
theorem d_M_nextGamma_6 : decode c_M_nextGamma 6 = .ok (.iload_n 1, 1) := by decide +kernel
theorem d_M_nextGamma_7 : decode c_M_nextGamma 7 = .ok (.invokevirtual 138, 3) := by decide +kernel
theorem d_M_nextGamma_10 : decode c_M_nextGamma 10 = .ok (.istore_n 2, 1) := by decide +kernel
theorem d_M_nextGamma_11 : decode c_M_nextGamma 11 = .ok (.iconst 1, 1) := by decide +kernel
theorem d_M_nextGamma_12 : decode c_M_nextGamma 12 = .ok (.iload_n 1, 1) := by decide +kernel
theorem d_M_nextGamma_13 : decode c_M_nextGamma 13 = .ok (.ishl, 1) := by decide +kernel
theorem d_M_nextGamma_14 : decode c_M_nextGamma 14 = .ok (.iconst 1, 1) := by decide +kernel
theorem d_M_nextGamma_15 : decode c_M_nextGamma 15 = .ok (.isub, 1) := by decide +kernel
theorem d_M_nextGamma_16 : decode c_M_nextGamma 16 = .ok (.iload_n 2, 1) := by decide +kernel
theorem d_M_nextGamma_17 : decode c_M_nextGamma 17 = .ok (.iadd, 1) := by decide +kernel
theorem d_M_nextGamma_18 : decode c_M_nextGamma 18 = .ok (.ireturn, 1) := by decide +kernel
theorem d_M_nextZeta_0 : decode c_M_nextZeta 0 = .ok (.aload_n 0, 1) := by decide +kernel
theorem d_M_nextZeta_1 : decode c_M_nextZeta 1 = .ok (.invokevirtual 135, 3) := by decide +kernel
theorem d_M_nextZeta_4 : decode c_M_nextZeta 4 = .ok (.istore_n 1, 1) := by decide +kernel
theorem d_M_nextZeta_5 : decode c_M_nextZeta 5 = .ok (.aload_n 0, 1) := by decide +kernel
theorem d_M_nextZeta_6 : decode c_M_nextZeta 6 = .ok (.iload_n 1, 1) := by decide +kernel
theorem d_M_nextZeta_7 : decode c_M_nextZeta 7 = .ok (.aload_n 0, 1) := by decide +kernel
theorem d_M_nextZeta_8 : decode c_M_nextZeta 8 = .ok (.getfield 86, 3) := by decide +kernel
theorem d_M_nextZeta_11 : decode c_M_nextZeta 11 = .ok (.imul, 1) := by decide +kernel
theorem d_M_nextZeta_12 : decode c_M_nextZeta 12 = .ok (.aload_n 0, 1) := by decide +kernel
theorem d_M_nextZeta_13 : decode c_M_nextZeta 13 = .ok (.getfield 86, 3) := by decide +kernel
theorem d_M_nextZeta_16 : decode c_M_nextZeta 16 = .ok (.iadd, 1) := by decide +kernel
theorem d_M_nextZeta_17 : decode c_M_nextZeta 17 = .ok (.iconst 1, 1) := by decide +kernel
theorem d_M_nextZeta_18 : decode c_M_nextZeta 18 = .ok (.isub, 1) := by decide +kernel
theorem d_M_nextZeta_19 : decode c_M_nextZeta 19 = .ok (.invokevirtual 138, 3) := by decide +kernel
theorem d_M_nextZeta_22 : decode c_M_nextZeta 22 = .ok (.istore_n 2, 1) := by decide +kernel
theorem d_M_nextZeta_23 : decode c_M_nextZeta 23 = .ok (.iconst 1, 1) := by decide +kernel
theorem d_M_nextZeta_24 : decode c_M_nextZeta 24 = .ok (.iload_n 1, 1) := by decide +kernel
theorem d_M_nextZeta_25 : decode c_M_nextZeta 25 = .ok (.aload_n 0, 1) := by decide +kernel
theorem d_M_nextZeta_26 : decode c_M_nextZeta 26 = .ok (.getfield 86, 3) := by decide +kernel
theorem d_M_nextZeta_29 : decode c_M_nextZeta 29 = .ok (.imul, 1) := by decide +kernel
theorem d_M_nextZeta_30 : decode c_M_nextZeta 30 = .ok (.ishl, 1) := by decide +kernel
theorem d_M_nextZeta_31 : decode c_M_nextZeta 31 = .ok (.istore_n 3, 1) := by decide +kernel
theorem d_M_nextZeta_32 : decode c_M_nextZeta 32 = .ok (.iload_n 2, 1) := by decide +kernel
theorem d_M_nextZeta_33 : decode c_M_nextZeta 33 = .ok (.iload_n 3, 1) := by decide +kernel
theorem d_M_nextZeta_34 : decode c_M_nextZeta 34 = .ok (.if_icmp .ge 9, 3) := by decide +kernel
theorem d_M_nextZeta_37 : decode c_M_nextZeta 37 = .ok (.iload_n 2, 1) := by decide +kernel
theorem d_M_nextZeta_38 : decode c_M_nextZeta 38 = .ok (.iload_n 3, 1) := by decide +kernel
theorem d_M_nextZeta_39 : decode c_M_nextZeta 39 = .ok (.iadd, 1) := by decide +kernel
theorem d_M_nextZeta_40 : decode c_M_nextZeta 40 = .ok (.iconst 1, 1) := by decide +kernel
theorem d_M_nextZeta_41 : decode c_M_nextZeta 41 = .ok (.isub, 1) := by decide +kernel
theorem d_M_nextZeta_42 : decode c_M_nextZeta 42 = .ok (.ireturn, 1) := by decide +kernel
theorem d_M_nextZeta_43 : decode c_M_nextZeta 43 = .ok (.aload_n 0, 1) := by decide +kernel
theorem d_M_nextZeta_44 : decode c_M_nextZeta 44 = .ok (.invokevirtual 131, 3) := by decide +kernel
theorem d_M_nextZeta_47 : decode c_M_nextZeta 47 = .ok (.istore 4, 2) := by decide +kernel
theorem d_M_nextZeta_49 : decode c_M_nextZeta 49 = .ok (.iconst 2, 1) := by decide +kernel
theorem d_M_nextZeta_50 : decode c_M_nextZeta 50 = .ok (.iload_n 2, 1) := by decide +kernel
theorem d_M_nextZeta_51 : decode c_M_nextZeta 51 = .ok (.imul, 1) := by decide +kernel
theorem d_M_nextZeta_52 : decode c_M_nextZeta 52 = .ok (.iload 4, 2) := by decide +kernel
theorem d_M_nextZeta_54 : decode c_M_nextZeta 54 = .ok (.iadd, 1) := by decide +kernel
theorem d_M_nextZeta_55 : decode c_M_nextZeta 55 = .ok (.iconst 1, 1) := by decide +kernel
theorem d_M_nextZeta_56 : decode c_M_nextZeta 56 = .ok (.isub, 1) := by decide +kernel
theorem d_M_nextZeta_57 : decode c_M_nextZeta 57 = .ok (.ireturn, 1) := by decide +kernel
theorem d_M_take_0 : decode c_M_take 0 = .ok (.aload_n 0, 1) := by decide +kernel
theorem d_M_take_1 : decode c_M_take 1 = .ok (.aload_n 0, 1) := by decide +kernel
theorem d_M_take_2 : decode c_M_take 2 = .ok (.getfield 141, 3) := by decide +kernel
theorem d_M_take_5 : decode c_M_take 5 = .ok (.ifCond .ne 15, 3) := by decide +kernel
theorem d_M_take_8 : decode c_M_take 8 = .ok (.aload_n 0, 1) := by decide +kernel
theorem d_M_take_9 : decode c_M_take 9 = .ok (.getfield 145, 3) := by decide +kernel
theorem d_M_take_12 : decode c_M_take 12 = .ok (.iload_n 1, 1) := by decide +kernel
theorem d_M_take_13 : decode c_M_take 13 = .ok (.ishr, 1) := by decide +kernel
theorem d_M_take_14 : decode c_M_take 14 = .ok (.iconst 1, 1) := by decide +kernel
theorem d_M_take_15 : decode c_M_take 15 = .ok (.iand, 1) := by decide +kernel
theorem d_M_take_16 : decode c_M_take 16 = .ok (.iconst 1, 1) := by decide +kernel
theorem d_M_take_17 : decode c_M_take 17 = .ok (.if_icmp .ne 7, 3) := by decide +kernel
theorem d_M_take_20 : decode c_M_take 20 = .ok (.iconst 1, 1) := by decide +kernel
theorem d_M_take_21 : decode c_M_take 21 = .ok (.goto 4, 3) := by decide +kernel
theorem d_M_take_24 : decode c_M_take 24 = .ok (.iconst 0, 1) := by decide +kernel
theorem d_M_take_25 : decode c_M_take 25 = .ok (.putfield 141, 3) := by decide +kernel
theorem d_M_take_28 : decode c_M_take 28 = .ok (.aload_n 0, 1) := by decide +kernel
theorem d_M_take_29 : decode c_M_take 29 = .ok (.dup, 1) := by decide +kernel
theorem d_M_take_30 : decode c_M_take 30 = .ok (.getfield 145, 3) := by decide +kernel
theorem d_M_take_33 : decode c_M_take 33 = .ok (.iconst 1, 1) := by decide +kernel
theorem d_M_take_34 : decode c_M_take 34 = .ok (.iload_n 1, 1) := by decide +kernel
theorem d_M_take_35 : decode c_M_take 35 = .ok (.ishl, 1) := by decide +kernel
theorem d_M_take_36 : decode c_M_take 36 = .ok (.ior, 1) := by decide +kernel
theorem d_M_take_37 : decode c_M_take 37 = .ok (.putfield 145, 3) := by decide +kernel
theorem d_M_take_40 : decode c_M_take 40 = .ok (.return_, 1) := by decide +kernel
theorem d_M_readRuns_0 : decode c_M_readRuns 0 = .ok (.aload_n 0, 1) := by decide +kernel
theorem d_M_readRuns_1 : decode c_M_readRuns 1 = .ok (.invokevirtual 148, 3) := by decide +kernel
theorem d_M_readRuns_4 : decode c_M_readRuns 4 = .ok (.istore_n 3, 1) := by decide +kernel
theorem d_M_readRuns_5 : decode c_M_readRuns 5 = .ok (.iconst 0, 1) := by decide +kernel
theorem d_M_readRuns_6 : decode c_M_readRuns 6 = .ok (.istore 4, 2) := by decide +kernel
theorem d_M_readRuns_8 : decode c_M_readRuns 8 = .ok (.iconst 0, 1) := by decide +kernel
theorem d_M_readRuns_9 : decode c_M_readRuns 9 = .ok (.istore 5, 2) := by decide +kernel
theorem d_M_readRuns_11 : decode c_M_readRuns 11 = .ok (.iload 5, 2) := by decide +kernel
theorem d_M_readRuns_13 : decode c_M_readRuns 13 = .ok (.iload_n 3, 1) := by decide +kernel
theorem d_M_readRuns_14 : decode c_M_readRuns 14 = .ok (.if_icmp .ge 89, 3) := by decide +kernel
theorem d_M_readRuns_17 : decode c_M_readRuns 17 = .ok (.aload_n 0, 1) := by decide +kernel
theorem d_M_readRuns_18 : decode c_M_readRuns 18 = .ok (.getfield 125, 3) := by decide +kernel
theorem d_M_readRuns_21 : decode c_M_readRuns 21 = .ok (.ifCond .ne 82, 3) := by decide +kernel
theorem d_M_readRuns_24 : decode c_M_readRuns 24 = .ok (.aload_n 0, 1) := by decide +kernel
theorem d_M_readRuns_25 : decode c_M_readRuns 25 = .ok (.invokevirtual 148, 3) := by decide +kernel
theorem d_M_readRuns_28 : decode c_M_readRuns 28 = .ok (.iload 5, 2) := by decide +kernel
theorem d_M_readRuns_30 : decode c_M_readRuns 30 = .ok (.ifCond .le 7, 3) := by decide +kernel
theorem d_M_readRuns_33 : decode c_M_readRuns 33 = .ok (.iconst 1, 1) := by decide +kernel
theorem d_M_readRuns_34 : decode c_M_readRuns 34 = .ok (.goto 4, 3) := by decide +kernel
theorem d_M_readRuns_37 : decode c_M_readRuns 37 = .ok (.iconst 0, 1) := by decide +kernel
theorem d_M_readRuns_38 : decode c_M_readRuns 38 = .ok (.iadd, 1) := by decide +kernel
theorem d_M_readRuns_39 : decode c_M_readRuns 39 = .ok (.istore 6, 2) := by decide +kernel
theorem d_M_readRuns_41 : decode c_M_readRuns 41 = .ok (.iload 4, 2) := by decide +kernel
theorem d_M_readRuns_43 : decode c_M_readRuns 43 = .ok (.istore 7, 2) := by decide +kernel
theorem d_M_readRuns_45 : decode c_M_readRuns 45 = .ok (.iload 4, 2) := by decide +kernel
theorem d_M_readRuns_47 : decode c_M_readRuns 47 = .ok (.iload 6, 2) := by decide +kernel
theorem d_M_readRuns_49 : decode c_M_readRuns 49 = .ok (.iadd, 1) := by decide +kernel
theorem d_M_readRuns_50 : decode c_M_readRuns 50 = .ok (.istore 4, 2) := by decide +kernel
theorem d_M_readRuns_52 : decode c_M_readRuns 52 = .ok (.aload_n 0, 1) := by decide +kernel
theorem d_M_readRuns_53 : decode c_M_readRuns 53 = .ok (.getfield 125, 3) := by decide +kernel
theorem d_M_readRuns_56 : decode c_M_readRuns 56 = .ok (.ifCond .ne 18, 3) := by decide +kernel
theorem d_M_readRuns_59 : decode c_M_readRuns 59 = .ok (.iload 4, 2) := by decide +kernel
theorem d_M_readRuns_61 : decode c_M_readRuns 61 = .ok (.iload_n 1, 1) := by decide +kernel
theorem d_M_readRuns_62 : decode c_M_readRuns 62 = .ok (.invokestatic 106, 3) := by decide +kernel
theorem d_M_readRuns_65 : decode c_M_readRuns 65 = .ok (.if_icmp .le 9, 3) := by decide +kernel
theorem d_M_readRuns_68 : decode c_M_readRuns 68 = .ok (.aload_n 0, 1) := by decide +kernel
theorem d_M_readRuns_69 : decode c_M_readRuns 69 = .ok (.bipush 6, 2) := by decide +kernel
theorem d_M_readRuns_71 : decode c_M_readRuns 71 = .ok (.putfield 125, 3) := by decide +kernel
theorem d_M_readRuns_74 : decode c_M_readRuns 74 = .ok (.aload_n 0, 1) := by decide +kernel
theorem d_M_readRuns_75 : decode c_M_readRuns 75 = .ok (.getfield 125, 3) := by decide +kernel
theorem d_M_readRuns_78 : decode c_M_readRuns 78 = .ok (.ifCond .ne 19, 3) := by decide +kernel
theorem d_M_readRuns_81 : decode c_M_readRuns 81 = .ok (.iload 5, 2) := by decide +kernel
theorem d_M_readRuns_83 : decode c_M_readRuns 83 = .ok (.iconst 2, 1) := by decide +kernel
theorem d_M_readRuns_84 : decode c_M_readRuns 84 = .ok (.irem, 1) := by decide +kernel
theorem d_M_readRuns_85 : decode c_M_readRuns 85 = .ok (.ifCond .ne 12, 3) := by decide +kernel
theorem d_M_readRuns_88 : decode c_M_readRuns 88 = .ok (.aload_n 0, 1) := by decide +kernel
theorem d_M_readRuns_89 : decode c_M_readRuns 89 = .ok (.iload_n 1, 1) := by decide +kernel
theorem d_M_readRuns_90 : decode c_M_readRuns 90 = .ok (.iload 7, 2) := by decide +kernel
theorem d_M_readRuns_92 : decode c_M_readRuns 92 = .ok (.iload 4, 2) := by decide +kernel
theorem d_M_readRuns_94 : decode c_M_readRuns 94 = .ok (.invokevirtual 151, 3) := by decide +kernel
theorem d_M_readRuns_97 : decode c_M_readRuns 97 = .ok (.iinc 5 1, 3) := by decide +kernel
theorem d_M_readRuns_100 : decode c_M_readRuns 100 = .ok (.goto (-89), 3) := by decide +kernel
theorem d_M_readRuns_103 : decode c_M_readRuns 103 = .ok (.aload_n 0, 1) := by decide +kernel
theorem d_M_readRuns_104 : decode c_M_readRuns 104 = .ok (.getfield 125, 3) := by decide +kernel
theorem d_M_readRuns_107 : decode c_M_readRuns 107 = .ok (.ifCond .ne 18, 3) := by decide +kernel
theorem d_M_readRuns_110 : decode c_M_readRuns 110 = .ok (.iload_n 3, 1) := by decide +kernel
theorem d_M_readRuns_111 : decode c_M_readRuns 111 = .ok (.iconst 2, 1) := by decide +kernel
theorem d_M_readRuns_112 : decode c_M_readRuns 112 = .ok (.irem, 1) := by decide +kernel
theorem d_M_readRuns_113 : decode c_M_readRuns 113 = .ok (.ifCond .ne 12, 3) := by decide +kernel
theorem d_M_readRuns_116 : decode c_M_readRuns 116 = .ok (.aload_n 0, 1) := by decide +kernel
theorem d_M_readRuns_117 : decode c_M_readRuns 117 = .ok (.iload_n 1, 1) := by decide +kernel
theorem d_M_readRuns_118 : decode c_M_readRuns 118 = .ok (.iload 4, 2) := by decide +kernel
theorem d_M_readRuns_120 : decode c_M_readRuns 120 = .ok (.bipush 12, 2) := by decide +kernel
theorem d_M_readRuns_122 : decode c_M_readRuns 122 = .ok (.invokevirtual 151, 3) := by decide +kernel
theorem d_M_readRuns_125 : decode c_M_readRuns 125 = .ok (.aload_n 0, 1) := by decide +kernel
theorem d_M_readRuns_126 : decode c_M_readRuns 126 = .ok (.getfield 125, 3) := by decide +kernel
theorem d_M_readRuns_129 : decode c_M_readRuns 129 = .ok (.ifCond .ne 20, 3) := by decide +kernel
theorem d_M_readRuns_132 : decode c_M_readRuns 132 = .ok (.aload_n 0, 1) := by decide +kernel
theorem d_M_readRuns_133 : decode c_M_readRuns 133 = .ok (.getfield 145, 3) := by decide +kernel
theorem d_M_readRuns_136 : decode c_M_readRuns 136 = .ok (.invokestatic 106, 3) := by decide +kernel
theorem d_M_readRuns_139 : decode c_M_readRuns 139 = .ok (.iload_n 2, 1) := by decide +kernel
theorem d_M_readRuns_140 : decode c_M_readRuns 140 = .ok (.if_icmp .le 9, 3) := by decide +kernel
theorem d_M_readRuns_143 : decode c_M_readRuns 143 = .ok (.aload_n 0, 1) := by decide +kernel
theorem d_M_readRuns_144 : decode c_M_readRuns 144 = .ok (.bipush 6, 2) := by decide +kernel
theorem d_M_readRuns_146 : decode c_M_readRuns 146 = .ok (.putfield 125, 3) := by decide +kernel
theorem d_M_readRuns_149 : decode c_M_readRuns 149 = .ok (.return_, 1) := by decide +kernel
theorem d_M_copy_0 : decode c_M_copy 0 = .ok (.iconst 0, 1) := by decide +kernel
theorem d_M_copy_1 : decode c_M_copy 1 = .ok (.istore 4, 2) := by decide +kernel
theorem d_M_copy_3 : decode c_M_copy 3 = .ok (.iconst 0, 1) := by decide +kernel
theorem d_M_copy_4 : decode c_M_copy 4 = .ok (.istore 5, 2) := by decide +kernel
theorem d_M_copy_6 : decode c_M_copy 6 = .ok (.iload 5, 2) := by decide +kernel
theorem d_M_copy_8 : decode c_M_copy 8 = .ok (.aload_n 0, 1) := by decide +kernel
theorem d_M_copy_9 : decode c_M_copy 9 = .ok (.getfield 56, 3) := by decide +kernel
theorem d_M_copy_12 : decode c_M_copy 12 = .ok (.if_icmp .ge 40, 3) := by decide +kernel
theorem d_M_copy_15 : decode c_M_copy 15 = .ok (.iload_n 1, 1) := by decide +kernel
theorem d_M_copy_16 : decode c_M_copy 16 = .ok (.iload 5, 2) := by decide +kernel
theorem d_M_copy_18 : decode c_M_copy 18 = .ok (.ishr, 1) := by decide +kernel
theorem d_M_copy_19 : decode c_M_copy 19 = .ok (.iconst 1, 1) := by decide +kernel
theorem d_M_copy_20 : decode c_M_copy 20 = .ok (.iand, 1) := by decide +kernel
theorem d_M_copy_21 : decode c_M_copy 21 = .ok (.iconst 1, 1) := by decide +kernel
theorem d_M_copy_22 : decode c_M_copy 22 = .ok (.if_icmp .ne 24, 3) := by decide +kernel
theorem d_M_copy_25 : decode c_M_copy 25 = .ok (.iload 4, 2) := by decide +kernel
theorem d_M_copy_27 : decode c_M_copy 27 = .ok (.iload_n 2, 1) := by decide +kernel
theorem d_M_copy_28 : decode c_M_copy 28 = .ok (.if_icmp .lt 15, 3) := by decide +kernel
theorem d_M_copy_31 : decode c_M_copy 31 = .ok (.iload 4, 2) := by decide +kernel
theorem d_M_copy_33 : decode c_M_copy 33 = .ok (.iload_n 3, 1) := by decide +kernel
theorem d_M_copy_34 : decode c_M_copy 34 = .ok (.if_icmp .ge 9, 3) := by decide +kernel
theorem d_M_copy_37 : decode c_M_copy 37 = .ok (.aload_n 0, 1) := by decide +kernel
theorem d_M_copy_38 : decode c_M_copy 38 = .ok (.iload 5, 2) := by decide +kernel
theorem d_M_copy_40 : decode c_M_copy 40 = .ok (.invokevirtual 155, 3) := by decide +kernel
theorem d_M_copy_43 : decode c_M_copy 43 = .ok (.iinc 4 1, 3) := by decide +kernel
theorem d_M_copy_46 : decode c_M_copy 46 = .ok (.iinc 5 1, 3) := by decide +kernel
theorem d_M_copy_49 : decode c_M_copy 49 = .ok (.goto (-43), 3) := by decide +kernel
theorem d_M_copy_52 : decode c_M_copy 52 = .ok (.return_, 1) := by decide +kernel
theorem d_M_readIntervals_0 : decode c_M_readIntervals 0 = .ok (.aload_n 0, 1) := by decide +kernel
theorem d_M_readIntervals_1 : decode c_M_readIntervals 1 = .ok (.invokevirtual 148, 3) := by decide +kernel
theorem d_M_readIntervals_4 : decode c_M_readIntervals 4 = .ok (.istore_n 3, 1) := by decide +kernel
theorem d_M_readIntervals_5 : decode c_M_readIntervals 5 = .ok (.iconst 0, 1) := by decide +kernel
theorem d_M_readIntervals_6 : decode c_M_readIntervals 6 = .ok (.istore 4, 2) := by decide +kernel
theorem d_M_readIntervals_8 : decode c_M_readIntervals 8 = .ok (.iconst 0, 1) := by decide +kernel
theorem d_M_readIntervals_9 : decode c_M_readIntervals 9 = .ok (.istore 5, 2) := by decide +kernel
theorem d_M_readIntervals_11 : decode c_M_readIntervals 11 = .ok (.iconst 0, 1) := by decide +kernel
theorem d_M_readIntervals_12 : decode c_M_readIntervals 12 = .ok (.istore 6, 2) := by decide +kernel
theorem d_M_readIntervals_14 : decode c_M_readIntervals 14 = .ok (.iload 6, 2) := by decide +kernel
theorem d_M_readIntervals_16 : decode c_M_readIntervals 16 = .ok (.iload_n 3, 1) := by decide +kernel
theorem d_M_readIntervals_17 : decode c_M_readIntervals 17 = .ok (.if_icmp .ge 155, 3) := by decide +kernel
theorem d_M_readIntervals_20 : decode c_M_readIntervals 20 = .ok (.aload_n 0, 1) := by decide +kernel
theorem d_M_readIntervals_21 : decode c_M_readIntervals 21 = .ok (.getfield 125, 3) := by decide +kernel
theorem d_M_readIntervals_24 : decode c_M_readIntervals 24 = .ok (.ifCond .ne 148, 3) := by decide +kernel
theorem d_M_readIntervals_27 : decode c_M_readIntervals 27 = .ok (.aload_n 0, 1) := by decide +kernel
theorem d_M_readIntervals_28 : decode c_M_readIntervals 28 = .ok (.invokevirtual 148, 3) := by decide +kernel
theorem d_M_readIntervals_31 : decode c_M_readIntervals 31 = .ok (.istore 7, 2) := by decide +kernel
theorem d_M_readIntervals_33 : decode c_M_readIntervals 33 = .ok (.iload 6, 2) := by decide +kernel
theorem d_M_readIntervals_35 : decode c_M_readIntervals 35 = .ok (.ifCond .ne 13, 3) := by decide +kernel
theorem d_M_readIntervals_38 : decode c_M_readIntervals 38 = .ok (.iload_n 1, 1) := by decide +kernel
theorem d_M_readIntervals_39 : decode c_M_readIntervals 39 = .ok (.iload 7, 2) := by decide +kernel
theorem d_M_readIntervals_41 : decode c_M_readIntervals 41 = .ok (.invokestatic 158, 3) := by decide +kernel
theorem d_M_readIntervals_44 : decode c_M_readIntervals 44 = .ok (.iadd, 1) := by decide +kernel
theorem d_M_readIntervals_45 : decode c_M_readIntervals 45 = .ok (.goto 10, 3) := by decide +kernel
theorem d_M_readIntervals_48 : decode c_M_readIntervals 48 = .ok (.iload 5, 2) := by decide +kernel
theorem d_M_readIntervals_50 : decode c_M_readIntervals 50 = .ok (.iconst 2, 1) := by decide +kernel
theorem d_M_readIntervals_51 : decode c_M_readIntervals 51 = .ok (.iadd, 1) := by decide +kernel
theorem d_M_readIntervals_52 : decode c_M_readIntervals 52 = .ok (.iload 7, 2) := by decide +kernel
theorem d_M_readIntervals_54 : decode c_M_readIntervals 54 = .ok (.iadd, 1) := by decide +kernel
theorem d_M_readIntervals_55 : decode c_M_readIntervals 55 = .ok (.istore 8, 2) := by decide +kernel
theorem d_M_readIntervals_57 : decode c_M_readIntervals 57 = .ok (.aload_n 0, 1) := by decide +kernel
theorem d_M_readIntervals_58 : decode c_M_readIntervals 58 = .ok (.getfield 125, 3) := by decide +kernel
theorem d_M_readIntervals_61 : decode c_M_readIntervals 61 = .ok (.ifCond .ne 18, 3) := by decide +kernel
theorem d_M_readIntervals_64 : decode c_M_readIntervals 64 = .ok (.aload_n 0, 1) := by decide +kernel
theorem d_M_readIntervals_65 : decode c_M_readIntervals 65 = .ok (.iload 8, 2) := by decide +kernel
theorem d_M_readIntervals_67 : decode c_M_readIntervals 67 = .ok (.invokevirtual 68, 3) := by decide +kernel
theorem d_M_readIntervals_70 : decode c_M_readIntervals 70 = .ok (.ifCond .ne 9, 3) := by decide +kernel
theorem d_M_readIntervals_73 : decode c_M_readIntervals 73 = .ok (.aload_n 0, 1) := by decide +kernel
theorem d_M_readIntervals_74 : decode c_M_readIntervals 74 = .ok (.bipush 7, 2) := by decide +kernel
theorem d_M_readIntervals_76 : decode c_M_readIntervals 76 = .ok (.putfield 125, 3) := by decide +kernel
theorem d_M_readIntervals_79 : decode c_M_readIntervals 79 = .ok (.aload_n 0, 1) := by decide +kernel
theorem d_M_readIntervals_80 : decode c_M_readIntervals 80 = .ok (.invokevirtual 148, 3) := by decide +kernel
theorem d_M_readIntervals_83 : decode c_M_readIntervals 83 = .ok (.aload_n 0, 1) := by decide +kernel
theorem d_M_readIntervals_84 : decode c_M_readIntervals 84 = .ok (.getfield 92, 3) := by decide +kernel
theorem d_M_readIntervals_87 : decode c_M_readIntervals 87 = .ok (.iadd, 1) := by decide +kernel
theorem d_M_readIntervals_88 : decode c_M_readIntervals 88 = .ok (.istore 9, 2) := by decide +kernel
theorem d_M_readIntervals_90 : decode c_M_readIntervals 90 = .ok (.iload 8, 2) := by decide +kernel
theorem d_M_readIntervals_92 : decode c_M_readIntervals 92 = .ok (.iload 9, 2) := by decide +kernel
theorem d_M_readIntervals_94 : decode c_M_readIntervals 94 = .ok (.iadd, 1) := by decide +kernel
theorem d_M_readIntervals_95 : decode c_M_readIntervals 95 = .ok (.iconst 1, 1) := by decide +kernel
theorem d_M_readIntervals_96 : decode c_M_readIntervals 96 = .ok (.isub, 1) := by decide +kernel
theorem d_M_readIntervals_97 : decode c_M_readIntervals 97 = .ok (.istore 5, 2) := by decide +kernel
theorem d_M_readIntervals_99 : decode c_M_readIntervals 99 = .ok (.iload 4, 2) := by decide +kernel
theorem d_M_readIntervals_101 : decode c_M_readIntervals 101 = .ok (.iload 9, 2) := by decide +kernel
theorem d_M_readIntervals_103 : decode c_M_readIntervals 103 = .ok (.iadd, 1) := by decide +kernel
theorem d_M_readIntervals_104 : decode c_M_readIntervals 104 = .ok (.istore 4, 2) := by decide +kernel
theorem d_M_readIntervals_106 : decode c_M_readIntervals 106 = .ok (.aload_n 0, 1) := by decide +kernel
theorem d_M_readIntervals_107 : decode c_M_readIntervals 107 = .ok (.getfield 125, 3) := by decide +kernel
theorem d_M_readIntervals_110 : decode c_M_readIntervals 110 = .ok (.ifCond .ne 26, 3) := by decide +kernel
theorem d_M_readIntervals_113 : decode c_M_readIntervals 113 = .ok (.iload 5, 2) := by decide +kernel
theorem d_M_readIntervals_115 : decode c_M_readIntervals 115 = .ok (.aload_n 0, 1) := by decide +kernel
theorem d_M_readIntervals_116 : decode c_M_readIntervals 116 = .ok (.getfield 56, 3) := by decide +kernel
theorem d_M_readIntervals_119 : decode c_M_readIntervals 119 = .ok (.iconst 1, 1) := by decide +kernel
theorem d_M_readIntervals_120 : decode c_M_readIntervals 120 = .ok (.isub, 1) := by decide +kernel
theorem d_M_readIntervals_121 : decode c_M_readIntervals 121 = .ok (.if_icmp .gt 9, 3) := by decide +kernel
theorem d_M_readIntervals_124 : decode c_M_readIntervals 124 = .ok (.iload 4, 2) := by decide +kernel
theorem d_M_readIntervals_126 : decode c_M_readIntervals 126 = .ok (.iload_n 2, 1) := by decide +kernel
theorem d_M_readIntervals_127 : decode c_M_readIntervals 127 = .ok (.if_icmp .le 9, 3) := by decide +kernel
theorem d_M_readIntervals_130 : decode c_M_readIntervals 130 = .ok (.aload_n 0, 1) := by decide +kernel
theorem d_M_readIntervals_131 : decode c_M_readIntervals 131 = .ok (.bipush 7, 2) := by decide +kernel
theorem d_M_readIntervals_133 : decode c_M_readIntervals 133 = .ok (.putfield 125, 3) := by decide +kernel
theorem d_M_readIntervals_136 : decode c_M_readIntervals 136 = .ok (.iload 8, 2) := by decide +kernel
theorem d_M_readIntervals_138 : decode c_M_readIntervals 138 = .ok (.istore 10, 2) := by decide +kernel
theorem d_M_readIntervals_140 : decode c_M_readIntervals 140 = .ok (.iload 10, 2) := by decide +kernel
theorem d_M_readIntervals_142 : decode c_M_readIntervals 142 = .ok (.iload 5, 2) := by decide +kernel
theorem d_M_readIntervals_144 : decode c_M_readIntervals 144 = .ok (.if_icmp .gt 22, 3) := by decide +kernel
theorem d_M_readIntervals_147 : decode c_M_readIntervals 147 = .ok (.aload_n 0, 1) := by decide +kernel
theorem d_M_readIntervals_148 : decode c_M_readIntervals 148 = .ok (.getfield 125, 3) := by decide +kernel
theorem d_M_readIntervals_151 : decode c_M_readIntervals 151 = .ok (.ifCond .ne 15, 3) := by decide +kernel
theorem d_M_readIntervals_154 : decode c_M_readIntervals 154 = .ok (.aload_n 0, 1) := by decide +kernel
theorem d_M_readIntervals_155 : decode c_M_readIntervals 155 = .ok (.iload 10, 2) := by decide +kernel
theorem d_M_readIntervals_157 : decode c_M_readIntervals 157 = .ok (.invokevirtual 155, 3) := by decide +kernel
theorem d_M_readIntervals_160 : decode c_M_readIntervals 160 = .ok (.iinc 10 1, 3) := by decide +kernel
theorem d_M_readIntervals_163 : decode c_M_readIntervals 163 = .ok (.goto (-23), 3) := by decide +kernel
theorem d_M_readIntervals_166 : decode c_M_readIntervals 166 = .ok (.iinc 6 1, 3) := by decide +kernel
theorem d_M_readIntervals_169 : decode c_M_readIntervals 169 = .ok (.goto (-155), 3) := by decide +kernel
theorem d_M_readIntervals_172 : decode c_M_readIntervals 172 = .ok (.iload 4, 2) := by decide +kernel
theorem d_M_readIntervals_174 : decode c_M_readIntervals 174 = .ok (.ireturn, 1) := by decide +kernel
theorem d_M_readParts_0 : decode c_M_readParts 0 = .ok (.aload_n 0, 1) := by decide +kernel
theorem d_M_readParts_1 : decode c_M_readParts 1 = .ok (.getfield 109, 3) := by decide +kernel
theorem d_M_readParts_4 : decode c_M_readParts 4 = .ok (.ifCond .le 10, 3) := by decide +kernel
theorem d_M_readParts_7 : decode c_M_readParts 7 = .ok (.aload_n 0, 1) := by decide +kernel
theorem d_M_readParts_8 : decode c_M_readParts 8 = .ok (.invokevirtual 135, 3) := by decide +kernel
theorem d_M_readParts_11 : decode c_M_readParts 11 = .ok (.goto 4, 3) := by decide +kernel
theorem d_M_readParts_14 : decode c_M_readParts 14 = .ok (.iconst 0, 1) := by decide +kernel
theorem d_M_readParts_15 : decode c_M_readParts 15 = .ok (.istore_n 3, 1) := by decide +kernel
theorem d_M_readParts_16 : decode c_M_readParts 16 = .ok (.aload_n 0, 1) := by decide +kernel
theorem d_M_readParts_17 : decode c_M_readParts 17 = .ok (.getfield 125, 3) := by decide +kernel
theorem d_M_readParts_20 : decode c_M_readParts 20 = .ok (.ifCond .ne 21, 3) := by decide +kernel
theorem d_M_readParts_23 : decode c_M_readParts 23 = .ok (.iload_n 3, 1) := by decide +kernel
theorem d_M_readParts_24 : decode c_M_readParts 24 = .ok (.aload_n 0, 1) := by decide +kernel
theorem d_M_readParts_25 : decode c_M_readParts 25 = .ok (.getfield 109, 3) := by decide +kernel
theorem d_M_readParts_28 : decode c_M_readParts 28 = .ok (.if_icmp .gt 8, 3) := by decide +kernel
theorem d_M_readParts_31 : decode c_M_readParts 31 = .ok (.iload_n 3, 1) := by decide +kernel
theorem d_M_readParts_32 : decode c_M_readParts 32 = .ok (.iload_n 1, 1) := by decide +kernel
theorem d_M_readParts_33 : decode c_M_readParts 33 = .ok (.if_icmp .le 8, 3) := by decide +kernel
theorem d_M_readParts_36 : decode c_M_readParts 36 = .ok (.aload_n 0, 1) := by decide +kernel
theorem d_M_readParts_37 : decode c_M_readParts 37 = .ok (.iconst 4, 1) := by decide +kernel
theorem d_M_readParts_38 : decode c_M_readParts 38 = .ok (.putfield 125, 3) := by decide +kernel
theorem d_M_readParts_41 : decode c_M_readParts 41 = .ok (.aload_n 0, 1) := by decide +kernel
theorem d_M_readParts_42 : decode c_M_readParts 42 = .ok (.getfield 125, 3) := by decide +kernel
theorem d_M_readParts_45 : decode c_M_readParts 45 = .ok (.ifCond .ne 38, 3) := by decide +kernel
theorem d_M_readParts_48 : decode c_M_readParts 48 = .ok (.iload_n 3, 1) := by decide +kernel
theorem d_M_readParts_49 : decode c_M_readParts 49 = .ok (.ifCond .le 34, 3) := by decide +kernel
theorem d_M_readParts_52 : decode c_M_readParts 52 = .ok (.aload_n 0, 1) := by decide +kernel
theorem d_M_readParts_53 : decode c_M_readParts 53 = .ok (.getfield 28, 3) := by decide +kernel
theorem d_M_readParts_56 : decode c_M_readParts 56 = .ok (.iload_n 1, 1) := by decide +kernel
theorem d_M_readParts_57 : decode c_M_readParts 57 = .ok (.iload_n 3, 1) := by decide +kernel
theorem d_M_readParts_58 : decode c_M_readParts 58 = .ok (.isub, 1) := by decide +kernel
theorem d_M_readParts_59 : decode c_M_readParts 59 = .ok (.iaload, 1) := by decide +kernel
theorem d_M_readParts_60 : decode c_M_readParts 60 = .ok (.ifCond .gt 18, 3) := by decide +kernel
theorem d_M_readParts_63 : decode c_M_readParts 63 = .ok (.aload_n 0, 1) := by decide +kernel
theorem d_M_readParts_64 : decode c_M_readParts 64 = .ok (.getfield 34, 3) := by decide +kernel
theorem d_M_readParts_67 : decode c_M_readParts 67 = .ok (.iload_n 1, 1) := by decide +kernel
theorem d_M_readParts_68 : decode c_M_readParts 68 = .ok (.iload_n 3, 1) := by decide +kernel
theorem d_M_readParts_69 : decode c_M_readParts 69 = .ok (.isub, 1) := by decide +kernel
theorem d_M_readParts_70 : decode c_M_readParts 70 = .ok (.iaload, 1) := by decide +kernel
theorem d_M_readParts_71 : decode c_M_readParts 71 = .ok (.aload_n 0, 1) := by decide +kernel
theorem d_M_readParts_72 : decode c_M_readParts 72 = .ok (.getfield 118, 3) := by decide +kernel
theorem d_M_readParts_75 : decode c_M_readParts 75 = .ok (.if_icmp .lt 8, 3) := by decide +kernel
theorem d_M_readParts_78 : decode c_M_readParts 78 = .ok (.aload_n 0, 1) := by decide +kernel
theorem d_M_readParts_79 : decode c_M_readParts 79 = .ok (.iconst 5, 1) := by decide +kernel
theorem d_M_readParts_80 : decode c_M_readParts 80 = .ok (.putfield 125, 3) := by decide +kernel
theorem d_M_readParts_83 : decode c_M_readParts 83 = .ok (.aload_n 0, 1) := by decide +kernel
theorem d_M_readParts_84 : decode c_M_readParts 84 = .ok (.getfield 125, 3) := by decide +kernel
theorem d_M_readParts_87 : decode c_M_readParts 87 = .ok (.ifCond .ne 43, 3) := by decide +kernel
theorem d_M_readParts_90 : decode c_M_readParts 90 = .ok (.iload_n 3, 1) := by decide +kernel
theorem d_M_readParts_91 : decode c_M_readParts 91 = .ok (.ifCond .le 39, 3) := by decide +kernel
theorem d_M_readParts_94 : decode c_M_readParts 94 = .ok (.aload_n 0, 1) := by decide +kernel
theorem d_M_readParts_95 : decode c_M_readParts 95 = .ok (.getfield 31, 3) := by decide +kernel
theorem d_M_readParts_98 : decode c_M_readParts 98 = .ok (.iload_n 1, 1) := by decide +kernel
theorem d_M_readParts_99 : decode c_M_readParts 99 = .ok (.iload_n 3, 1) := by decide +kernel
theorem d_M_readParts_100 : decode c_M_readParts 100 = .ok (.iastore, 1) := by decide +kernel
theorem d_M_readParts_101 : decode c_M_readParts 101 = .ok (.aload_n 0, 1) := by decide +kernel
theorem d_M_readParts_102 : decode c_M_readParts 102 = .ok (.getfield 34, 3) := by decide +kernel
theorem d_M_readParts_105 : decode c_M_readParts 105 = .ok (.iload_n 1, 1) := by decide +kernel
theorem d_M_readParts_106 : decode c_M_readParts 106 = .ok (.iconst 1, 1) := by decide +kernel
theorem d_M_readParts_107 : decode c_M_readParts 107 = .ok (.aload_n 0, 1) := by decide +kernel
theorem d_M_readParts_108 : decode c_M_readParts 108 = .ok (.getfield 34, 3) := by decide +kernel
theorem d_M_readParts_111 : decode c_M_readParts 111 = .ok (.iload_n 1, 1) := by decide +kernel
theorem d_M_readParts_112 : decode c_M_readParts 112 = .ok (.iload_n 3, 1) := by decide +kernel
theorem d_M_readParts_113 : decode c_M_readParts 113 = .ok (.isub, 1) := by decide +kernel
theorem d_M_readParts_114 : decode c_M_readParts 114 = .ok (.iaload, 1) := by decide +kernel
theorem d_M_readParts_115 : decode c_M_readParts 115 = .ok (.iadd, 1) := by decide +kernel
theorem d_M_readParts_116 : decode c_M_readParts 116 = .ok (.iastore, 1) := by decide +kernel
theorem d_M_readParts_117 : decode c_M_readParts 117 = .ok (.aload_n 0, 1) := by decide +kernel
theorem d_M_readParts_118 : decode c_M_readParts 118 = .ok (.aload_n 0, 1) := by decide +kernel
theorem d_M_readParts_119 : decode c_M_readParts 119 = .ok (.getfield 25, 3) := by decide +kernel
theorem d_M_readParts_122 : decode c_M_readParts 122 = .ok (.iload_n 1, 1) := by decide +kernel
theorem d_M_readParts_123 : decode c_M_readParts 123 = .ok (.iload_n 3, 1) := by decide +kernel
theorem d_M_readParts_124 : decode c_M_readParts 124 = .ok (.isub, 1) := by decide +kernel
theorem d_M_readParts_125 : decode c_M_readParts 125 = .ok (.iaload, 1) := by decide +kernel
theorem d_M_readParts_126 : decode c_M_readParts 126 = .ok (.iload_n 2, 1) := by decide +kernel
theorem d_M_readParts_127 : decode c_M_readParts 127 = .ok (.invokevirtual 161, 3) := by decide +kernel
theorem d_M_readParts_130 : decode c_M_readParts 130 = .ok (.iload_n 2, 1) := by decide +kernel
theorem d_M_readParts_131 : decode c_M_readParts 131 = .ok (.aload_n 0, 1) := by decide +kernel
theorem d_M_readParts_132 : decode c_M_readParts 132 = .ok (.getfield 145, 3) := by decide +kernel
theorem d_M_readParts_135 : decode c_M_readParts 135 = .ok (.invokestatic 106, 3) := by decide +kernel
theorem d_M_readParts_138 : decode c_M_readParts 138 = .ok (.isub, 1) := by decide +kernel
theorem d_M_readParts_139 : decode c_M_readParts 139 = .ok (.istore 4, 2) := by decide +kernel
theorem d_M_readParts_141 : decode c_M_readParts 141 = .ok (.aload_n 0, 1) := by decide +kernel
theorem d_M_readParts_142 : decode c_M_readParts 142 = .ok (.getfield 125, 3) := by decide +kernel
theorem d_M_readParts_145 : decode c_M_readParts 145 = .ok (.ifCond .gt 8, 3) := by decide +kernel
theorem d_M_readParts_148 : decode c_M_readParts 148 = .ok (.iload 4, 2) := by decide +kernel
theorem d_M_readParts_150 : decode c_M_readParts 150 = .ok (.ifCond .ne 4, 3) := by decide +kernel
theorem d_M_readParts_153 : decode c_M_readParts 153 = .ok (.return_, 1) := by decide +kernel
theorem d_M_readParts_154 : decode c_M_readParts 154 = .ok (.aload_n 0, 1) := by decide +kernel
theorem d_M_readParts_155 : decode c_M_readParts 155 = .ok (.getfield 92, 3) := by decide +kernel
theorem d_M_readParts_158 : decode c_M_readParts 158 = .ok (.ifCond .le 16, 3) := by decide +kernel
theorem d_M_readParts_161 : decode c_M_readParts 161 = .ok (.iload 4, 2) := by decide +kernel
theorem d_M_readParts_163 : decode c_M_readParts 163 = .ok (.aload_n 0, 1) := by decide +kernel
theorem d_M_readParts_164 : decode c_M_readParts 164 = .ok (.iload_n 1, 1) := by decide +kernel
theorem d_M_readParts_165 : decode c_M_readParts 165 = .ok (.iload 4, 2) := by decide +kernel
theorem d_M_readParts_167 : decode c_M_readParts 167 = .ok (.invokevirtual 164, 3) := by decide +kernel
theorem d_M_readParts_170 : decode c_M_readParts 170 = .ok (.isub, 1) := by decide +kernel
theorem d_M_readParts_171 : decode c_M_readParts 171 = .ok (.goto 5, 3) := by decide +kernel
theorem d_M_readParts_174 : decode c_M_readParts 174 = .ok (.iload 4, 2) := by decide +kernel
theorem d_M_readParts_176 : decode c_M_readParts 176 = .ok (.istore 5, 2) := by decide +kernel
theorem d_M_readParts_178 : decode c_M_readParts 178 = .ok (.iconst 0, 1) := by decide +kernel
theorem d_M_readParts_179 : decode c_M_readParts 179 = .ok (.istore 6, 2) := by decide +kernel
theorem d_M_readParts_181 : decode c_M_readParts 181 = .ok (.iconst 0, 1) := by decide +kernel
theorem d_M_readParts_182 : decode c_M_readParts 182 = .ok (.istore 7, 2) := by decide +kernel
theorem d_M_readParts_184 : decode c_M_readParts 184 = .ok (.iload 7, 2) := by decide +kernel
theorem d_M_readParts_186 : decode c_M_readParts 186 = .ok (.iload 5, 2) := by decide +kernel
theorem d_M_readParts_188 : decode c_M_readParts 188 = .ok (.if_icmp .ge 85, 3) := by decide +kernel
theorem d_M_readParts_191 : decode c_M_readParts 191 = .ok (.aload_n 0, 1) := by decide +kernel
theorem d_M_readParts_192 : decode c_M_readParts 192 = .ok (.getfield 125, 3) := by decide +kernel
theorem d_M_readParts_195 : decode c_M_readParts 195 = .ok (.ifCond .ne 78, 3) := by decide +kernel
theorem d_M_readParts_198 : decode c_M_readParts 198 = .ok (.aload_n 0, 1) := by decide +kernel
theorem d_M_readParts_199 : decode c_M_readParts 199 = .ok (.invokevirtual 167, 3) := by decide +kernel
theorem d_M_readParts_202 : decode c_M_readParts 202 = .ok (.istore 8, 2) := by decide +kernel
theorem d_M_readParts_204 : decode c_M_readParts 204 = .ok (.iload 7, 2) := by decide +kernel
theorem d_M_readParts_206 : decode c_M_readParts 206 = .ok (.ifCond .ne 13, 3) := by decide +kernel
theorem d_M_readParts_209 : decode c_M_readParts 209 = .ok (.iload_n 1, 1) := by decide +kernel
theorem d_M_readParts_210 : decode c_M_readParts 210 = .ok (.iload 8, 2) := by decide +kernel
theorem d_M_readParts_212 : decode c_M_readParts 212 = .ok (.invokestatic 158, 3) := by decide +kernel
theorem d_M_readParts_215 : decode c_M_readParts 215 = .ok (.iadd, 1) := by decide +kernel
theorem d_M_readParts_216 : decode c_M_readParts 216 = .ok (.goto 10, 3) := by decide +kernel
theorem d_M_readParts_219 : decode c_M_readParts 219 = .ok (.iload 6, 2) := by decide +kernel
theorem d_M_readParts_221 : decode c_M_readParts 221 = .ok (.iconst 1, 1) := by decide +kernel
theorem d_M_readParts_222 : decode c_M_readParts 222 = .ok (.iadd, 1) := by decide +kernel
theorem d_M_readParts_223 : decode c_M_readParts 223 = .ok (.iload 8, 2) := by decide +kernel
theorem d_M_readParts_225 : decode c_M_readParts 225 = .ok (.iadd, 1) := by decide +kernel
theorem d_M_readParts_226 : decode c_M_readParts 226 = .ok (.istore 9, 2) := by decide +kernel
theorem d_M_readParts_228 : decode c_M_readParts 228 = .ok (.aload_n 0, 1) := by decide +kernel
theorem d_M_readParts_229 : decode c_M_readParts 229 = .ok (.getfield 125, 3) := by decide +kernel
theorem d_M_readParts_232 : decode c_M_readParts 232 = .ok (.ifCond .ne 18, 3) := by decide +kernel
theorem d_M_readParts_235 : decode c_M_readParts 235 = .ok (.aload_n 0, 1) := by decide +kernel
theorem d_M_readParts_236 : decode c_M_readParts 236 = .ok (.iload 9, 2) := by decide +kernel
theorem d_M_readParts_238 : decode c_M_readParts 238 = .ok (.invokevirtual 68, 3) := by decide +kernel
theorem d_M_readParts_241 : decode c_M_readParts 241 = .ok (.ifCond .ne 9, 3) := by decide +kernel
theorem d_M_readParts_244 : decode c_M_readParts 244 = .ok (.aload_n 0, 1) := by decide +kernel
theorem d_M_readParts_245 : decode c_M_readParts 245 = .ok (.bipush 8, 2) := by decide +kernel
theorem d_M_readParts_247 : decode c_M_readParts 247 = .ok (.putfield 125, 3) := by decide +kernel
theorem d_M_readParts_250 : decode c_M_readParts 250 = .ok (.aload_n 0, 1) := by decide +kernel
theorem d_M_readParts_251 : decode c_M_readParts 251 = .ok (.getfield 125, 3) := by decide +kernel
theorem d_M_readParts_254 : decode c_M_readParts 254 = .ok (.ifCond .ne 9, 3) := by decide +kernel
theorem d_M_readParts_257 : decode c_M_readParts 257 = .ok (.aload_n 0, 1) := by decide +kernel
theorem d_M_readParts_258 : decode c_M_readParts 258 = .ok (.iload 9, 2) := by decide +kernel
theorem d_M_readParts_260 : decode c_M_readParts 260 = .ok (.invokevirtual 155, 3) := by decide +kernel
theorem d_M_readParts_263 : decode c_M_readParts 263 = .ok (.iload 9, 2) := by decide +kernel
theorem d_M_readParts_265 : decode c_M_readParts 265 = .ok (.istore 6, 2) := by decide +kernel
theorem d_M_readParts_267 : decode c_M_readParts 267 = .ok (.iinc 7 1, 3) := by decide +kernel
theorem d_M_readParts_270 : decode c_M_readParts 270 = .ok (.goto (-86), 3) := by decide +kernel
theorem d_M_readParts_273 : decode c_M_readParts 273 = .ok (.return_, 1) := by decide +kernel
theorem d_M_read_0 : decode c_M_read 0 = .ok (.iconst 0, 1) := by decide +kernel
theorem d_M_read_1 : decode c_M_read 1 = .ok (.istore_n 1, 1) := by decide +kernel
theorem d_M_read_2 : decode c_M_read 2 = .ok (.iload_n 1, 1) := by decide +kernel
theorem d_M_read_3 : decode c_M_read 3 = .ok (.aload_n 0, 1) := by decide +kernel
theorem d_M_read_4 : decode c_M_read 4 = .ok (.getfield 56, 3) := by decide +kernel
theorem d_M_read_7 : decode c_M_read 7 = .ok (.if_icmp .ge 169, 3) := by decide +kernel
theorem d_M_read_10 : decode c_M_read 10 = .ok (.aload_n 0, 1) := by decide +kernel
theorem d_M_read_11 : decode c_M_read 11 = .ok (.aload_n 0, 1) := by decide +kernel
theorem d_M_read_12 : decode c_M_read 12 = .ok (.getfield 16, 3) := by decide +kernel
theorem d_M_read_15 : decode c_M_read 15 = .ok (.iload_n 1, 1) := by decide +kernel
theorem d_M_read_16 : decode c_M_read 16 = .ok (.iaload, 1) := by decide +kernel
theorem d_M_read_17 : decode c_M_read 17 = .ok (.putfield 128, 3) := by decide +kernel
theorem d_M_read_20 : decode c_M_read 20 = .ok (.aload_n 0, 1) := by decide +kernel
theorem d_M_read_21 : decode c_M_read 21 = .ok (.iconst 0, 1) := by decide +kernel
theorem d_M_read_22 : decode c_M_read 22 = .ok (.putfield 125, 3) := by decide +kernel
theorem d_M_read_25 : decode c_M_read 25 = .ok (.aload_n 0, 1) := by decide +kernel
theorem d_M_read_26 : decode c_M_read 26 = .ok (.iconst 0, 1) := by decide +kernel
theorem d_M_read_27 : decode c_M_read 27 = .ok (.putfield 145, 3) := by decide +kernel
theorem d_M_read_30 : decode c_M_read 30 = .ok (.aload_n 0, 1) := by decide +kernel
theorem d_M_read_31 : decode c_M_read 31 = .ok (.iconst 0, 1) := by decide +kernel
theorem d_M_read_32 : decode c_M_read 32 = .ok (.putfield 141, 3) := by decide +kernel
theorem d_M_read_35 : decode c_M_read 35 = .ok (.aload_n 0, 1) := by decide +kernel
theorem d_M_read_36 : decode c_M_read 36 = .ok (.getfield 31, 3) := by decide +kernel
theorem d_M_read_39 : decode c_M_read 39 = .ok (.iload_n 1, 1) := by decide +kernel
theorem d_M_read_40 : decode c_M_read 40 = .ok (.iconst 0, 1) := by decide +kernel
theorem d_M_read_41 : decode c_M_read 41 = .ok (.iastore, 1) := by decide +kernel
theorem d_M_read_42 : decode c_M_read 42 = .ok (.aload_n 0, 1) := by decide +kernel
theorem d_M_read_43 : decode c_M_read 43 = .ok (.getfield 34, 3) := by decide +kernel
theorem d_M_read_46 : decode c_M_read 46 = .ok (.iload_n 1, 1) := by decide +kernel
theorem d_M_read_47 : decode c_M_read 47 = .ok (.iconst 0, 1) := by decide +kernel
theorem d_M_read_48 : decode c_M_read 48 = .ok (.iastore, 1) := by decide +kernel
theorem d_M_read_49 : decode c_M_read 49 = .ok (.aload_n 0, 1) := by decide +kernel
theorem d_M_read_50 : decode c_M_read 50 = .ok (.invokevirtual 148, 3) := by decide +kernel
theorem d_M_read_53 : decode c_M_read 53 = .ok (.istore_n 2, 1) := by decide +kernel
theorem d_M_read_54 : decode c_M_read 54 = .ok (.aload_n 0, 1) := by decide +kernel
theorem d_M_read_55 : decode c_M_read 55 = .ok (.getfield 125, 3) := by decide +kernel
theorem d_M_read_58 : decode c_M_read 58 = .ok (.ifCond .ne 16, 3) := by decide +kernel
theorem d_M_read_61 : decode c_M_read 61 = .ok (.iload_n 2, 1) := by decide +kernel
theorem d_M_read_62 : decode c_M_read 62 = .ok (.aload_n 0, 1) := by decide +kernel
theorem d_M_read_63 : decode c_M_read 63 = .ok (.getfield 56, 3) := by decide +kernel
theorem d_M_read_66 : decode c_M_read 66 = .ok (.if_icmp .le 8, 3) := by decide +kernel
theorem d_M_read_69 : decode c_M_read 69 = .ok (.aload_n 0, 1) := by decide +kernel
theorem d_M_read_70 : decode c_M_read 70 = .ok (.iconst 3, 1) := by decide +kernel
theorem d_M_read_71 : decode c_M_read 71 = .ok (.putfield 125, 3) := by decide +kernel
theorem d_M_read_74 : decode c_M_read 74 = .ok (.aload_n 0, 1) := by decide +kernel
theorem d_M_read_75 : decode c_M_read 75 = .ok (.getfield 125, 3) := by decide +kernel
theorem d_M_read_78 : decode c_M_read 78 = .ok (.ifCond .ne 13, 3) := by decide +kernel
theorem d_M_read_81 : decode c_M_read 81 = .ok (.iload_n 2, 1) := by decide +kernel
theorem d_M_read_82 : decode c_M_read 82 = .ok (.ifCond .le 9, 3) := by decide +kernel
theorem d_M_read_85 : decode c_M_read 85 = .ok (.aload_n 0, 1) := by decide +kernel
theorem d_M_read_86 : decode c_M_read 86 = .ok (.iload_n 1, 1) := by decide +kernel
theorem d_M_read_87 : decode c_M_read 87 = .ok (.iload_n 2, 1) := by decide +kernel
theorem d_M_read_88 : decode c_M_read 88 = .ok (.invokevirtual 170, 3) := by decide +kernel
theorem d_M_read_91 : decode c_M_read 91 = .ok (.aload_n 0, 1) := by decide +kernel
theorem d_M_read_92 : decode c_M_read 92 = .ok (.getfield 125, 3) := by decide +kernel
theorem d_M_read_95 : decode c_M_read 95 = .ok (.ifCond .ne 16, 3) := by decide +kernel
theorem d_M_read_98 : decode c_M_read 98 = .ok (.aload_n 0, 1) := by decide +kernel
theorem d_M_read_99 : decode c_M_read 99 = .ok (.getfield 141, 3) := by decide +kernel
theorem d_M_read_102 : decode c_M_read 102 = .ok (.ifCond .eq 9, 3) := by decide +kernel
theorem d_M_read_105 : decode c_M_read 105 = .ok (.aload_n 0, 1) := by decide +kernel
theorem d_M_read_106 : decode c_M_read 106 = .ok (.bipush 9, 2) := by decide +kernel
theorem d_M_read_108 : decode c_M_read 108 = .ok (.putfield 125, 3) := by decide +kernel
theorem d_M_read_111 : decode c_M_read 111 = .ok (.aload_n 0, 1) := by decide +kernel
theorem d_M_read_112 : decode c_M_read 112 = .ok (.getfield 125, 3) := by decide +kernel
theorem d_M_read_115 : decode c_M_read 115 = .ok (.ifCond .ne 24, 3) := by decide +kernel
theorem d_M_read_118 : decode c_M_read 118 = .ok (.aload_n 0, 1) := by decide +kernel
theorem d_M_read_119 : decode c_M_read 119 = .ok (.getfield 128, 3) := by decide +kernel
theorem d_M_read_122 : decode c_M_read 122 = .ok (.aload_n 0, 1) := by decide +kernel
theorem d_M_read_123 : decode c_M_read 123 = .ok (.getfield 16, 3) := by decide +kernel
theorem d_M_read_126 : decode c_M_read 126 = .ok (.iload_n 1, 1) := by decide +kernel
theorem d_M_read_127 : decode c_M_read 127 = .ok (.iconst 1, 1) := by decide +kernel
theorem d_M_read_128 : decode c_M_read 128 = .ok (.iadd, 1) := by decide +kernel
theorem d_M_read_129 : decode c_M_read 129 = .ok (.iaload, 1) := by decide +kernel
theorem d_M_read_130 : decode c_M_read 130 = .ok (.if_icmp .eq 9, 3) := by decide +kernel
theorem d_M_read_133 : decode c_M_read 133 = .ok (.aload_n 0, 1) := by decide +kernel
theorem d_M_read_134 : decode c_M_read 134 = .ok (.bipush 10, 2) := by decide +kernel
theorem d_M_read_136 : decode c_M_read 136 = .ok (.putfield 125, 3) := by decide +kernel
theorem d_M_read_139 : decode c_M_read 139 = .ok (.aload_n 0, 1) := by decide +kernel
theorem d_M_read_140 : decode c_M_read 140 = .ok (.getfield 28, 3) := by decide +kernel
theorem d_M_read_143 : decode c_M_read 143 = .ok (.iload_n 1, 1) := by decide +kernel
theorem d_M_read_144 : decode c_M_read 144 = .ok (.aload_n 0, 1) := by decide +kernel
theorem d_M_read_145 : decode c_M_read 145 = .ok (.getfield 125, 3) := by decide +kernel
theorem d_M_read_148 : decode c_M_read 148 = .ok (.iastore, 1) := by decide +kernel
theorem d_M_read_149 : decode c_M_read 149 = .ok (.aload_n 0, 1) := by decide +kernel
theorem d_M_read_150 : decode c_M_read 150 = .ok (.getfield 25, 3) := by decide +kernel
theorem d_M_read_153 : decode c_M_read 153 = .ok (.iload_n 1, 1) := by decide +kernel
theorem d_M_read_154 : decode c_M_read 154 = .ok (.aload_n 0, 1) := by decide +kernel
theorem d_M_read_155 : decode c_M_read 155 = .ok (.getfield 125, 3) := by decide +kernel
theorem d_M_read_158 : decode c_M_read 158 = .ok (.ifCond .le 7, 3) := by decide +kernel
theorem d_M_read_161 : decode c_M_read 161 = .ok (.iconst 0, 1) := by decide +kernel
theorem d_M_read_162 : decode c_M_read 162 = .ok (.goto 7, 3) := by decide +kernel
theorem d_M_read_165 : decode c_M_read 165 = .ok (.aload_n 0, 1) := by decide +kernel
theorem d_M_read_166 : decode c_M_read 166 = .ok (.getfield 145, 3) := by decide +kernel
theorem d_M_read_169 : decode c_M_read 169 = .ok (.iastore, 1) := by decide +kernel
theorem d_M_read_170 : decode c_M_read 170 = .ok (.iinc 1 1, 3) := by decide +kernel
theorem d_M_read_173 : decode c_M_read 173 = .ok (.goto (-171), 3) := by decide +kernel
theorem d_M_read_176 : decode c_M_read 176 = .ok (.return_, 1) := by decide +kernel
theorem d_M_degree_0 : decode c_M_degree 0 = .ok (.aload_n 0, 1) := by decide +kernel
theorem d_M_degree_1 : decode c_M_degree 1 = .ok (.iload_n 1, 1) := by decide +kernel
theorem d_M_degree_2 : decode c_M_degree 2 = .ok (.invokevirtual 68, 3) := by decide +kernel
theorem d_M_degree_5 : decode c_M_degree 5 = .ok (.ifCond .ne 6, 3) := by decide +kernel
theorem d_M_degree_8 : decode c_M_degree 8 = .ok (.bipush (-100), 2) := by decide +kernel
theorem d_M_degree_10 : decode c_M_degree 10 = .ok (.ireturn, 1) := by decide +kernel
theorem d_M_degree_11 : decode c_M_degree 11 = .ok (.aload_n 0, 1) := by decide +kernel
theorem d_M_degree_12 : decode c_M_degree 12 = .ok (.invokevirtual 173, 3) := by decide +kernel
theorem d_M_degree_15 : decode c_M_degree 15 = .ok (.aload_n 0, 1) := by decide +kernel
theorem d_M_degree_16 : decode c_M_degree 16 = .ok (.getfield 28, 3) := by decide +kernel
theorem d_M_degree_19 : decode c_M_degree 19 = .ok (.iload_n 1, 1) := by decide +kernel
theorem d_M_degree_20 : decode c_M_degree 20 = .ok (.iaload, 1) := by decide +kernel
theorem d_M_degree_21 : decode c_M_degree 21 = .ok (.ifCond .le 13, 3) := by decide +kernel
theorem d_M_degree_24 : decode c_M_degree 24 = .ok (.aload_n 0, 1) := by decide +kernel
theorem d_M_degree_25 : decode c_M_degree 25 = .ok (.getfield 28, 3) := by decide +kernel
theorem d_M_degree_28 : decode c_M_degree 28 = .ok (.iload_n 1, 1) := by decide +kernel
theorem d_M_degree_29 : decode c_M_degree 29 = .ok (.iaload, 1) := by decide +kernel
theorem d_M_degree_30 : decode c_M_degree 30 = .ok (.ineg, 1) := by decide +kernel
theorem d_M_degree_31 : decode c_M_degree 31 = .ok (.goto 12, 3) := by decide +kernel
theorem d_M_degree_34 : decode c_M_degree 34 = .ok (.aload_n 0, 1) := by decide +kernel
theorem d_M_degree_35 : decode c_M_degree 35 = .ok (.getfield 25, 3) := by decide +kernel
theorem d_M_degree_38 : decode c_M_degree 38 = .ok (.iload_n 1, 1) := by decide +kernel
theorem d_M_degree_39 : decode c_M_degree 39 = .ok (.iaload, 1) := by decide +kernel
theorem d_M_degree_40 : decode c_M_degree 40 = .ok (.invokestatic 106, 3) := by decide +kernel
theorem d_M_degree_43 : decode c_M_degree 43 = .ok (.ireturn, 1) := by decide +kernel
theorem d_M_successor_0 : decode c_M_successor 0 = .ok (.aload_n 0, 1) := by decide +kernel
theorem d_M_successor_1 : decode c_M_successor 1 = .ok (.iload_n 1, 1) := by decide +kernel
theorem d_M_successor_2 : decode c_M_successor 2 = .ok (.invokevirtual 68, 3) := by decide +kernel
theorem d_M_successor_5 : decode c_M_successor 5 = .ok (.ifCond .eq 7, 3) := by decide +kernel
theorem d_M_successor_8 : decode c_M_successor 8 = .ok (.iload_n 2, 1) := by decide +kernel
theorem d_M_successor_9 : decode c_M_successor 9 = .ok (.ifCond .ge 5, 3) := by decide +kernel
theorem d_M_successor_12 : decode c_M_successor 12 = .ok (.iconst (-1), 1) := by decide +kernel
theorem d_M_successor_13 : decode c_M_successor 13 = .ok (.ireturn, 1) := by decide +kernel
theorem d_M_successor_14 : decode c_M_successor 14 = .ok (.aload_n 0, 1) := by decide +kernel
theorem d_M_successor_15 : decode c_M_successor 15 = .ok (.invokevirtual 173, 3) := by decide +kernel
theorem d_M_successor_18 : decode c_M_successor 18 = .ok (.iconst 0, 1) := by decide +kernel
theorem d_M_successor_19 : decode c_M_successor 19 = .ok (.istore_n 3, 1) := by decide +kernel
theorem d_M_successor_20 : decode c_M_successor 20 = .ok (.iconst 0, 1) := by decide +kernel
theorem d_M_successor_21 : decode c_M_successor 21 = .ok (.istore 4, 2) := by decide +kernel
theorem d_M_successor_23 : decode c_M_successor 23 = .ok (.iload 4, 2) := by decide +kernel
theorem d_M_successor_25 : decode c_M_successor 25 = .ok (.aload_n 0, 1) := by decide +kernel
theorem d_M_successor_26 : decode c_M_successor 26 = .ok (.getfield 56, 3) := by decide +kernel
theorem d_M_successor_29 : decode c_M_successor 29 = .ok (.if_icmp .ge 35, 3) := by decide +kernel
theorem d_M_successor_32 : decode c_M_successor 32 = .ok (.aload_n 0, 1) := by decide +kernel
theorem d_M_successor_33 : decode c_M_successor 33 = .ok (.getfield 25, 3) := by decide +kernel
theorem d_M_successor_36 : decode c_M_successor 36 = .ok (.iload_n 1, 1) := by decide +kernel
theorem d_M_successor_37 : decode c_M_successor 37 = .ok (.iaload, 1) := by decide +kernel
theorem d_M_successor_38 : decode c_M_successor 38 = .ok (.iload 4, 2) := by decide +kernel
theorem d_M_successor_40 : decode c_M_successor 40 = .ok (.ishr, 1) := by decide +kernel
theorem d_M_successor_41 : decode c_M_successor 41 = .ok (.iconst 1, 1) := by decide +kernel
theorem d_M_successor_42 : decode c_M_successor 42 = .ok (.iand, 1) := by decide +kernel
theorem d_M_successor_43 : decode c_M_successor 43 = .ok (.iconst 1, 1) := by decide +kernel
theorem d_M_successor_44 : decode c_M_successor 44 = .ok (.if_icmp .ne 14, 3) := by decide +kernel
theorem d_M_successor_47 : decode c_M_successor 47 = .ok (.iload_n 3, 1) := by decide +kernel
theorem d_M_successor_48 : decode c_M_successor 48 = .ok (.iload_n 2, 1) := by decide +kernel
theorem d_M_successor_49 : decode c_M_successor 49 = .ok (.if_icmp .ne 6, 3) := by decide +kernel
theorem d_M_successor_52 : decode c_M_successor 52 = .ok (.iload 4, 2) := by decide +kernel
theorem d_M_successor_54 : decode c_M_successor 54 = .ok (.ireturn, 1) := by decide +kernel
theorem d_M_successor_55 : decode c_M_successor 55 = .ok (.iinc 3 1, 3) := by decide +kernel
theorem d_M_successor_58 : decode c_M_successor 58 = .ok (.iinc 4 1, 3) := by decide +kernel
theorem d_M_successor_61 : decode c_M_successor 61 = .ok (.goto (-38), 3) := by decide +kernel
theorem d_M_successor_64 : decode c_M_successor 64 = .ok (.iconst (-1), 1) := by decide +kernel
theorem d_M_successor_65 : decode c_M_successor 65 = .ok (.ireturn, 1) := by decide +kernel
theorem d_M_reference_0 : decode c_M_reference 0 = .ok (.aload_n 0, 1) := by decide +kernel
theorem d_M_reference_1 : decode c_M_reference 1 = .ok (.iload_n 1, 1) := by decide +kernel
theorem d_M_reference_2 : decode c_M_reference 2 = .ok (.invokevirtual 68, 3) := by decide +kernel
theorem d_M_reference_5 : decode c_M_reference 5 = .ok (.ifCond .ne 5, 3) := by decide +kernel
theorem d_M_reference_8 : decode c_M_reference 8 = .ok (.iconst (-1), 1) := by decide +kernel
theorem d_M_reference_9 : decode c_M_reference 9 = .ok (.ireturn, 1) := by decide +kernel
theorem d_M_reference_10 : decode c_M_reference 10 = .ok (.aload_n 0, 1) := by decide +kernel
theorem d_M_reference_11 : decode c_M_reference 11 = .ok (.invokevirtual 173, 3) := by decide +kernel
theorem d_M_reference_14 : decode c_M_reference 14 = .ok (.aload_n 0, 1) := by decide +kernel
theorem d_M_reference_15 : decode c_M_reference 15 = .ok (.getfield 28, 3) := by decide +kernel
theorem d_M_reference_18 : decode c_M_reference 18 = .ok (.iload_n 1, 1) := by decide +kernel
theorem d_M_reference_19 : decode c_M_reference 19 = .ok (.iaload, 1) := by decide +kernel
theorem d_M_reference_20 : decode c_M_reference 20 = .ok (.ifCond .le 7, 3) := by decide +kernel
theorem d_M_reference_23 : decode c_M_reference 23 = .ok (.iconst (-1), 1) := by decide +kernel
theorem d_M_reference_24 : decode c_M_reference 24 = .ok (.goto 9, 3) := by decide +kernel
theorem d_M_reference_27 : decode c_M_reference 27 = .ok (.aload_n 0, 1) := by decide +kernel
theorem d_M_reference_28 : decode c_M_reference 28 = .ok (.getfield 31, 3) := by decide +kernel
theorem d_M_reference_31 : decode c_M_reference 31 = .ok (.iload_n 1, 1) := by decide +kernel
theorem d_M_reference_32 : decode c_M_reference 32 = .ok (.iaload, 1) := by decide +kernel
theorem d_M_reference_33 : decode c_M_reference 33 = .ok (.ireturn, 1) := by decide +kernel
theorem d_M_count_0 : decode c_M_count 0 = .ok (.aload_n 0, 1) := by decide +kernel
theorem d_M_count_1 : decode c_M_count 1 = .ok (.invokevirtual 173, 3) := by decide +kernel
theorem d_M_count_4 : decode c_M_count 4 = .ok (.iconst 0, 1) := by decide +kernel
theorem d_M_count_5 : decode c_M_count 5 = .ok (.istore_n 1, 1) := by decide +kernel
theorem d_M_count_6 : decode c_M_count 6 = .ok (.iload_n 1, 1) := by decide +kernel
theorem d_M_count_7 : decode c_M_count 7 = .ok (.aload_n 0, 1) := by decide +kernel
theorem d_M_count_8 : decode c_M_count 8 = .ok (.getfield 56, 3) := by decide +kernel
theorem d_M_count_11 : decode c_M_count 11 = .ok (.if_icmp .ge 32, 3) := by decide +kernel
theorem d_M_count_14 : decode c_M_count 14 = .ok (.aload_n 0, 1) := by decide +kernel
theorem d_M_count_15 : decode c_M_count 15 = .ok (.getfield 50, 3) := by decide +kernel
theorem d_M_count_18 : decode c_M_count 18 = .ok (.iload_n 1, 1) := by decide +kernel
theorem d_M_count_19 : decode c_M_count 19 = .ok (.aload_n 0, 1) := by decide +kernel
theorem d_M_count_20 : decode c_M_count 20 = .ok (.getfield 25, 3) := by decide +kernel
theorem d_M_count_23 : decode c_M_count 23 = .ok (.iload_n 1, 1) := by decide +kernel
theorem d_M_count_24 : decode c_M_count 24 = .ok (.iaload, 1) := by decide +kernel
theorem d_M_count_25 : decode c_M_count 25 = .ok (.iconst 1, 1) := by decide +kernel
theorem d_M_count_26 : decode c_M_count 26 = .ok (.iload_n 1, 1) := by decide +kernel
theorem d_M_count_27 : decode c_M_count 27 = .ok (.ishl, 1) := by decide +kernel
theorem d_M_count_28 : decode c_M_count 28 = .ok (.ior, 1) := by decide +kernel
theorem d_M_count_29 : decode c_M_count 29 = .ok (.iastore, 1) := by decide +kernel
theorem d_M_count_30 : decode c_M_count 30 = .ok (.aload_n 0, 1) := by decide +kernel
theorem d_M_count_31 : decode c_M_count 31 = .ok (.getfield 53, 3) := by decide +kernel
theorem d_M_count_34 : decode c_M_count 34 = .ok (.iload_n 1, 1) := by decide +kernel
theorem d_M_count_35 : decode c_M_count 35 = .ok (.iconst (-1), 1) := by decide +kernel
theorem d_M_count_36 : decode c_M_count 36 = .ok (.iastore, 1) := by decide +kernel
theorem d_M_count_37 : decode c_M_count 37 = .ok (.iinc 1 1, 3) := by decide +kernel
theorem d_M_count_40 : decode c_M_count 40 = .ok (.goto (-34), 3) := by decide +kernel
theorem d_M_count_43 : decode c_M_count 43 = .ok (.iconst 0, 1) := by decide +kernel
theorem d_M_count_44 : decode c_M_count 44 = .ok (.istore_n 1, 1) := by decide +kernel
theorem d_M_count_45 : decode c_M_count 45 = .ok (.iload_n 1, 1) := by decide +kernel
theorem d_M_count_46 : decode c_M_count 46 = .ok (.aload_n 0, 1) := by decide +kernel
theorem d_M_count_47 : decode c_M_count 47 = .ok (.getfield 56, 3) := by decide +kernel
theorem d_M_count_50 : decode c_M_count 50 = .ok (.if_icmp .ge 58, 3) := by decide +kernel
theorem d_M_count_53 : decode c_M_count 53 = .ok (.iconst 0, 1) := by decide +kernel
theorem d_M_count_54 : decode c_M_count 54 = .ok (.istore_n 2, 1) := by decide +kernel
theorem d_M_count_55 : decode c_M_count 55 = .ok (.iload_n 2, 1) := by decide +kernel
theorem d_M_count_56 : decode c_M_count 56 = .ok (.aload_n 0, 1) := by decide +kernel
theorem d_M_count_57 : decode c_M_count 57 = .ok (.getfield 56, 3) := by decide +kernel
theorem d_M_count_60 : decode c_M_count 60 = .ok (.if_icmp .ge 42, 3) := by decide +kernel
theorem d_M_count_63 : decode c_M_count 63 = .ok (.aload_n 0, 1) := by decide +kernel
theorem d_M_count_64 : decode c_M_count 64 = .ok (.getfield 50, 3) := by decide +kernel
theorem d_M_count_67 : decode c_M_count 67 = .ok (.iload_n 2, 1) := by decide +kernel
theorem d_M_count_68 : decode c_M_count 68 = .ok (.dup2, 1) := by decide +kernel
theorem d_M_count_69 : decode c_M_count 69 = .ok (.iaload, 1) := by decide +kernel
theorem d_M_count_70 : decode c_M_count 70 = .ok (.aload_n 0, 1) := by decide +kernel
theorem d_M_count_71 : decode c_M_count 71 = .ok (.getfield 50, 3) := by decide +kernel
theorem d_M_count_74 : decode c_M_count 74 = .ok (.iload_n 2, 1) := by decide +kernel
theorem d_M_count_75 : decode c_M_count 75 = .ok (.iaload, 1) := by decide +kernel
theorem d_M_count_76 : decode c_M_count 76 = .ok (.iload_n 1, 1) := by decide +kernel
theorem d_M_count_77 : decode c_M_count 77 = .ok (.ishr, 1) := by decide +kernel
theorem d_M_count_78 : decode c_M_count 78 = .ok (.iconst 1, 1) := by decide +kernel
theorem d_M_count_79 : decode c_M_count 79 = .ok (.iand, 1) := by decide +kernel
theorem d_M_count_80 : decode c_M_count 80 = .ok (.iconst 1, 1) := by decide +kernel
theorem d_M_count_81 : decode c_M_count 81 = .ok (.if_icmp .ne 12, 3) := by decide +kernel
theorem d_M_count_84 : decode c_M_count 84 = .ok (.aload_n 0, 1) := by decide +kernel
theorem d_M_count_85 : decode c_M_count 85 = .ok (.getfield 50, 3) := by decide +kernel
theorem d_M_count_88 : decode c_M_count 88 = .ok (.iload_n 1, 1) := by decide +kernel
theorem d_M_count_89 : decode c_M_count 89 = .ok (.iaload, 1) := by decide +kernel
theorem d_M_count_90 : decode c_M_count 90 = .ok (.goto 4, 3) := by decide +kernel
theorem d_M_count_93 : decode c_M_count 93 = .ok (.iconst 0, 1) := by decide +kernel
theorem d_M_count_94 : decode c_M_count 94 = .ok (.ior, 1) := by decide +kernel
theorem d_M_count_95 : decode c_M_count 95 = .ok (.iastore, 1) := by decide +kernel
theorem d_M_count_96 : decode c_M_count 96 = .ok (.iinc 2 1, 3) := by decide +kernel
theorem d_M_count_99 : decode c_M_count 99 = .ok (.goto (-44), 3) := by decide +kernel
theorem d_M_count_102 : decode c_M_count 102 = .ok (.iinc 1 1, 3) := by decide +kernel
theorem d_M_count_105 : decode c_M_count 105 = .ok (.goto (-60), 3) := by decide +kernel
theorem d_M_count_108 : decode c_M_count 108 = .ok (.aload_n 0, 1) := by decide +kernel
theorem d_M_count_109 : decode c_M_count 109 = .ok (.iconst 0, 1) := by decide +kernel
theorem d_M_count_110 : decode c_M_count 110 = .ok (.putfield 176, 3) := by decide +kernel
theorem d_M_count_113 : decode c_M_count 113 = .ok (.iconst 0, 1) := by decide +kernel
theorem d_M_count_114 : decode c_M_count 114 = .ok (.istore_n 1, 1) := by decide +kernel
theorem d_M_count_115 : decode c_M_count 115 = .ok (.iconst 0, 1) := by decide +kernel
theorem d_M_count_116 : decode c_M_count 116 = .ok (.istore_n 2, 1) := by decide +kernel
theorem d_M_count_117 : decode c_M_count 117 = .ok (.iload_n 2, 1) := by decide +kernel
theorem d_M_count_118 : decode c_M_count 118 = .ok (.aload_n 0, 1) := by decide +kernel
theorem d_M_count_119 : decode c_M_count 119 = .ok (.getfield 56, 3) := by decide +kernel
theorem d_M_count_122 : decode c_M_count 122 = .ok (.if_icmp .ge 91, 3) := by decide +kernel
theorem d_M_count_125 : decode c_M_count 125 = .ok (.aload_n 0, 1) := by decide +kernel
theorem d_M_count_126 : decode c_M_count 126 = .ok (.iload_n 1, 1) := by decide +kernel
theorem d_M_count_127 : decode c_M_count 127 = .ok (.invokevirtual 179, 3) := by decide +kernel
theorem d_M_count_130 : decode c_M_count 130 = .ok (.istore_n 3, 1) := by decide +kernel
theorem d_M_count_131 : decode c_M_count 131 = .ok (.iload_n 3, 1) := by decide +kernel
theorem d_M_count_132 : decode c_M_count 132 = .ok (.ifCond .lt 75, 3) := by decide +kernel
theorem d_M_count_135 : decode c_M_count 135 = .ok (.aload_n 0, 1) := by decide +kernel
theorem d_M_count_136 : decode c_M_count 136 = .ok (.iload_n 3, 1) := by decide +kernel
theorem d_M_count_137 : decode c_M_count 137 = .ok (.invokevirtual 182, 3) := by decide +kernel
theorem d_M_count_140 : decode c_M_count 140 = .ok (.istore 4, 2) := by decide +kernel
theorem d_M_count_142 : decode c_M_count 142 = .ok (.iconst 0, 1) := by decide +kernel
theorem d_M_count_143 : decode c_M_count 143 = .ok (.istore 5, 2) := by decide +kernel
theorem d_M_count_145 : decode c_M_count 145 = .ok (.iload 5, 2) := by decide +kernel
theorem d_M_count_147 : decode c_M_count 147 = .ok (.aload_n 0, 1) := by decide +kernel
theorem d_M_count_148 : decode c_M_count 148 = .ok (.getfield 56, 3) := by decide +kernel
theorem d_M_count_151 : decode c_M_count 151 = .ok (.if_icmp .ge 41, 3) := by decide +kernel
theorem d_M_count_154 : decode c_M_count 154 = .ok (.aload_n 0, 1) := by decide +kernel
theorem d_M_count_155 : decode c_M_count 155 = .ok (.getfield 53, 3) := by decide +kernel
theorem d_M_count_158 : decode c_M_count 158 = .ok (.iload 5, 2) := by decide +kernel
theorem d_M_count_160 : decode c_M_count 160 = .ok (.iload 4, 2) := by decide +kernel
theorem d_M_count_162 : decode c_M_count 162 = .ok (.iload 5, 2) := by decide +kernel
theorem d_M_count_164 : decode c_M_count 164 = .ok (.ishr, 1) := by decide +kernel
theorem d_M_count_165 : decode c_M_count 165 = .ok (.iconst 1, 1) := by decide +kernel
theorem d_M_count_166 : decode c_M_count 166 = .ok (.iand, 1) := by decide +kernel
theorem d_M_count_167 : decode c_M_count 167 = .ok (.iconst 1, 1) := by decide +kernel
theorem d_M_count_168 : decode c_M_count 168 = .ok (.if_icmp .ne 10, 3) := by decide +kernel
theorem d_M_count_171 : decode c_M_count 171 = .ok (.aload_n 0, 1) := by decide +kernel
theorem d_M_count_172 : decode c_M_count 172 = .ok (.getfield 176, 3) := by decide +kernel
theorem d_M_count_175 : decode c_M_count 175 = .ok (.goto 10, 3) := by decide +kernel
theorem d_M_count_178 : decode c_M_count 178 = .ok (.aload_n 0, 1) := by decide +kernel
theorem d_M_count_179 : decode c_M_count 179 = .ok (.getfield 53, 3) := by decide +kernel
theorem d_M_count_182 : decode c_M_count 182 = .ok (.iload 5, 2) := by decide +kernel
theorem d_M_count_184 : decode c_M_count 184 = .ok (.iaload, 1) := by decide +kernel
theorem d_M_count_185 : decode c_M_count 185 = .ok (.iastore, 1) := by decide +kernel
theorem d_M_count_186 : decode c_M_count 186 = .ok (.iinc 5 1, 3) := by decide +kernel
theorem d_M_count_189 : decode c_M_count 189 = .ok (.goto (-44), 3) := by decide +kernel
theorem d_M_count_192 : decode c_M_count 192 = .ok (.iload_n 1, 1) := by decide +kernel
theorem d_M_count_193 : decode c_M_count 193 = .ok (.iload 4, 2) := by decide +kernel
theorem d_M_count_195 : decode c_M_count 195 = .ok (.ior, 1) := by decide +kernel
theorem d_M_count_196 : decode c_M_count 196 = .ok (.istore_n 1, 1) := by decide +kernel
theorem d_M_count_197 : decode c_M_count 197 = .ok (.aload_n 0, 1) := by decide +kernel
theorem d_M_count_198 : decode c_M_count 198 = .ok (.dup, 1) := by decide +kernel
theorem d_M_count_199 : decode c_M_count 199 = .ok (.getfield 176, 3) := by decide +kernel
theorem d_M_count_202 : decode c_M_count 202 = .ok (.iconst 1, 1) := by decide +kernel
theorem d_M_count_203 : decode c_M_count 203 = .ok (.iadd, 1) := by decide +kernel
theorem d_M_count_204 : decode c_M_count 204 = .ok (.putfield 176, 3) := by decide +kernel
theorem d_M_count_207 : decode c_M_count 207 = .ok (.iinc 2 1, 3) := by decide +kernel
theorem d_M_count_210 : decode c_M_count 210 = .ok (.goto (-93), 3) := by decide +kernel
theorem d_M_count_213 : decode c_M_count 213 = .ok (.return_, 1) := by decide +kernel
theorem d_M_together_0 : decode c_M_together 0 = .ok (.iconst 0, 1) := by decide +kernel
theorem d_M_together_1 : decode c_M_together 1 = .ok (.istore_n 2, 1) := by decide +kernel
theorem d_M_together_2 : decode c_M_together 2 = .ok (.iconst 0, 1) := by decide +kernel
theorem d_M_together_3 : decode c_M_together 3 = .ok (.istore_n 3, 1) := by decide +kernel
theorem d_M_together_4 : decode c_M_together 4 = .ok (.iload_n 3, 1) := by decide +kernel
theorem d_M_together_5 : decode c_M_together 5 = .ok (.aload_n 0, 1) := by decide +kernel
theorem d_M_together_6 : decode c_M_together 6 = .ok (.getfield 56, 3) := by decide +kernel
theorem d_M_together_9 : decode c_M_together 9 = .ok (.if_icmp .ge 47, 3) := by decide +kernel
theorem d_M_together_12 : decode c_M_together 12 = .ok (.iload_n 2, 1) := by decide +kernel
theorem d_M_together_13 : decode c_M_together 13 = .ok (.aload_n 0, 1) := by decide +kernel
theorem d_M_together_14 : decode c_M_together 14 = .ok (.getfield 50, 3) := by decide +kernel
theorem d_M_together_17 : decode c_M_together 17 = .ok (.iload_n 1, 1) := by decide +kernel
theorem d_M_together_18 : decode c_M_together 18 = .ok (.iaload, 1) := by decide +kernel
theorem d_M_together_19 : decode c_M_together 19 = .ok (.iload_n 3, 1) := by decide +kernel
theorem d_M_together_20 : decode c_M_together 20 = .ok (.ishr, 1) := by decide +kernel
theorem d_M_together_21 : decode c_M_together 21 = .ok (.iconst 1, 1) := by decide +kernel
theorem d_M_together_22 : decode c_M_together 22 = .ok (.iand, 1) := by decide +kernel
theorem d_M_together_23 : decode c_M_together 23 = .ok (.iconst 1, 1) := by decide +kernel
theorem d_M_together_24 : decode c_M_together 24 = .ok (.if_icmp .ne 23, 3) := by decide +kernel
theorem d_M_together_27 : decode c_M_together 27 = .ok (.aload_n 0, 1) := by decide +kernel
theorem d_M_together_28 : decode c_M_together 28 = .ok (.getfield 50, 3) := by decide +kernel
theorem d_M_together_31 : decode c_M_together 31 = .ok (.iload_n 3, 1) := by decide +kernel
theorem d_M_together_32 : decode c_M_together 32 = .ok (.iaload, 1) := by decide +kernel
theorem d_M_together_33 : decode c_M_together 33 = .ok (.iload_n 1, 1) := by decide +kernel
theorem d_M_together_34 : decode c_M_together 34 = .ok (.ishr, 1) := by decide +kernel
theorem d_M_together_35 : decode c_M_together 35 = .ok (.iconst 1, 1) := by decide +kernel
theorem d_M_together_36 : decode c_M_together 36 = .ok (.iand, 1) := by decide +kernel
theorem d_M_together_37 : decode c_M_together 37 = .ok (.iconst 1, 1) := by decide +kernel
theorem d_M_together_38 : decode c_M_together 38 = .ok (.if_icmp .ne 9, 3) := by decide +kernel
theorem d_M_together_41 : decode c_M_together 41 = .ok (.iconst 1, 1) := by decide +kernel
theorem d_M_together_42 : decode c_M_together 42 = .ok (.iload_n 3, 1) := by decide +kernel
theorem d_M_together_43 : decode c_M_together 43 = .ok (.ishl, 1) := by decide +kernel
theorem d_M_together_44 : decode c_M_together 44 = .ok (.goto 4, 3) := by decide +kernel
theorem d_M_together_47 : decode c_M_together 47 = .ok (.iconst 0, 1) := by decide +kernel
theorem d_M_together_48 : decode c_M_together 48 = .ok (.ior, 1) := by decide +kernel
theorem d_M_together_49 : decode c_M_together 49 = .ok (.istore_n 2, 1) := by decide +kernel
theorem d_M_together_50 : decode c_M_together 50 = .ok (.iinc 3 1, 3) := by decide +kernel
theorem d_M_together_53 : decode c_M_together 53 = .ok (.goto (-49), 3) := by decide +kernel
theorem d_M_together_56 : decode c_M_together 56 = .ok (.iload_n 2, 1) := by decide +kernel
theorem d_M_together_57 : decode c_M_together 57 = .ok (.ireturn, 1) := by decide +kernel
theorem d_M_firstReady_0 : decode c_M_firstReady 0 = .ok (.iconst 0, 1) := by decide +kernel
theorem d_M_firstReady_1 : decode c_M_firstReady 1 = .ok (.istore_n 2, 1) := by decide +kernel
theorem d_M_firstReady_2 : decode c_M_firstReady 2 = .ok (.iload_n 2, 1) := by decide +kernel
theorem d_M_firstReady_3 : decode c_M_firstReady 3 = .ok (.aload_n 0, 1) := by decide +kernel
theorem d_M_firstReady_4 : decode c_M_firstReady 4 = .ok (.getfield 56, 3) := by decide +kernel
theorem d_M_firstReady_7 : decode c_M_firstReady 7 = .ok (.if_icmp .ge 84, 3) := by decide +kernel
theorem d_M_firstReady_10 : decode c_M_firstReady 10 = .ok (.aload_n 0, 1) := by decide +kernel
theorem d_M_firstReady_11 : decode c_M_firstReady 11 = .ok (.getfield 53, 3) := by decide +kernel
theorem d_M_firstReady_14 : decode c_M_firstReady 14 = .ok (.iload_n 2, 1) := by decide +kernel
theorem d_M_firstReady_15 : decode c_M_firstReady 15 = .ok (.iaload, 1) := by decide +kernel
theorem d_M_firstReady_16 : decode c_M_firstReady 16 = .ok (.ifCond .ge 69, 3) := by decide +kernel
theorem d_M_firstReady_19 : decode c_M_firstReady 19 = .ok (.aload_n 0, 1) := by decide +kernel
theorem d_M_firstReady_20 : decode c_M_firstReady 20 = .ok (.iload_n 2, 1) := by decide +kernel
theorem d_M_firstReady_21 : decode c_M_firstReady 21 = .ok (.invokevirtual 182, 3) := by decide +kernel
theorem d_M_firstReady_24 : decode c_M_firstReady 24 = .ok (.istore_n 3, 1) := by decide +kernel
theorem d_M_firstReady_25 : decode c_M_firstReady 25 = .ok (.iconst 0, 1) := by decide +kernel
theorem d_M_firstReady_26 : decode c_M_firstReady 26 = .ok (.istore 4, 2) := by decide +kernel
theorem d_M_firstReady_28 : decode c_M_firstReady 28 = .ok (.iconst 0, 1) := by decide +kernel
theorem d_M_firstReady_29 : decode c_M_firstReady 29 = .ok (.istore 5, 2) := by decide +kernel
theorem d_M_firstReady_31 : decode c_M_firstReady 31 = .ok (.iload 5, 2) := by decide +kernel
theorem d_M_firstReady_33 : decode c_M_firstReady 33 = .ok (.aload_n 0, 1) := by decide +kernel
theorem d_M_firstReady_34 : decode c_M_firstReady 34 = .ok (.getfield 56, 3) := by decide +kernel
theorem d_M_firstReady_37 : decode c_M_firstReady 37 = .ok (.if_icmp .ge 35, 3) := by decide +kernel
theorem d_M_firstReady_40 : decode c_M_firstReady 40 = .ok (.iload 4, 2) := by decide +kernel
theorem d_M_firstReady_42 : decode c_M_firstReady 42 = .ok (.iload_n 3, 1) := by decide +kernel
theorem d_M_firstReady_43 : decode c_M_firstReady 43 = .ok (.iload 5, 2) := by decide +kernel
theorem d_M_firstReady_45 : decode c_M_firstReady 45 = .ok (.ishr, 1) := by decide +kernel
theorem d_M_firstReady_46 : decode c_M_firstReady 46 = .ok (.iconst 1, 1) := by decide +kernel
theorem d_M_firstReady_47 : decode c_M_firstReady 47 = .ok (.iand, 1) := by decide +kernel
theorem d_M_firstReady_48 : decode c_M_firstReady 48 = .ok (.iconst 1, 1) := by decide +kernel
theorem d_M_firstReady_49 : decode c_M_firstReady 49 = .ok (.if_icmp .ne 13, 3) := by decide +kernel
theorem d_M_firstReady_52 : decode c_M_firstReady 52 = .ok (.aload_n 0, 1) := by decide +kernel
theorem d_M_firstReady_53 : decode c_M_firstReady 53 = .ok (.getfield 25, 3) := by decide +kernel
theorem d_M_firstReady_56 : decode c_M_firstReady 56 = .ok (.iload 5, 2) := by decide +kernel
theorem d_M_firstReady_58 : decode c_M_firstReady 58 = .ok (.iaload, 1) := by decide +kernel
theorem d_M_firstReady_59 : decode c_M_firstReady 59 = .ok (.goto 4, 3) := by decide +kernel
theorem d_M_firstReady_62 : decode c_M_firstReady 62 = .ok (.iconst 0, 1) := by decide +kernel
theorem d_M_firstReady_63 : decode c_M_firstReady 63 = .ok (.ior, 1) := by decide +kernel
theorem d_M_firstReady_64 : decode c_M_firstReady 64 = .ok (.istore 4, 2) := by decide +kernel
theorem d_M_firstReady_66 : decode c_M_firstReady 66 = .ok (.iinc 5 1, 3) := by decide +kernel
theorem d_M_firstReady_69 : decode c_M_firstReady 69 = .ok (.goto (-38), 3) := by decide +kernel
theorem d_M_firstReady_72 : decode c_M_firstReady 72 = .ok (.iload 4, 2) := by decide +kernel
theorem d_M_firstReady_74 : decode c_M_firstReady 74 = .ok (.iload_n 3, 1) := by decide +kernel
theorem d_M_firstReady_75 : decode c_M_firstReady 75 = .ok (.iload_n 1, 1) := by decide +kernel
theorem d_M_firstReady_76 : decode c_M_firstReady 76 = .ok (.ior, 1) := by decide +kernel
theorem d_M_firstReady_77 : decode c_M_firstReady 77 = .ok (.iconst (-1), 1) := by decide +kernel
theorem d_M_firstReady_78 : decode c_M_firstReady 78 = .ok (.ixor, 1) := by decide +kernel
theorem d_M_firstReady_79 : decode c_M_firstReady 79 = .ok (.iand, 1) := by decide +kernel
theorem d_M_firstReady_80 : decode c_M_firstReady 80 = .ok (.ifCond .ne 5, 3) := by decide +kernel
theorem d_M_firstReady_83 : decode c_M_firstReady 83 = .ok (.iload_n 2, 1) := by decide +kernel
theorem d_M_firstReady_84 : decode c_M_firstReady 84 = .ok (.ireturn, 1) := by decide +kernel
theorem d_M_firstReady_85 : decode c_M_firstReady 85 = .ok (.iinc 2 1, 3) := by decide +kernel
theorem d_M_firstReady_88 : decode c_M_firstReady 88 = .ok (.goto (-86), 3) := by decide +kernel
theorem d_M_firstReady_91 : decode c_M_firstReady 91 = .ok (.iconst (-1), 1) := by decide +kernel
theorem d_M_firstReady_92 : decode c_M_firstReady 92 = .ok (.ireturn, 1) := by decide +kernel
theorem d_M_components_0 : decode c_M_components 0 = .ok (.aload_n 0, 1) := by decide +kernel
theorem d_M_components_1 : decode c_M_components 1 = .ok (.invokevirtual 185, 3) := by decide +kernel
theorem d_M_components_4 : decode c_M_components 4 = .ok (.aload_n 0, 1) := by decide +kernel
theorem d_M_components_5 : decode c_M_components 5 = .ok (.getfield 176, 3) := by decide +kernel
theorem d_M_components_8 : decode c_M_components 8 = .ok (.ireturn, 1) := by decide +kernel
theorem d_M_component_0 : decode c_M_component 0 = .ok (.aload_n 0, 1) := by decide +kernel
theorem d_M_component_1 : decode c_M_component 1 = .ok (.iload_n 1, 1) := by decide +kernel
theorem d_M_component_2 : decode c_M_component 2 = .ok (.invokevirtual 68, 3) := by decide +kernel
theorem d_M_component_5 : decode c_M_component 5 = .ok (.ifCond .ne 5, 3) := by decide +kernel
theorem d_M_component_8 : decode c_M_component 8 = .ok (.iconst (-1), 1) := by decide +kernel
theorem d_M_component_9 : decode c_M_component 9 = .ok (.ireturn, 1) := by decide +kernel
theorem d_M_component_10 : decode c_M_component 10 = .ok (.aload_n 0, 1) := by decide +kernel
theorem d_M_component_11 : decode c_M_component 11 = .ok (.invokevirtual 185, 3) := by decide +kernel
theorem d_M_component_14 : decode c_M_component 14 = .ok (.aload_n 0, 1) := by decide +kernel
theorem d_M_component_15 : decode c_M_component 15 = .ok (.getfield 53, 3) := by decide +kernel
theorem d_M_component_18 : decode c_M_component 18 = .ok (.iload_n 1, 1) := by decide +kernel
theorem d_M_component_19 : decode c_M_component 19 = .ok (.iaload, 1) := by decide +kernel
theorem d_M_component_20 : decode c_M_component 20 = .ok (.ireturn, 1) := by decide +kernel
theorem d_M_prefer_0 : decode c_M_prefer 0 = .ok (.aload_n 0, 1) := by decide +kernel
theorem d_M_prefer_1 : decode c_M_prefer 1 = .ok (.iload_n 1, 1) := by decide +kernel
theorem d_M_prefer_2 : decode c_M_prefer 2 = .ok (.invokevirtual 68, 3) := by decide +kernel
theorem d_M_prefer_5 : decode c_M_prefer 5 = .ok (.ifCond .eq 30, 3) := by decide +kernel
theorem d_M_prefer_8 : decode c_M_prefer 8 = .ok (.iload_n 2, 1) := by decide +kernel
theorem d_M_prefer_9 : decode c_M_prefer 9 = .ok (.ifCond .lt 26, 3) := by decide +kernel
theorem d_M_prefer_12 : decode c_M_prefer 12 = .ok (.iload_n 2, 1) := by decide +kernel
theorem d_M_prefer_13 : decode c_M_prefer 13 = .ok (.bipush 100, 2) := by decide +kernel
theorem d_M_prefer_15 : decode c_M_prefer 15 = .ok (.if_icmp .gt 20, 3) := by decide +kernel
theorem d_M_prefer_18 : decode c_M_prefer 18 = .ok (.iload_n 2, 1) := by decide +kernel
theorem d_M_prefer_19 : decode c_M_prefer 19 = .ok (.ifCond .ne 18, 3) := by decide +kernel
theorem d_M_prefer_22 : decode c_M_prefer 22 = .ok (.aload_n 0, 1) := by decide +kernel
theorem d_M_prefer_23 : decode c_M_prefer 23 = .ok (.invokevirtual 188, 3) := by decide +kernel
theorem d_M_prefer_26 : decode c_M_prefer 26 = .ok (.aload_n 0, 1) := by decide +kernel
theorem d_M_prefer_27 : decode c_M_prefer 27 = .ok (.getfield 37, 3) := by decide +kernel
theorem d_M_prefer_30 : decode c_M_prefer 30 = .ok (.iload_n 1, 1) := by decide +kernel
theorem d_M_prefer_31 : decode c_M_prefer 31 = .ok (.iaload, 1) := by decide +kernel
theorem d_M_prefer_32 : decode c_M_prefer 32 = .ok (.if_icmp .ne 5, 3) := by decide +kernel
theorem d_M_prefer_35 : decode c_M_prefer 35 = .ok (.iconst 0, 1) := by decide +kernel
theorem d_M_prefer_36 : decode c_M_prefer 36 = .ok (.ireturn, 1) := by decide +kernel
theorem d_M_prefer_37 : decode c_M_prefer 37 = .ok (.aload_n 0, 1) := by decide +kernel
theorem d_M_prefer_38 : decode c_M_prefer 38 = .ok (.getfield 37, 3) := by decide +kernel
theorem d_M_prefer_41 : decode c_M_prefer 41 = .ok (.iload_n 1, 1) := by decide +kernel
theorem d_M_prefer_42 : decode c_M_prefer 42 = .ok (.iload_n 2, 1) := by decide +kernel
theorem d_M_prefer_43 : decode c_M_prefer 43 = .ok (.iastore, 1) := by decide +kernel
theorem d_M_prefer_44 : decode c_M_prefer 44 = .ok (.iconst 1, 1) := by decide +kernel
theorem d_M_prefer_45 : decode c_M_prefer 45 = .ok (.ireturn, 1) := by decide +kernel
theorem d_M_total_0 : decode c_M_total 0 = .ok (.iconst 0, 1) := by decide +kernel
theorem d_M_total_1 : decode c_M_total 1 = .ok (.istore_n 1, 1) := by decide +kernel
theorem d_M_total_2 : decode c_M_total 2 = .ok (.iconst 0, 1) := by decide +kernel
theorem d_M_total_3 : decode c_M_total 3 = .ok (.istore_n 2, 1) := by decide +kernel
theorem d_M_total_4 : decode c_M_total 4 = .ok (.iload_n 2, 1) := by decide +kernel
theorem d_M_total_5 : decode c_M_total 5 = .ok (.aload_n 0, 1) := by decide +kernel
theorem d_M_total_6 : decode c_M_total 6 = .ok (.getfield 56, 3) := by decide +kernel
theorem d_M_total_9 : decode c_M_total 9 = .ok (.if_icmp .ge 18, 3) := by decide +kernel
theorem d_M_total_12 : decode c_M_total 12 = .ok (.iload_n 1, 1) := by decide +kernel
theorem d_M_total_13 : decode c_M_total 13 = .ok (.aload_n 0, 1) := by decide +kernel
theorem d_M_total_14 : decode c_M_total 14 = .ok (.getfield 37, 3) := by decide +kernel
theorem d_M_total_17 : decode c_M_total 17 = .ok (.iload_n 2, 1) := by decide +kernel
theorem d_M_total_18 : decode c_M_total 18 = .ok (.iaload, 1) := by decide +kernel
theorem d_M_total_19 : decode c_M_total 19 = .ok (.iadd, 1) := by decide +kernel
theorem d_M_total_20 : decode c_M_total 20 = .ok (.istore_n 1, 1) := by decide +kernel
theorem d_M_total_21 : decode c_M_total 21 = .ok (.iinc 2 1, 3) := by decide +kernel
theorem d_M_total_24 : decode c_M_total 24 = .ok (.goto (-20), 3) := by decide +kernel
theorem d_M_total_27 : decode c_M_total 27 = .ok (.iload_n 1, 1) := by decide +kernel
theorem d_M_total_28 : decode c_M_total 28 = .ok (.ireturn, 1) := by decide +kernel
theorem d_M_start_0 : decode c_M_start 0 = .ok (.iload_n 1, 1) := by decide +kernel
theorem d_M_start_1 : decode c_M_start 1 = .ok (.ifCond .lt 19, 3) := by decide +kernel
theorem d_M_start_4 : decode c_M_start 4 = .ok (.iload_n 1, 1) := by decide +kernel
theorem d_M_start_5 : decode c_M_start 5 = .ok (.iconst 2, 1) := by decide +kernel
theorem d_M_start_6 : decode c_M_start 6 = .ok (.if_icmp .gt 14, 3) := by decide +kernel
theorem d_M_start_9 : decode c_M_start 9 = .ok (.iload_n 2, 1) := by decide +kernel
theorem d_M_start_10 : decode c_M_start 10 = .ok (.ifCond .lt 10, 3) := by decide +kernel
theorem d_M_start_13 : decode c_M_start 13 = .ok (.iload_n 2, 1) := by decide +kernel
theorem d_M_start_14 : decode c_M_start 14 = .ok (.sipush 1000, 3) := by decide +kernel
theorem d_M_start_17 : decode c_M_start 17 = .ok (.if_icmp .le 5, 3) := by decide +kernel
theorem d_M_start_20 : decode c_M_start 20 = .ok (.iconst 0, 1) := by decide +kernel
theorem d_M_start_21 : decode c_M_start 21 = .ok (.ireturn, 1) := by decide +kernel
theorem d_M_start_22 : decode c_M_start 22 = .ok (.aload_n 0, 1) := by decide +kernel
theorem d_M_start_23 : decode c_M_start 23 = .ok (.iload_n 1, 1) := by decide +kernel
theorem d_M_start_24 : decode c_M_start 24 = .ok (.putfield 191, 3) := by decide +kernel
theorem d_M_start_27 : decode c_M_start 27 = .ok (.aload_n 0, 1) := by decide +kernel
theorem d_M_start_28 : decode c_M_start 28 = .ok (.iload_n 2, 1) := by decide +kernel
theorem d_M_start_29 : decode c_M_start 29 = .ok (.putfield 194, 3) := by decide +kernel
theorem d_M_start_32 : decode c_M_start 32 = .ok (.aload_n 0, 1) := by decide +kernel
theorem d_M_start_33 : decode c_M_start 33 = .ok (.lconst 0, 1) := by decide +kernel
theorem d_M_start_34 : decode c_M_start 34 = .ok (.putfield 197, 3) := by decide +kernel
theorem d_M_start_37 : decode c_M_start 37 = .ok (.iconst 0, 1) := by decide +kernel
theorem d_M_start_38 : decode c_M_start 38 = .ok (.istore_n 3, 1) := by decide +kernel
theorem d_M_start_39 : decode c_M_start 39 = .ok (.iload_n 3, 1) := by decide +kernel
theorem d_M_start_40 : decode c_M_start 40 = .ok (.aload_n 0, 1) := by decide +kernel
theorem d_M_start_41 : decode c_M_start 41 = .ok (.getfield 56, 3) := by decide +kernel
theorem d_M_start_44 : decode c_M_start 44 = .ok (.if_icmp .ge 53, 3) := by decide +kernel
theorem d_M_start_47 : decode c_M_start 47 = .ok (.aload_n 0, 1) := by decide +kernel
theorem d_M_start_48 : decode c_M_start 48 = .ok (.getfield 40, 3) := by decide +kernel
theorem d_M_start_51 : decode c_M_start 51 = .ok (.iload_n 3, 1) := by decide +kernel
theorem d_M_start_52 : decode c_M_start 52 = .ok (.iload_n 1, 1) := by decide +kernel
theorem d_M_start_53 : decode c_M_start 53 = .ok (.iconst 1, 1) := by decide +kernel
theorem d_M_start_54 : decode c_M_start 54 = .ok (.if_icmp .ne 9, 3) := by decide +kernel
theorem d_M_start_57 : decode c_M_start 57 = .ok (.ldc2_w 201, 3) := by decide +kernel
theorem d_M_start_60 : decode c_M_start 60 = .ok (.goto 12, 3) := by decide +kernel
theorem d_M_start_63 : decode c_M_start 63 = .ok (.ldc2_w 203, 3) := by decide +kernel
theorem d_M_start_66 : decode c_M_start 66 = .ok (.aload_n 0, 1) := by decide +kernel
theorem d_M_start_67 : decode c_M_start 67 = .ok (.getfield 56, 3) := by decide +kernel
theorem d_M_start_70 : decode c_M_start 70 = .ok (.i2l, 1) := by decide +kernel
theorem d_M_start_71 : decode c_M_start 71 = .ok (.ldiv, 1) := by decide +kernel
theorem d_M_start_72 : decode c_M_start 72 = .ok (.lastore, 1) := by decide +kernel
theorem d_M_start_73 : decode c_M_start 73 = .ok (.aload_n 0, 1) := by decide +kernel
theorem d_M_start_74 : decode c_M_start 74 = .ok (.getfield 44, 3) := by decide +kernel
theorem d_M_start_77 : decode c_M_start 77 = .ok (.iload_n 3, 1) := by decide +kernel
theorem d_M_start_78 : decode c_M_start 78 = .ok (.iload_n 1, 1) := by decide +kernel
theorem d_M_start_79 : decode c_M_start 79 = .ok (.iconst 1, 1) := by decide +kernel
theorem d_M_start_80 : decode c_M_start 80 = .ok (.if_icmp .ne 9, 3) := by decide +kernel
theorem d_M_start_83 : decode c_M_start 83 = .ok (.ldc2_w 201, 3) := by decide +kernel
theorem d_M_start_86 : decode c_M_start 86 = .ok (.goto 4, 3) := by decide +kernel
theorem d_M_start_89 : decode c_M_start 89 = .ok (.lconst 0, 1) := by decide +kernel
theorem d_M_start_90 : decode c_M_start 90 = .ok (.lastore, 1) := by decide +kernel
theorem d_M_start_91 : decode c_M_start 91 = .ok (.iinc 3 1, 3) := by decide +kernel
theorem d_M_start_94 : decode c_M_start 94 = .ok (.goto (-55), 3) := by decide +kernel
theorem d_M_start_97 : decode c_M_start 97 = .ok (.iconst 1, 1) := by decide +kernel
theorem d_M_start_98 : decode c_M_start 98 = .ok (.ireturn, 1) := by decide +kernel
theorem d_M_links_0 : decode c_M_links 0 = .ok (.aload_n 0, 1) := by decide +kernel
theorem d_M_links_1 : decode c_M_links 1 = .ok (.getfield 25, 3) := by decide +kernel
theorem d_M_links_4 : decode c_M_links 4 = .ok (.iload_n 1, 1) := by decide +kernel
theorem d_M_links_5 : decode c_M_links 5 = .ok (.iaload, 1) := by decide +kernel
theorem d_M_links_6 : decode c_M_links 6 = .ok (.iload_n 2, 1) := by decide +kernel
theorem d_M_links_7 : decode c_M_links 7 = .ok (.ishr, 1) := by decide +kernel
theorem d_M_links_8 : decode c_M_links 8 = .ok (.iconst 1, 1) := by decide +kernel
theorem d_M_links_9 : decode c_M_links 9 = .ok (.iand, 1) := by decide +kernel
theorem d_M_links_10 : decode c_M_links 10 = .ok (.iconst 1, 1) := by decide +kernel
theorem d_M_links_11 : decode c_M_links 11 = .ok (.if_icmp .ne 7, 3) := by decide +kernel
theorem d_M_links_14 : decode c_M_links 14 = .ok (.iconst 1, 1) := by decide +kernel
theorem d_M_links_15 : decode c_M_links 15 = .ok (.goto 4, 3) := by decide +kernel
theorem d_M_links_18 : decode c_M_links 18 = .ok (.iconst 0, 1) := by decide +kernel
theorem d_M_links_19 : decode c_M_links 19 = .ok (.ireturn, 1) := by decide +kernel
theorem d_M_into_0 : decode c_M_into 0 = .ok (.iconst 0, 1) := by decide +kernel
theorem d_M_into_1 : decode c_M_into 1 = .ok (.istore_n 2, 1) := by decide +kernel
theorem d_M_into_2 : decode c_M_into 2 = .ok (.iconst 0, 1) := by decide +kernel
theorem d_M_into_3 : decode c_M_into 3 = .ok (.istore_n 3, 1) := by decide +kernel
theorem d_M_into_4 : decode c_M_into 4 = .ok (.iload_n 3, 1) := by decide +kernel
theorem d_M_into_5 : decode c_M_into 5 = .ok (.aload_n 0, 1) := by decide +kernel
theorem d_M_into_6 : decode c_M_into 6 = .ok (.getfield 56, 3) := by decide +kernel
theorem d_M_into_9 : decode c_M_into 9 = .ok (.if_icmp .ge 26, 3) := by decide +kernel
theorem d_M_into_12 : decode c_M_into 12 = .ok (.iload_n 2, 1) := by decide +kernel
theorem d_M_into_13 : decode c_M_into 13 = .ok (.aload_n 0, 1) := by decide +kernel
theorem d_M_into_14 : decode c_M_into 14 = .ok (.iload_n 3, 1) := by decide +kernel
theorem d_M_into_15 : decode c_M_into 15 = .ok (.iload_n 1, 1) := by decide +kernel
theorem d_M_into_16 : decode c_M_into 16 = .ok (.invokevirtual 205, 3) := by decide +kernel
theorem d_M_into_19 : decode c_M_into 19 = .ok (.ifCond .eq 7, 3) := by decide +kernel
theorem d_M_into_22 : decode c_M_into 22 = .ok (.iconst 1, 1) := by decide +kernel
theorem d_M_into_23 : decode c_M_into 23 = .ok (.goto 4, 3) := by decide +kernel
theorem d_M_into_26 : decode c_M_into 26 = .ok (.iconst 0, 1) := by decide +kernel
theorem d_M_into_27 : decode c_M_into 27 = .ok (.iadd, 1) := by decide +kernel
theorem d_M_into_28 : decode c_M_into 28 = .ok (.istore_n 2, 1) := by decide +kernel
theorem d_M_into_29 : decode c_M_into 29 = .ok (.iinc 3 1, 3) := by decide +kernel
theorem d_M_into_32 : decode c_M_into 32 = .ok (.goto (-28), 3) := by decide +kernel
theorem d_M_into_35 : decode c_M_into 35 = .ok (.iload_n 2, 1) := by decide +kernel
theorem d_M_into_36 : decode c_M_into 36 = .ok (.ireturn, 1) := by decide +kernel
theorem d_M_stepRank_0 : decode c_M_stepRank 0 = .ok (.aload_n 0, 1) := by decide +kernel
theorem d_M_stepRank_1 : decode c_M_stepRank 1 = .ok (.invokevirtual 188, 3) := by decide +kernel
theorem d_M_stepRank_4 : decode c_M_stepRank 4 = .ok (.i2l, 1) := by decide +kernel
theorem d_M_stepRank_5 : decode c_M_stepRank 5 = .ok (.lstore_n 1, 1) := by decide +kernel
theorem d_M_stepRank_6 : decode c_M_stepRank 6 = .ok (.lconst 0, 1) := by decide +kernel
theorem d_M_stepRank_7 : decode c_M_stepRank 7 = .ok (.lstore_n 3, 1) := by decide +kernel
theorem d_M_stepRank_8 : decode c_M_stepRank 8 = .ok (.iconst 0, 1) := by decide +kernel
theorem d_M_stepRank_9 : decode c_M_stepRank 9 = .ok (.istore 5, 2) := by decide +kernel
theorem d_M_stepRank_11 : decode c_M_stepRank 11 = .ok (.iload 5, 2) := by decide +kernel
theorem d_M_stepRank_13 : decode c_M_stepRank 13 = .ok (.aload_n 0, 1) := by decide +kernel
theorem d_M_stepRank_14 : decode c_M_stepRank 14 = .ok (.getfield 56, 3) := by decide +kernel
theorem d_M_stepRank_17 : decode c_M_stepRank 17 = .ok (.if_icmp .ge 33, 3) := by decide +kernel
theorem d_M_stepRank_20 : decode c_M_stepRank 20 = .ok (.lload_n 3, 1) := by decide +kernel
theorem d_M_stepRank_21 : decode c_M_stepRank 21 = .ok (.aload_n 0, 1) := by decide +kernel
theorem d_M_stepRank_22 : decode c_M_stepRank 22 = .ok (.getfield 25, 3) := by decide +kernel
theorem d_M_stepRank_25 : decode c_M_stepRank 25 = .ok (.iload 5, 2) := by decide +kernel
theorem d_M_stepRank_27 : decode c_M_stepRank 27 = .ok (.iaload, 1) := by decide +kernel
theorem d_M_stepRank_28 : decode c_M_stepRank 28 = .ok (.ifCond .ne 13, 3) := by decide +kernel
theorem d_M_stepRank_31 : decode c_M_stepRank 31 = .ok (.aload_n 0, 1) := by decide +kernel
theorem d_M_stepRank_32 : decode c_M_stepRank 32 = .ok (.getfield 40, 3) := by decide +kernel
theorem d_M_stepRank_35 : decode c_M_stepRank 35 = .ok (.iload 5, 2) := by decide +kernel
theorem d_M_stepRank_37 : decode c_M_stepRank 37 = .ok (.laload, 1) := by decide +kernel
theorem d_M_stepRank_38 : decode c_M_stepRank 38 = .ok (.goto 4, 3) := by decide +kernel
theorem d_M_stepRank_41 : decode c_M_stepRank 41 = .ok (.lconst 0, 1) := by decide +kernel
theorem d_M_stepRank_42 : decode c_M_stepRank 42 = .ok (.ladd, 1) := by decide +kernel
theorem d_M_stepRank_43 : decode c_M_stepRank 43 = .ok (.lstore_n 3, 1) := by decide +kernel
theorem d_M_stepRank_44 : decode c_M_stepRank 44 = .ok (.iinc 5 1, 3) := by decide +kernel
theorem d_M_stepRank_47 : decode c_M_stepRank 47 = .ok (.goto (-36), 3) := by decide +kernel
theorem d_M_stepRank_50 : decode c_M_stepRank 50 = .ok (.iconst 0, 1) := by decide +kernel
theorem d_M_stepRank_51 : decode c_M_stepRank 51 = .ok (.istore 5, 2) := by decide +kernel
theorem d_M_stepRank_53 : decode c_M_stepRank 53 = .ok (.iload 5, 2) := by decide +kernel
theorem d_M_stepRank_55 : decode c_M_stepRank 55 = .ok (.aload_n 0, 1) := by decide +kernel
theorem d_M_stepRank_56 : decode c_M_stepRank 56 = .ok (.getfield 56, 3) := by decide +kernel
theorem d_M_stepRank_59 : decode c_M_stepRank 59 = .ok (.if_icmp .ge 126, 3) := by decide +kernel
theorem d_M_stepRank_62 : decode c_M_stepRank 62 = .ok (.lconst 0, 1) := by decide +kernel
theorem d_M_stepRank_63 : decode c_M_stepRank 63 = .ok (.lstore 6, 2) := by decide +kernel
theorem d_M_stepRank_65 : decode c_M_stepRank 65 = .ok (.iconst 0, 1) := by decide +kernel
theorem d_M_stepRank_66 : decode c_M_stepRank 66 = .ok (.istore 8, 2) := by decide +kernel
theorem d_M_stepRank_68 : decode c_M_stepRank 68 = .ok (.iload 8, 2) := by decide +kernel
theorem d_M_stepRank_70 : decode c_M_stepRank 70 = .ok (.aload_n 0, 1) := by decide +kernel
theorem d_M_stepRank_71 : decode c_M_stepRank 71 = .ok (.getfield 56, 3) := by decide +kernel
theorem d_M_stepRank_74 : decode c_M_stepRank 74 = .ok (.if_icmp .ge 48, 3) := by decide +kernel
theorem d_M_stepRank_77 : decode c_M_stepRank 77 = .ok (.lload 6, 2) := by decide +kernel
theorem d_M_stepRank_79 : decode c_M_stepRank 79 = .ok (.aload_n 0, 1) := by decide +kernel
theorem d_M_stepRank_80 : decode c_M_stepRank 80 = .ok (.iload 8, 2) := by decide +kernel
theorem d_M_stepRank_82 : decode c_M_stepRank 82 = .ok (.iload 5, 2) := by decide +kernel
theorem d_M_stepRank_84 : decode c_M_stepRank 84 = .ok (.invokevirtual 205, 3) := by decide +kernel
theorem d_M_stepRank_87 : decode c_M_stepRank 87 = .ok (.ifCond .eq 25, 3) := by decide +kernel
theorem d_M_stepRank_90 : decode c_M_stepRank 90 = .ok (.aload_n 0, 1) := by decide +kernel
theorem d_M_stepRank_91 : decode c_M_stepRank 91 = .ok (.getfield 40, 3) := by decide +kernel
theorem d_M_stepRank_94 : decode c_M_stepRank 94 = .ok (.iload 8, 2) := by decide +kernel
theorem d_M_stepRank_96 : decode c_M_stepRank 96 = .ok (.laload, 1) := by decide +kernel
theorem d_M_stepRank_97 : decode c_M_stepRank 97 = .ok (.aload_n 0, 1) := by decide +kernel
theorem d_M_stepRank_98 : decode c_M_stepRank 98 = .ok (.getfield 25, 3) := by decide +kernel
theorem d_M_stepRank_101 : decode c_M_stepRank 101 = .ok (.iload 8, 2) := by decide +kernel
theorem d_M_stepRank_103 : decode c_M_stepRank 103 = .ok (.iaload, 1) := by decide +kernel
theorem d_M_stepRank_104 : decode c_M_stepRank 104 = .ok (.invokestatic 106, 3) := by decide +kernel
theorem d_M_stepRank_107 : decode c_M_stepRank 107 = .ok (.i2l, 1) := by decide +kernel
theorem d_M_stepRank_108 : decode c_M_stepRank 108 = .ok (.ldiv, 1) := by decide +kernel
theorem d_M_stepRank_109 : decode c_M_stepRank 109 = .ok (.goto 4, 3) := by decide +kernel
theorem d_M_stepRank_112 : decode c_M_stepRank 112 = .ok (.lconst 0, 1) := by decide +kernel
theorem d_M_stepRank_113 : decode c_M_stepRank 113 = .ok (.ladd, 1) := by decide +kernel
theorem d_M_stepRank_114 : decode c_M_stepRank 114 = .ok (.lstore 6, 2) := by decide +kernel
theorem d_M_stepRank_116 : decode c_M_stepRank 116 = .ok (.iinc 8 1, 3) := by decide +kernel
theorem d_M_stepRank_119 : decode c_M_stepRank 119 = .ok (.goto (-51), 3) := by decide +kernel
theorem d_M_stepRank_122 : decode c_M_stepRank 122 = .ok (.aload_n 0, 1) := by decide +kernel
theorem d_M_stepRank_123 : decode c_M_stepRank 123 = .ok (.getfield 47, 3) := by decide +kernel
theorem d_M_stepRank_126 : decode c_M_stepRank 126 = .ok (.iload 5, 2) := by decide +kernel
theorem d_M_stepRank_128 : decode c_M_stepRank 128 = .ok (.sipush 1000, 3) := by decide +kernel
theorem d_M_stepRank_131 : decode c_M_stepRank 131 = .ok (.aload_n 0, 1) := by decide +kernel
theorem d_M_stepRank_132 : decode c_M_stepRank 132 = .ok (.getfield 194, 3) := by decide +kernel
theorem d_M_stepRank_135 : decode c_M_stepRank 135 = .ok (.isub, 1) := by decide +kernel
theorem d_M_stepRank_136 : decode c_M_stepRank 136 = .ok (.i2l, 1) := by decide +kernel
theorem d_M_stepRank_137 : decode c_M_stepRank 137 = .ok (.ldc2_w 208, 3) := by decide +kernel
theorem d_M_stepRank_140 : decode c_M_stepRank 140 = .ok (.lmul, 1) := by decide +kernel
theorem d_M_stepRank_141 : decode c_M_stepRank 141 = .ok (.aload_n 0, 1) := by decide +kernel
theorem d_M_stepRank_142 : decode c_M_stepRank 142 = .ok (.getfield 37, 3) := by decide +kernel
theorem d_M_stepRank_145 : decode c_M_stepRank 145 = .ok (.iload 5, 2) := by decide +kernel
theorem d_M_stepRank_147 : decode c_M_stepRank 147 = .ok (.iaload, 1) := by decide +kernel
theorem d_M_stepRank_148 : decode c_M_stepRank 148 = .ok (.i2l, 1) := by decide +kernel
theorem d_M_stepRank_149 : decode c_M_stepRank 149 = .ok (.lmul, 1) := by decide +kernel
theorem d_M_stepRank_150 : decode c_M_stepRank 150 = .ok (.lload_n 1, 1) := by decide +kernel
theorem d_M_stepRank_151 : decode c_M_stepRank 151 = .ok (.ldiv, 1) := by decide +kernel
theorem d_M_stepRank_152 : decode c_M_stepRank 152 = .ok (.aload_n 0, 1) := by decide +kernel
theorem d_M_stepRank_153 : decode c_M_stepRank 153 = .ok (.getfield 194, 3) := by decide +kernel
theorem d_M_stepRank_156 : decode c_M_stepRank 156 = .ok (.i2l, 1) := by decide +kernel
theorem d_M_stepRank_157 : decode c_M_stepRank 157 = .ok (.lload 6, 2) := by decide +kernel
theorem d_M_stepRank_159 : decode c_M_stepRank 159 = .ok (.lload_n 3, 1) := by decide +kernel
theorem d_M_stepRank_160 : decode c_M_stepRank 160 = .ok (.aload_n 0, 1) := by decide +kernel
theorem d_M_stepRank_161 : decode c_M_stepRank 161 = .ok (.getfield 37, 3) := by decide +kernel
theorem d_M_stepRank_164 : decode c_M_stepRank 164 = .ok (.iload 5, 2) := by decide +kernel
theorem d_M_stepRank_166 : decode c_M_stepRank 166 = .ok (.iaload, 1) := by decide +kernel
theorem d_M_stepRank_167 : decode c_M_stepRank 167 = .ok (.i2l, 1) := by decide +kernel
theorem d_M_stepRank_168 : decode c_M_stepRank 168 = .ok (.lmul, 1) := by decide +kernel
theorem d_M_stepRank_169 : decode c_M_stepRank 169 = .ok (.lload_n 1, 1) := by decide +kernel
theorem d_M_stepRank_170 : decode c_M_stepRank 170 = .ok (.ldiv, 1) := by decide +kernel
theorem d_M_stepRank_171 : decode c_M_stepRank 171 = .ok (.ladd, 1) := by decide +kernel
theorem d_M_stepRank_172 : decode c_M_stepRank 172 = .ok (.lmul, 1) := by decide +kernel
theorem d_M_stepRank_173 : decode c_M_stepRank 173 = .ok (.ldc2_w 210, 3) := by decide +kernel
theorem d_M_stepRank_176 : decode c_M_stepRank 176 = .ok (.ldiv, 1) := by decide +kernel
theorem d_M_stepRank_177 : decode c_M_stepRank 177 = .ok (.ladd, 1) := by decide +kernel
theorem d_M_stepRank_178 : decode c_M_stepRank 178 = .ok (.lastore, 1) := by decide +kernel
theorem d_M_stepRank_179 : decode c_M_stepRank 179 = .ok (.iinc 5 1, 3) := by decide +kernel
theorem d_M_stepRank_182 : decode c_M_stepRank 182 = .ok (.goto (-129), 3) := by decide +kernel
theorem d_M_stepRank_185 : decode c_M_stepRank 185 = .ok (.return_, 1) := by decide +kernel
theorem d_M_bring_0 : decode c_M_bring 0 = .ok (.lconst 0, 1) := by decide +kernel
theorem d_M_bring_1 : decode c_M_bring 1 = .ok (.lstore_n 2, 1) := by decide +kernel
theorem d_M_bring_2 : decode c_M_bring 2 = .ok (.iconst 0, 1) := by decide +kernel
theorem d_M_bring_3 : decode c_M_bring 3 = .ok (.istore 4, 2) := by decide +kernel
theorem d_M_bring_5 : decode c_M_bring 5 = .ok (.iload 4, 2) := by decide +kernel
theorem d_M_bring_7 : decode c_M_bring 7 = .ok (.aload_n 0, 1) := by decide +kernel
theorem d_M_bring_8 : decode c_M_bring 8 = .ok (.getfield 56, 3) := by decide +kernel
theorem d_M_bring_11 : decode c_M_bring 11 = .ok (.if_icmp .ge 46, 3) := by decide +kernel
theorem d_M_bring_14 : decode c_M_bring 14 = .ok (.iload_n 1, 1) := by decide +kernel
theorem d_M_bring_15 : decode c_M_bring 15 = .ok (.ifCond .eq 13, 3) := by decide +kernel
theorem d_M_bring_18 : decode c_M_bring 18 = .ok (.aload_n 0, 1) := by decide +kernel
theorem d_M_bring_19 : decode c_M_bring 19 = .ok (.getfield 44, 3) := by decide +kernel
theorem d_M_bring_22 : decode c_M_bring 22 = .ok (.iload 4, 2) := by decide +kernel
theorem d_M_bring_24 : decode c_M_bring 24 = .ok (.laload, 1) := by decide +kernel
theorem d_M_bring_25 : decode c_M_bring 25 = .ok (.goto 10, 3) := by decide +kernel
theorem d_M_bring_28 : decode c_M_bring 28 = .ok (.aload_n 0, 1) := by decide +kernel
theorem d_M_bring_29 : decode c_M_bring 29 = .ok (.getfield 47, 3) := by decide +kernel
theorem d_M_bring_32 : decode c_M_bring 32 = .ok (.iload 4, 2) := by decide +kernel
theorem d_M_bring_34 : decode c_M_bring 34 = .ok (.laload, 1) := by decide +kernel
theorem d_M_bring_35 : decode c_M_bring 35 = .ok (.lstore 5, 2) := by decide +kernel
theorem d_M_bring_37 : decode c_M_bring 37 = .ok (.lload 5, 2) := by decide +kernel
theorem d_M_bring_39 : decode c_M_bring 39 = .ok (.lload_n 2, 1) := by decide +kernel
theorem d_M_bring_40 : decode c_M_bring 40 = .ok (.lcmp, 1) := by decide +kernel
theorem d_M_bring_41 : decode c_M_bring 41 = .ok (.ifCond .le 8, 3) := by decide +kernel
theorem d_M_bring_44 : decode c_M_bring 44 = .ok (.lload 5, 2) := by decide +kernel
theorem d_M_bring_46 : decode c_M_bring 46 = .ok (.goto 4, 3) := by decide +kernel
theorem d_M_bring_49 : decode c_M_bring 49 = .ok (.lload_n 2, 1) := by decide +kernel
theorem d_M_bring_50 : decode c_M_bring 50 = .ok (.lstore_n 2, 1) := by decide +kernel
theorem d_M_bring_51 : decode c_M_bring 51 = .ok (.iinc 4 1, 3) := by decide +kernel
theorem d_M_bring_54 : decode c_M_bring 54 = .ok (.goto (-49), 3) := by decide +kernel
theorem d_M_bring_57 : decode c_M_bring 57 = .ok (.iconst 0, 1) := by decide +kernel
theorem d_M_bring_58 : decode c_M_bring 58 = .ok (.istore 4, 2) := by decide +kernel
theorem d_M_bring_60 : decode c_M_bring 60 = .ok (.iload 4, 2) := by decide +kernel
theorem d_M_bring_62 : decode c_M_bring 62 = .ok (.aload_n 0, 1) := by decide +kernel
theorem d_M_bring_63 : decode c_M_bring 63 = .ok (.getfield 56, 3) := by decide +kernel
theorem d_M_bring_66 : decode c_M_bring 66 = .ok (.if_icmp .ge 62, 3) := by decide +kernel
theorem d_M_bring_69 : decode c_M_bring 69 = .ok (.lload_n 2, 1) := by decide +kernel
theorem d_M_bring_70 : decode c_M_bring 70 = .ok (.lconst 0, 1) := by decide +kernel
theorem d_M_bring_71 : decode c_M_bring 71 = .ok (.lcmp, 1) := by decide +kernel
theorem d_M_bring_72 : decode c_M_bring 72 = .ok (.ifCond .le 56, 3) := by decide +kernel
theorem d_M_bring_75 : decode c_M_bring 75 = .ok (.iload_n 1, 1) := by decide +kernel
theorem d_M_bring_76 : decode c_M_bring 76 = .ok (.ifCond .eq 26, 3) := by decide +kernel
theorem d_M_bring_79 : decode c_M_bring 79 = .ok (.aload_n 0, 1) := by decide +kernel
theorem d_M_bring_80 : decode c_M_bring 80 = .ok (.getfield 44, 3) := by decide +kernel
theorem d_M_bring_83 : decode c_M_bring 83 = .ok (.iload 4, 2) := by decide +kernel
theorem d_M_bring_85 : decode c_M_bring 85 = .ok (.aload_n 0, 1) := by decide +kernel
theorem d_M_bring_86 : decode c_M_bring 86 = .ok (.getfield 44, 3) := by decide +kernel
theorem d_M_bring_89 : decode c_M_bring 89 = .ok (.iload 4, 2) := by decide +kernel
theorem d_M_bring_91 : decode c_M_bring 91 = .ok (.laload, 1) := by decide +kernel
theorem d_M_bring_92 : decode c_M_bring 92 = .ok (.ldc2_w 201, 3) := by decide +kernel
theorem d_M_bring_95 : decode c_M_bring 95 = .ok (.lmul, 1) := by decide +kernel
theorem d_M_bring_96 : decode c_M_bring 96 = .ok (.lload_n 2, 1) := by decide +kernel
theorem d_M_bring_97 : decode c_M_bring 97 = .ok (.ldiv, 1) := by decide +kernel
theorem d_M_bring_98 : decode c_M_bring 98 = .ok (.lastore, 1) := by decide +kernel
theorem d_M_bring_99 : decode c_M_bring 99 = .ok (.goto 23, 3) := by decide +kernel
theorem d_M_bring_102 : decode c_M_bring 102 = .ok (.aload_n 0, 1) := by decide +kernel
theorem d_M_bring_103 : decode c_M_bring 103 = .ok (.getfield 47, 3) := by decide +kernel
theorem d_M_bring_106 : decode c_M_bring 106 = .ok (.iload 4, 2) := by decide +kernel
theorem d_M_bring_108 : decode c_M_bring 108 = .ok (.aload_n 0, 1) := by decide +kernel
theorem d_M_bring_109 : decode c_M_bring 109 = .ok (.getfield 47, 3) := by decide +kernel
theorem d_M_bring_112 : decode c_M_bring 112 = .ok (.iload 4, 2) := by decide +kernel
theorem d_M_bring_114 : decode c_M_bring 114 = .ok (.laload, 1) := by decide +kernel
theorem d_M_bring_115 : decode c_M_bring 115 = .ok (.ldc2_w 201, 3) := by decide +kernel
theorem d_M_bring_118 : decode c_M_bring 118 = .ok (.lmul, 1) := by decide +kernel
theorem d_M_bring_119 : decode c_M_bring 119 = .ok (.lload_n 2, 1) := by decide +kernel
theorem d_M_bring_120 : decode c_M_bring 120 = .ok (.ldiv, 1) := by decide +kernel
theorem d_M_bring_121 : decode c_M_bring 121 = .ok (.lastore, 1) := by decide +kernel
theorem d_M_bring_122 : decode c_M_bring 122 = .ok (.iinc 4 1, 3) := by decide +kernel
theorem d_M_bring_125 : decode c_M_bring 125 = .ok (.goto (-65), 3) := by decide +kernel
theorem d_M_bring_128 : decode c_M_bring 128 = .ok (.return_, 1) := by decide +kernel
theorem d_M_stepHubs_0 : decode c_M_stepHubs 0 = .ok (.iconst 0, 1) := by decide +kernel
theorem d_M_stepHubs_1 : decode c_M_stepHubs 1 = .ok (.istore_n 1, 1) := by decide +kernel
theorem d_M_stepHubs_2 : decode c_M_stepHubs 2 = .ok (.iload_n 1, 1) := by decide +kernel
theorem d_M_stepHubs_3 : decode c_M_stepHubs 3 = .ok (.aload_n 0, 1) := by decide +kernel
theorem d_M_stepHubs_4 : decode c_M_stepHubs 4 = .ok (.getfield 56, 3) := by decide +kernel
theorem d_M_stepHubs_7 : decode c_M_stepHubs 7 = .ok (.if_icmp .ge 60, 3) := by decide +kernel
theorem d_M_stepHubs_10 : decode c_M_stepHubs 10 = .ok (.aload_n 0, 1) := by decide +kernel
theorem d_M_stepHubs_11 : decode c_M_stepHubs 11 = .ok (.getfield 47, 3) := by decide +kernel
theorem d_M_stepHubs_14 : decode c_M_stepHubs 14 = .ok (.iload_n 1, 1) := by decide +kernel
theorem d_M_stepHubs_15 : decode c_M_stepHubs 15 = .ok (.lconst 0, 1) := by decide +kernel
theorem d_M_stepHubs_16 : decode c_M_stepHubs 16 = .ok (.lastore, 1) := by decide +kernel
theorem d_M_stepHubs_17 : decode c_M_stepHubs 17 = .ok (.iconst 0, 1) := by decide +kernel
theorem d_M_stepHubs_18 : decode c_M_stepHubs 18 = .ok (.istore_n 2, 1) := by decide +kernel
theorem d_M_stepHubs_19 : decode c_M_stepHubs 19 = .ok (.iload_n 2, 1) := by decide +kernel
theorem d_M_stepHubs_20 : decode c_M_stepHubs 20 = .ok (.aload_n 0, 1) := by decide +kernel
theorem d_M_stepHubs_21 : decode c_M_stepHubs 21 = .ok (.getfield 56, 3) := by decide +kernel
theorem d_M_stepHubs_24 : decode c_M_stepHubs 24 = .ok (.if_icmp .ge 37, 3) := by decide +kernel
theorem d_M_stepHubs_27 : decode c_M_stepHubs 27 = .ok (.aload_n 0, 1) := by decide +kernel
theorem d_M_stepHubs_28 : decode c_M_stepHubs 28 = .ok (.getfield 47, 3) := by decide +kernel
theorem d_M_stepHubs_31 : decode c_M_stepHubs 31 = .ok (.iload_n 1, 1) := by decide +kernel
theorem d_M_stepHubs_32 : decode c_M_stepHubs 32 = .ok (.dup2, 1) := by decide +kernel
theorem d_M_stepHubs_33 : decode c_M_stepHubs 33 = .ok (.laload, 1) := by decide +kernel
theorem d_M_stepHubs_34 : decode c_M_stepHubs 34 = .ok (.aload_n 0, 1) := by decide +kernel
theorem d_M_stepHubs_35 : decode c_M_stepHubs 35 = .ok (.iload_n 2, 1) := by decide +kernel
theorem d_M_stepHubs_36 : decode c_M_stepHubs 36 = .ok (.iload_n 1, 1) := by decide +kernel
theorem d_M_stepHubs_37 : decode c_M_stepHubs 37 = .ok (.invokevirtual 205, 3) := by decide +kernel
theorem d_M_stepHubs_40 : decode c_M_stepHubs 40 = .ok (.ifCond .eq 12, 3) := by decide +kernel
theorem d_M_stepHubs_43 : decode c_M_stepHubs 43 = .ok (.aload_n 0, 1) := by decide +kernel
theorem d_M_stepHubs_44 : decode c_M_stepHubs 44 = .ok (.getfield 44, 3) := by decide +kernel
theorem d_M_stepHubs_47 : decode c_M_stepHubs 47 = .ok (.iload_n 2, 1) := by decide +kernel
theorem d_M_stepHubs_48 : decode c_M_stepHubs 48 = .ok (.laload, 1) := by decide +kernel
theorem d_M_stepHubs_49 : decode c_M_stepHubs 49 = .ok (.goto 4, 3) := by decide +kernel
theorem d_M_stepHubs_52 : decode c_M_stepHubs 52 = .ok (.lconst 0, 1) := by decide +kernel
theorem d_M_stepHubs_53 : decode c_M_stepHubs 53 = .ok (.ladd, 1) := by decide +kernel
theorem d_M_stepHubs_54 : decode c_M_stepHubs 54 = .ok (.lastore, 1) := by decide +kernel
theorem d_M_stepHubs_55 : decode c_M_stepHubs 55 = .ok (.iinc 2 1, 3) := by decide +kernel
theorem d_M_stepHubs_58 : decode c_M_stepHubs 58 = .ok (.goto (-39), 3) := by decide +kernel
theorem d_M_stepHubs_61 : decode c_M_stepHubs 61 = .ok (.iinc 1 1, 3) := by decide +kernel
theorem d_M_stepHubs_64 : decode c_M_stepHubs 64 = .ok (.goto (-62), 3) := by decide +kernel
theorem d_M_stepHubs_67 : decode c_M_stepHubs 67 = .ok (.aload_n 0, 1) := by decide +kernel
theorem d_M_stepHubs_68 : decode c_M_stepHubs 68 = .ok (.iconst 0, 1) := by decide +kernel
theorem d_M_stepHubs_69 : decode c_M_stepHubs 69 = .ok (.invokevirtual 212, 3) := by decide +kernel
theorem d_M_stepHubs_72 : decode c_M_stepHubs 72 = .ok (.iconst 0, 1) := by decide +kernel
theorem d_M_stepHubs_73 : decode c_M_stepHubs 73 = .ok (.istore_n 1, 1) := by decide +kernel
theorem d_M_stepHubs_74 : decode c_M_stepHubs 74 = .ok (.iload_n 1, 1) := by decide +kernel
theorem d_M_stepHubs_75 : decode c_M_stepHubs 75 = .ok (.aload_n 0, 1) := by decide +kernel
theorem d_M_stepHubs_76 : decode c_M_stepHubs 76 = .ok (.getfield 56, 3) := by decide +kernel
theorem d_M_stepHubs_79 : decode c_M_stepHubs 79 = .ok (.if_icmp .ge 60, 3) := by decide +kernel
theorem d_M_stepHubs_82 : decode c_M_stepHubs 82 = .ok (.aload_n 0, 1) := by decide +kernel
theorem d_M_stepHubs_83 : decode c_M_stepHubs 83 = .ok (.getfield 44, 3) := by decide +kernel
theorem d_M_stepHubs_86 : decode c_M_stepHubs 86 = .ok (.iload_n 1, 1) := by decide +kernel
theorem d_M_stepHubs_87 : decode c_M_stepHubs 87 = .ok (.lconst 0, 1) := by decide +kernel
theorem d_M_stepHubs_88 : decode c_M_stepHubs 88 = .ok (.lastore, 1) := by decide +kernel
theorem d_M_stepHubs_89 : decode c_M_stepHubs 89 = .ok (.iconst 0, 1) := by decide +kernel
theorem d_M_stepHubs_90 : decode c_M_stepHubs 90 = .ok (.istore_n 2, 1) := by decide +kernel
theorem d_M_stepHubs_91 : decode c_M_stepHubs 91 = .ok (.iload_n 2, 1) := by decide +kernel
theorem d_M_stepHubs_92 : decode c_M_stepHubs 92 = .ok (.aload_n 0, 1) := by decide +kernel
theorem d_M_stepHubs_93 : decode c_M_stepHubs 93 = .ok (.getfield 56, 3) := by decide +kernel
theorem d_M_stepHubs_96 : decode c_M_stepHubs 96 = .ok (.if_icmp .ge 37, 3) := by decide +kernel
theorem d_M_stepHubs_99 : decode c_M_stepHubs 99 = .ok (.aload_n 0, 1) := by decide +kernel
theorem d_M_stepHubs_100 : decode c_M_stepHubs 100 = .ok (.getfield 44, 3) := by decide +kernel
theorem d_M_stepHubs_103 : decode c_M_stepHubs 103 = .ok (.iload_n 1, 1) := by decide +kernel
theorem d_M_stepHubs_104 : decode c_M_stepHubs 104 = .ok (.dup2, 1) := by decide +kernel
theorem d_M_stepHubs_105 : decode c_M_stepHubs 105 = .ok (.laload, 1) := by decide +kernel
theorem d_M_stepHubs_106 : decode c_M_stepHubs 106 = .ok (.aload_n 0, 1) := by decide +kernel
theorem d_M_stepHubs_107 : decode c_M_stepHubs 107 = .ok (.iload_n 1, 1) := by decide +kernel
theorem d_M_stepHubs_108 : decode c_M_stepHubs 108 = .ok (.iload_n 2, 1) := by decide +kernel
theorem d_M_stepHubs_109 : decode c_M_stepHubs 109 = .ok (.invokevirtual 205, 3) := by decide +kernel
theorem d_M_stepHubs_112 : decode c_M_stepHubs 112 = .ok (.ifCond .eq 12, 3) := by decide +kernel
theorem d_M_stepHubs_115 : decode c_M_stepHubs 115 = .ok (.aload_n 0, 1) := by decide +kernel
theorem d_M_stepHubs_116 : decode c_M_stepHubs 116 = .ok (.getfield 47, 3) := by decide +kernel
theorem d_M_stepHubs_119 : decode c_M_stepHubs 119 = .ok (.iload_n 2, 1) := by decide +kernel
theorem d_M_stepHubs_120 : decode c_M_stepHubs 120 = .ok (.laload, 1) := by decide +kernel
theorem d_M_stepHubs_121 : decode c_M_stepHubs 121 = .ok (.goto 4, 3) := by decide +kernel
theorem d_M_stepHubs_124 : decode c_M_stepHubs 124 = .ok (.lconst 0, 1) := by decide +kernel
theorem d_M_stepHubs_125 : decode c_M_stepHubs 125 = .ok (.ladd, 1) := by decide +kernel
theorem d_M_stepHubs_126 : decode c_M_stepHubs 126 = .ok (.lastore, 1) := by decide +kernel
theorem d_M_stepHubs_127 : decode c_M_stepHubs 127 = .ok (.iinc 2 1, 3) := by decide +kernel
theorem d_M_stepHubs_130 : decode c_M_stepHubs 130 = .ok (.goto (-39), 3) := by decide +kernel
theorem d_M_stepHubs_133 : decode c_M_stepHubs 133 = .ok (.iinc 1 1, 3) := by decide +kernel
theorem d_M_stepHubs_136 : decode c_M_stepHubs 136 = .ok (.goto (-62), 3) := by decide +kernel
theorem d_M_stepHubs_139 : decode c_M_stepHubs 139 = .ok (.aload_n 0, 1) := by decide +kernel
theorem d_M_stepHubs_140 : decode c_M_stepHubs 140 = .ok (.iconst 1, 1) := by decide +kernel
theorem d_M_stepHubs_141 : decode c_M_stepHubs 141 = .ok (.invokevirtual 212, 3) := by decide +kernel
theorem d_M_stepHubs_144 : decode c_M_stepHubs 144 = .ok (.return_, 1) := by decide +kernel
theorem d_M_stepShares_0 : decode c_M_stepShares 0 = .ok (.iconst 0, 1) := by decide +kernel
theorem d_M_stepShares_1 : decode c_M_stepShares 1 = .ok (.istore_n 1, 1) := by decide +kernel
theorem d_M_stepShares_2 : decode c_M_stepShares 2 = .ok (.iload_n 1, 1) := by decide +kernel
theorem d_M_stepShares_3 : decode c_M_stepShares 3 = .ok (.aload_n 0, 1) := by decide +kernel
theorem d_M_stepShares_4 : decode c_M_stepShares 4 = .ok (.getfield 56, 3) := by decide +kernel
theorem d_M_stepShares_7 : decode c_M_stepShares 7 = .ok (.if_icmp .ge 67, 3) := by decide +kernel
theorem d_M_stepShares_10 : decode c_M_stepShares 10 = .ok (.aload_n 0, 1) := by decide +kernel
theorem d_M_stepShares_11 : decode c_M_stepShares 11 = .ok (.getfield 44, 3) := by decide +kernel
theorem d_M_stepShares_14 : decode c_M_stepShares 14 = .ok (.iload_n 1, 1) := by decide +kernel
theorem d_M_stepShares_15 : decode c_M_stepShares 15 = .ok (.lconst 0, 1) := by decide +kernel
theorem d_M_stepShares_16 : decode c_M_stepShares 16 = .ok (.lastore, 1) := by decide +kernel
theorem d_M_stepShares_17 : decode c_M_stepShares 17 = .ok (.iconst 0, 1) := by decide +kernel
theorem d_M_stepShares_18 : decode c_M_stepShares 18 = .ok (.istore_n 2, 1) := by decide +kernel
theorem d_M_stepShares_19 : decode c_M_stepShares 19 = .ok (.iload_n 2, 1) := by decide +kernel
theorem d_M_stepShares_20 : decode c_M_stepShares 20 = .ok (.aload_n 0, 1) := by decide +kernel
theorem d_M_stepShares_21 : decode c_M_stepShares 21 = .ok (.getfield 56, 3) := by decide +kernel
theorem d_M_stepShares_24 : decode c_M_stepShares 24 = .ok (.if_icmp .ge 44, 3) := by decide +kernel
theorem d_M_stepShares_27 : decode c_M_stepShares 27 = .ok (.aload_n 0, 1) := by decide +kernel
theorem d_M_stepShares_28 : decode c_M_stepShares 28 = .ok (.getfield 44, 3) := by decide +kernel
theorem d_M_stepShares_31 : decode c_M_stepShares 31 = .ok (.iload_n 1, 1) := by decide +kernel
theorem d_M_stepShares_32 : decode c_M_stepShares 32 = .ok (.dup2, 1) := by decide +kernel
theorem d_M_stepShares_33 : decode c_M_stepShares 33 = .ok (.laload, 1) := by decide +kernel
theorem d_M_stepShares_34 : decode c_M_stepShares 34 = .ok (.aload_n 0, 1) := by decide +kernel
theorem d_M_stepShares_35 : decode c_M_stepShares 35 = .ok (.iload_n 1, 1) := by decide +kernel
theorem d_M_stepShares_36 : decode c_M_stepShares 36 = .ok (.iload_n 2, 1) := by decide +kernel
theorem d_M_stepShares_37 : decode c_M_stepShares 37 = .ok (.invokevirtual 205, 3) := by decide +kernel
theorem d_M_stepShares_40 : decode c_M_stepShares 40 = .ok (.ifCond .eq 19, 3) := by decide +kernel
theorem d_M_stepShares_43 : decode c_M_stepShares 43 = .ok (.aload_n 0, 1) := by decide +kernel
theorem d_M_stepShares_44 : decode c_M_stepShares 44 = .ok (.getfield 40, 3) := by decide +kernel
theorem d_M_stepShares_47 : decode c_M_stepShares 47 = .ok (.iload_n 2, 1) := by decide +kernel
theorem d_M_stepShares_48 : decode c_M_stepShares 48 = .ok (.laload, 1) := by decide +kernel
theorem d_M_stepShares_49 : decode c_M_stepShares 49 = .ok (.aload_n 0, 1) := by decide +kernel
theorem d_M_stepShares_50 : decode c_M_stepShares 50 = .ok (.iload_n 2, 1) := by decide +kernel
theorem d_M_stepShares_51 : decode c_M_stepShares 51 = .ok (.invokevirtual 216, 3) := by decide +kernel
theorem d_M_stepShares_54 : decode c_M_stepShares 54 = .ok (.i2l, 1) := by decide +kernel
theorem d_M_stepShares_55 : decode c_M_stepShares 55 = .ok (.ldiv, 1) := by decide +kernel
theorem d_M_stepShares_56 : decode c_M_stepShares 56 = .ok (.goto 4, 3) := by decide +kernel
theorem d_M_stepShares_59 : decode c_M_stepShares 59 = .ok (.lconst 0, 1) := by decide +kernel
theorem d_M_stepShares_60 : decode c_M_stepShares 60 = .ok (.ladd, 1) := by decide +kernel
theorem d_M_stepShares_61 : decode c_M_stepShares 61 = .ok (.lastore, 1) := by decide +kernel
theorem d_M_stepShares_62 : decode c_M_stepShares 62 = .ok (.iinc 2 1, 3) := by decide +kernel
theorem d_M_stepShares_65 : decode c_M_stepShares 65 = .ok (.goto (-46), 3) := by decide +kernel
theorem d_M_stepShares_68 : decode c_M_stepShares 68 = .ok (.iinc 1 1, 3) := by decide +kernel
theorem d_M_stepShares_71 : decode c_M_stepShares 71 = .ok (.goto (-69), 3) := by decide +kernel
theorem d_M_stepShares_74 : decode c_M_stepShares 74 = .ok (.iconst 0, 1) := by decide +kernel
theorem d_M_stepShares_75 : decode c_M_stepShares 75 = .ok (.istore_n 1, 1) := by decide +kernel
theorem d_M_stepShares_76 : decode c_M_stepShares 76 = .ok (.iload_n 1, 1) := by decide +kernel
theorem d_M_stepShares_77 : decode c_M_stepShares 77 = .ok (.aload_n 0, 1) := by decide +kernel
theorem d_M_stepShares_78 : decode c_M_stepShares 78 = .ok (.getfield 56, 3) := by decide +kernel
theorem d_M_stepShares_81 : decode c_M_stepShares 81 = .ok (.if_icmp .ge 71, 3) := by decide +kernel
theorem d_M_stepShares_84 : decode c_M_stepShares 84 = .ok (.aload_n 0, 1) := by decide +kernel
theorem d_M_stepShares_85 : decode c_M_stepShares 85 = .ok (.getfield 47, 3) := by decide +kernel
theorem d_M_stepShares_88 : decode c_M_stepShares 88 = .ok (.iload_n 1, 1) := by decide +kernel
theorem d_M_stepShares_89 : decode c_M_stepShares 89 = .ok (.lconst 0, 1) := by decide +kernel
theorem d_M_stepShares_90 : decode c_M_stepShares 90 = .ok (.lastore, 1) := by decide +kernel
theorem d_M_stepShares_91 : decode c_M_stepShares 91 = .ok (.iconst 0, 1) := by decide +kernel
theorem d_M_stepShares_92 : decode c_M_stepShares 92 = .ok (.istore_n 2, 1) := by decide +kernel
theorem d_M_stepShares_93 : decode c_M_stepShares 93 = .ok (.iload_n 2, 1) := by decide +kernel
theorem d_M_stepShares_94 : decode c_M_stepShares 94 = .ok (.aload_n 0, 1) := by decide +kernel
theorem d_M_stepShares_95 : decode c_M_stepShares 95 = .ok (.getfield 56, 3) := by decide +kernel
theorem d_M_stepShares_98 : decode c_M_stepShares 98 = .ok (.if_icmp .ge 48, 3) := by decide +kernel
theorem d_M_stepShares_101 : decode c_M_stepShares 101 = .ok (.aload_n 0, 1) := by decide +kernel
theorem d_M_stepShares_102 : decode c_M_stepShares 102 = .ok (.getfield 47, 3) := by decide +kernel
theorem d_M_stepShares_105 : decode c_M_stepShares 105 = .ok (.iload_n 1, 1) := by decide +kernel
theorem d_M_stepShares_106 : decode c_M_stepShares 106 = .ok (.dup2, 1) := by decide +kernel
theorem d_M_stepShares_107 : decode c_M_stepShares 107 = .ok (.laload, 1) := by decide +kernel
theorem d_M_stepShares_108 : decode c_M_stepShares 108 = .ok (.aload_n 0, 1) := by decide +kernel
theorem d_M_stepShares_109 : decode c_M_stepShares 109 = .ok (.iload_n 2, 1) := by decide +kernel
theorem d_M_stepShares_110 : decode c_M_stepShares 110 = .ok (.iload_n 1, 1) := by decide +kernel
theorem d_M_stepShares_111 : decode c_M_stepShares 111 = .ok (.invokevirtual 205, 3) := by decide +kernel
theorem d_M_stepShares_114 : decode c_M_stepShares 114 = .ok (.ifCond .eq 23, 3) := by decide +kernel
theorem d_M_stepShares_117 : decode c_M_stepShares 117 = .ok (.aload_n 0, 1) := by decide +kernel
theorem d_M_stepShares_118 : decode c_M_stepShares 118 = .ok (.getfield 44, 3) := by decide +kernel
theorem d_M_stepShares_121 : decode c_M_stepShares 121 = .ok (.iload_n 2, 1) := by decide +kernel
theorem d_M_stepShares_122 : decode c_M_stepShares 122 = .ok (.laload, 1) := by decide +kernel
theorem d_M_stepShares_123 : decode c_M_stepShares 123 = .ok (.aload_n 0, 1) := by decide +kernel
theorem d_M_stepShares_124 : decode c_M_stepShares 124 = .ok (.getfield 25, 3) := by decide +kernel
theorem d_M_stepShares_127 : decode c_M_stepShares 127 = .ok (.iload_n 2, 1) := by decide +kernel
theorem d_M_stepShares_128 : decode c_M_stepShares 128 = .ok (.iaload, 1) := by decide +kernel
theorem d_M_stepShares_129 : decode c_M_stepShares 129 = .ok (.invokestatic 106, 3) := by decide +kernel
theorem d_M_stepShares_132 : decode c_M_stepShares 132 = .ok (.i2l, 1) := by decide +kernel
theorem d_M_stepShares_133 : decode c_M_stepShares 133 = .ok (.ldiv, 1) := by decide +kernel
theorem d_M_stepShares_134 : decode c_M_stepShares 134 = .ok (.goto 4, 3) := by decide +kernel
theorem d_M_stepShares_137 : decode c_M_stepShares 137 = .ok (.lconst 0, 1) := by decide +kernel
theorem d_M_stepShares_138 : decode c_M_stepShares 138 = .ok (.ladd, 1) := by decide +kernel
theorem d_M_stepShares_139 : decode c_M_stepShares 139 = .ok (.lastore, 1) := by decide +kernel
theorem d_M_stepShares_140 : decode c_M_stepShares 140 = .ok (.iinc 2 1, 3) := by decide +kernel
theorem d_M_stepShares_143 : decode c_M_stepShares 143 = .ok (.goto (-50), 3) := by decide +kernel
theorem d_M_stepShares_146 : decode c_M_stepShares 146 = .ok (.iinc 1 1, 3) := by decide +kernel
theorem d_M_stepShares_149 : decode c_M_stepShares 149 = .ok (.goto (-73), 3) := by decide +kernel
theorem d_M_stepShares_152 : decode c_M_stepShares 152 = .ok (.return_, 1) := by decide +kernel
theorem d_M_step_0 : decode c_M_step 0 = .ok (.iload_n 1, 1) := by decide +kernel
theorem d_M_step_1 : decode c_M_step 1 = .ok (.ifCond .lt 9, 3) := by decide +kernel
theorem d_M_step_4 : decode c_M_step 4 = .ok (.iload_n 1, 1) := by decide +kernel
theorem d_M_step_5 : decode c_M_step 5 = .ok (.bipush 20, 2) := by decide +kernel
theorem d_M_step_7 : decode c_M_step 7 = .ok (.if_icmp .le 5, 3) := by decide +kernel
theorem d_M_step_10 : decode c_M_step 10 = .ok (.iconst (-1), 1) := by decide +kernel
theorem d_M_step_11 : decode c_M_step 11 = .ok (.ireturn, 1) := by decide +kernel
theorem d_M_step_12 : decode c_M_step 12 = .ok (.aload_n 0, 1) := by decide +kernel
theorem d_M_step_13 : decode c_M_step 13 = .ok (.invokevirtual 173, 3) := by decide +kernel
theorem d_M_step_16 : decode c_M_step 16 = .ok (.iconst 0, 1) := by decide +kernel
theorem d_M_step_17 : decode c_M_step 17 = .ok (.istore_n 2, 1) := by decide +kernel
theorem d_M_step_18 : decode c_M_step 18 = .ok (.iload_n 2, 1) := by decide +kernel
theorem d_M_step_19 : decode c_M_step 19 = .ok (.iload_n 1, 1) := by decide +kernel
theorem d_M_step_20 : decode c_M_step 20 = .ok (.if_icmp .ge 142, 3) := by decide +kernel
theorem d_M_step_23 : decode c_M_step 23 = .ok (.aload_n 0, 1) := by decide +kernel
theorem d_M_step_24 : decode c_M_step 24 = .ok (.getfield 191, 3) := by decide +kernel
theorem d_M_step_27 : decode c_M_step 27 = .ok (.ifCond .ne 10, 3) := by decide +kernel
theorem d_M_step_30 : decode c_M_step 30 = .ok (.aload_n 0, 1) := by decide +kernel
theorem d_M_step_31 : decode c_M_step 31 = .ok (.invokevirtual 219, 3) := by decide +kernel
theorem d_M_step_34 : decode c_M_step 34 = .ok (.goto 22, 3) := by decide +kernel
theorem d_M_step_37 : decode c_M_step 37 = .ok (.aload_n 0, 1) := by decide +kernel
theorem d_M_step_38 : decode c_M_step 38 = .ok (.getfield 191, 3) := by decide +kernel
theorem d_M_step_41 : decode c_M_step 41 = .ok (.iconst 1, 1) := by decide +kernel
theorem d_M_step_42 : decode c_M_step 42 = .ok (.if_icmp .ne 10, 3) := by decide +kernel
theorem d_M_step_45 : decode c_M_step 45 = .ok (.aload_n 0, 1) := by decide +kernel
theorem d_M_step_46 : decode c_M_step 46 = .ok (.invokevirtual 222, 3) := by decide +kernel
theorem d_M_step_49 : decode c_M_step 49 = .ok (.goto 7, 3) := by decide +kernel
theorem d_M_step_52 : decode c_M_step 52 = .ok (.aload_n 0, 1) := by decide +kernel
theorem d_M_step_53 : decode c_M_step 53 = .ok (.invokevirtual 225, 3) := by decide +kernel
theorem d_M_step_56 : decode c_M_step 56 = .ok (.aload_n 0, 1) := by decide +kernel
theorem d_M_step_57 : decode c_M_step 57 = .ok (.lconst 0, 1) := by decide +kernel
theorem d_M_step_58 : decode c_M_step 58 = .ok (.putfield 197, 3) := by decide +kernel
theorem d_M_step_61 : decode c_M_step 61 = .ok (.iconst 0, 1) := by decide +kernel
theorem d_M_step_62 : decode c_M_step 62 = .ok (.istore_n 3, 1) := by decide +kernel
theorem d_M_step_63 : decode c_M_step 63 = .ok (.iload_n 3, 1) := by decide +kernel
theorem d_M_step_64 : decode c_M_step 64 = .ok (.aload_n 0, 1) := by decide +kernel
theorem d_M_step_65 : decode c_M_step 65 = .ok (.getfield 56, 3) := by decide +kernel
theorem d_M_step_68 : decode c_M_step 68 = .ok (.if_icmp .ge 75, 3) := by decide +kernel
theorem d_M_step_71 : decode c_M_step 71 = .ok (.aload_n 0, 1) := by decide +kernel
theorem d_M_step_72 : decode c_M_step 72 = .ok (.dup, 1) := by decide +kernel
theorem d_M_step_73 : decode c_M_step 73 = .ok (.getfield 197, 3) := by decide +kernel
theorem d_M_step_76 : decode c_M_step 76 = .ok (.aload_n 0, 1) := by decide +kernel
theorem d_M_step_77 : decode c_M_step 77 = .ok (.getfield 47, 3) := by decide +kernel
theorem d_M_step_80 : decode c_M_step 80 = .ok (.iload_n 3, 1) := by decide +kernel
theorem d_M_step_81 : decode c_M_step 81 = .ok (.laload, 1) := by decide +kernel
theorem d_M_step_82 : decode c_M_step 82 = .ok (.aload_n 0, 1) := by decide +kernel
theorem d_M_step_83 : decode c_M_step 83 = .ok (.getfield 40, 3) := by decide +kernel
theorem d_M_step_86 : decode c_M_step 86 = .ok (.iload_n 3, 1) := by decide +kernel
theorem d_M_step_87 : decode c_M_step 87 = .ok (.laload, 1) := by decide +kernel
theorem d_M_step_88 : decode c_M_step 88 = .ok (.lcmp, 1) := by decide +kernel
theorem d_M_step_89 : decode c_M_step 89 = .ok (.ifCond .le 19, 3) := by decide +kernel
theorem d_M_step_92 : decode c_M_step 92 = .ok (.aload_n 0, 1) := by decide +kernel
theorem d_M_step_93 : decode c_M_step 93 = .ok (.getfield 47, 3) := by decide +kernel
theorem d_M_step_96 : decode c_M_step 96 = .ok (.iload_n 3, 1) := by decide +kernel
theorem d_M_step_97 : decode c_M_step 97 = .ok (.laload, 1) := by decide +kernel
theorem d_M_step_98 : decode c_M_step 98 = .ok (.aload_n 0, 1) := by decide +kernel
theorem d_M_step_99 : decode c_M_step 99 = .ok (.getfield 40, 3) := by decide +kernel
theorem d_M_step_102 : decode c_M_step 102 = .ok (.iload_n 3, 1) := by decide +kernel
theorem d_M_step_103 : decode c_M_step 103 = .ok (.laload, 1) := by decide +kernel
theorem d_M_step_104 : decode c_M_step 104 = .ok (.lsub, 1) := by decide +kernel
theorem d_M_step_105 : decode c_M_step 105 = .ok (.goto 16, 3) := by decide +kernel
theorem d_M_step_108 : decode c_M_step 108 = .ok (.aload_n 0, 1) := by decide +kernel
