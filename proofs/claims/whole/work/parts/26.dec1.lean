theorem d_O_stepByRank_169 : decode c_O_stepByRank 169 = .ok (.lload 6, 2) := by decide +kernel
theorem d_O_stepByRank_171 : decode c_O_stepByRank 171 = .ok (.lload_n 3, 1) := by decide +kernel
theorem d_O_stepByRank_172 : decode c_O_stepByRank 172 = .ok (.aload_n 0, 1) := by decide +kernel
theorem d_O_stepByRank_173 : decode c_O_stepByRank 173 = .ok (.getfield 25, 3) := by decide +kernel
theorem d_O_stepByRank_176 : decode c_O_stepByRank 176 = .ok (.iload 5, 2) := by decide +kernel
theorem d_O_stepByRank_178 : decode c_O_stepByRank 178 = .ok (.iaload, 1) := by decide +kernel
theorem d_O_stepByRank_179 : decode c_O_stepByRank 179 = .ok (.i2l, 1) := by decide +kernel
theorem d_O_stepByRank_180 : decode c_O_stepByRank 180 = .ok (.lmul, 1) := by decide +kernel
theorem d_O_stepByRank_181 : decode c_O_stepByRank 181 = .ok (.lload_n 1, 1) := by decide +kernel
theorem d_O_stepByRank_182 : decode c_O_stepByRank 182 = .ok (.invokestatic 43, 3) := by decide +kernel
theorem d_O_stepByRank_185 : decode c_O_stepByRank 185 = .ok (.ladd, 1) := by decide +kernel
theorem d_O_stepByRank_186 : decode c_O_stepByRank 186 = .ok (.lmul, 1) := by decide +kernel
theorem d_O_stepByRank_187 : decode c_O_stepByRank 187 = .ok (.ldc2_w 84, 3) := by decide +kernel
theorem d_O_stepByRank_190 : decode c_O_stepByRank 190 = .ok (.ldiv, 1) := by decide +kernel
theorem d_O_stepByRank_191 : decode c_O_stepByRank 191 = .ok (.ladd, 1) := by decide +kernel
theorem d_O_stepByRank_192 : decode c_O_stepByRank 192 = .ok (.lastore, 1) := by decide +kernel
theorem d_O_stepByRank_193 : decode c_O_stepByRank 193 = .ok (.iinc 5 1, 3) := by decide +kernel
theorem d_O_stepByRank_196 : decode c_O_stepByRank 196 = .ok (.goto (-141), 3) := by decide +kernel
theorem d_O_stepByRank_199 : decode c_O_stepByRank 199 = .ok (.return_, 1) := by decide +kernel
theorem d_O_stepByGreatest_0 : decode c_O_stepByGreatest 0 = .ok (.iconst 0, 1) := by decide +kernel
theorem d_O_stepByGreatest_1 : decode c_O_stepByGreatest 1 = .ok (.istore_n 1, 1) := by decide +kernel
theorem d_O_stepByGreatest_2 : decode c_O_stepByGreatest 2 = .ok (.iload_n 1, 1) := by decide +kernel
theorem d_O_stepByGreatest_3 : decode c_O_stepByGreatest 3 = .ok (.aload_n 0, 1) := by decide +kernel
theorem d_O_stepByGreatest_4 : decode c_O_stepByGreatest 4 = .ok (.getfield 9, 3) := by decide +kernel
theorem d_O_stepByGreatest_7 : decode c_O_stepByGreatest 7 = .ok (.arraylength, 1) := by decide +kernel
theorem d_O_stepByGreatest_8 : decode c_O_stepByGreatest 8 = .ok (.if_icmp .ge 65, 3) := by decide +kernel
theorem d_O_stepByGreatest_11 : decode c_O_stepByGreatest 11 = .ok (.aload_n 0, 1) := by decide +kernel
theorem d_O_stepByGreatest_12 : decode c_O_stepByGreatest 12 = .ok (.getfield 15, 3) := by decide +kernel
theorem d_O_stepByGreatest_15 : decode c_O_stepByGreatest 15 = .ok (.iload_n 1, 1) := by decide +kernel
theorem d_O_stepByGreatest_16 : decode c_O_stepByGreatest 16 = .ok (.lconst 0, 1) := by decide +kernel
theorem d_O_stepByGreatest_17 : decode c_O_stepByGreatest 17 = .ok (.lastore, 1) := by decide +kernel
theorem d_O_stepByGreatest_18 : decode c_O_stepByGreatest 18 = .ok (.iconst 0, 1) := by decide +kernel
theorem d_O_stepByGreatest_19 : decode c_O_stepByGreatest 19 = .ok (.istore_n 2, 1) := by decide +kernel
theorem d_O_stepByGreatest_20 : decode c_O_stepByGreatest 20 = .ok (.iload_n 2, 1) := by decide +kernel
theorem d_O_stepByGreatest_21 : decode c_O_stepByGreatest 21 = .ok (.aload_n 0, 1) := by decide +kernel
theorem d_O_stepByGreatest_22 : decode c_O_stepByGreatest 22 = .ok (.getfield 9, 3) := by decide +kernel
theorem d_O_stepByGreatest_25 : decode c_O_stepByGreatest 25 = .ok (.arraylength, 1) := by decide +kernel
theorem d_O_stepByGreatest_26 : decode c_O_stepByGreatest 26 = .ok (.if_icmp .ge 41, 3) := by decide +kernel
theorem d_O_stepByGreatest_29 : decode c_O_stepByGreatest 29 = .ok (.aload_n 0, 1) := by decide +kernel
theorem d_O_stepByGreatest_30 : decode c_O_stepByGreatest 30 = .ok (.getfield 15, 3) := by decide +kernel
theorem d_O_stepByGreatest_33 : decode c_O_stepByGreatest 33 = .ok (.iload_n 1, 1) := by decide +kernel
theorem d_O_stepByGreatest_34 : decode c_O_stepByGreatest 34 = .ok (.dup2, 1) := by decide +kernel
theorem d_O_stepByGreatest_35 : decode c_O_stepByGreatest 35 = .ok (.laload, 1) := by decide +kernel
theorem d_O_stepByGreatest_36 : decode c_O_stepByGreatest 36 = .ok (.aload_n 0, 1) := by decide +kernel
theorem d_O_stepByGreatest_37 : decode c_O_stepByGreatest 37 = .ok (.getfield 9, 3) := by decide +kernel
theorem d_O_stepByGreatest_40 : decode c_O_stepByGreatest 40 = .ok (.iload_n 2, 1) := by decide +kernel
theorem d_O_stepByGreatest_41 : decode c_O_stepByGreatest 41 = .ok (.iaload, 1) := by decide +kernel
theorem d_O_stepByGreatest_42 : decode c_O_stepByGreatest 42 = .ok (.iload_n 1, 1) := by decide +kernel
theorem d_O_stepByGreatest_43 : decode c_O_stepByGreatest 43 = .ok (.invokestatic 75, 3) := by decide +kernel
theorem d_O_stepByGreatest_46 : decode c_O_stepByGreatest 46 = .ok (.ifCond .eq 12, 3) := by decide +kernel
theorem d_O_stepByGreatest_49 : decode c_O_stepByGreatest 49 = .ok (.aload_n 0, 1) := by decide +kernel
theorem d_O_stepByGreatest_50 : decode c_O_stepByGreatest 50 = .ok (.getfield 19, 3) := by decide +kernel
theorem d_O_stepByGreatest_53 : decode c_O_stepByGreatest 53 = .ok (.iload_n 2, 1) := by decide +kernel
theorem d_O_stepByGreatest_54 : decode c_O_stepByGreatest 54 = .ok (.laload, 1) := by decide +kernel
theorem d_O_stepByGreatest_55 : decode c_O_stepByGreatest 55 = .ok (.goto 4, 3) := by decide +kernel
theorem d_O_stepByGreatest_58 : decode c_O_stepByGreatest 58 = .ok (.lconst 0, 1) := by decide +kernel
theorem d_O_stepByGreatest_59 : decode c_O_stepByGreatest 59 = .ok (.ladd, 1) := by decide +kernel
theorem d_O_stepByGreatest_60 : decode c_O_stepByGreatest 60 = .ok (.lastore, 1) := by decide +kernel
theorem d_O_stepByGreatest_61 : decode c_O_stepByGreatest 61 = .ok (.iinc 2 1, 3) := by decide +kernel
theorem d_O_stepByGreatest_64 : decode c_O_stepByGreatest 64 = .ok (.goto (-44), 3) := by decide +kernel
theorem d_O_stepByGreatest_67 : decode c_O_stepByGreatest 67 = .ok (.iinc 1 1, 3) := by decide +kernel
theorem d_O_stepByGreatest_70 : decode c_O_stepByGreatest 70 = .ok (.goto (-68), 3) := by decide +kernel
theorem d_O_stepByGreatest_73 : decode c_O_stepByGreatest 73 = .ok (.aload_n 0, 1) := by decide +kernel
theorem d_O_stepByGreatest_74 : decode c_O_stepByGreatest 74 = .ok (.getfield 15, 3) := by decide +kernel
theorem d_O_stepByGreatest_77 : decode c_O_stepByGreatest 77 = .ok (.invokestatic 86, 3) := by decide +kernel
theorem d_O_stepByGreatest_80 : decode c_O_stepByGreatest 80 = .ok (.iconst 0, 1) := by decide +kernel
theorem d_O_stepByGreatest_81 : decode c_O_stepByGreatest 81 = .ok (.istore_n 1, 1) := by decide +kernel
theorem d_O_stepByGreatest_82 : decode c_O_stepByGreatest 82 = .ok (.iload_n 1, 1) := by decide +kernel
theorem d_O_stepByGreatest_83 : decode c_O_stepByGreatest 83 = .ok (.aload_n 0, 1) := by decide +kernel
theorem d_O_stepByGreatest_84 : decode c_O_stepByGreatest 84 = .ok (.getfield 9, 3) := by decide +kernel
theorem d_O_stepByGreatest_87 : decode c_O_stepByGreatest 87 = .ok (.arraylength, 1) := by decide +kernel
theorem d_O_stepByGreatest_88 : decode c_O_stepByGreatest 88 = .ok (.if_icmp .ge 65, 3) := by decide +kernel
theorem d_O_stepByGreatest_91 : decode c_O_stepByGreatest 91 = .ok (.aload_n 0, 1) := by decide +kernel
theorem d_O_stepByGreatest_92 : decode c_O_stepByGreatest 92 = .ok (.getfield 19, 3) := by decide +kernel
theorem d_O_stepByGreatest_95 : decode c_O_stepByGreatest 95 = .ok (.iload_n 1, 1) := by decide +kernel
theorem d_O_stepByGreatest_96 : decode c_O_stepByGreatest 96 = .ok (.lconst 0, 1) := by decide +kernel
theorem d_O_stepByGreatest_97 : decode c_O_stepByGreatest 97 = .ok (.lastore, 1) := by decide +kernel
theorem d_O_stepByGreatest_98 : decode c_O_stepByGreatest 98 = .ok (.iconst 0, 1) := by decide +kernel
theorem d_O_stepByGreatest_99 : decode c_O_stepByGreatest 99 = .ok (.istore_n 2, 1) := by decide +kernel
theorem d_O_stepByGreatest_100 : decode c_O_stepByGreatest 100 = .ok (.iload_n 2, 1) := by decide +kernel
theorem d_O_stepByGreatest_101 : decode c_O_stepByGreatest 101 = .ok (.aload_n 0, 1) := by decide +kernel
theorem d_O_stepByGreatest_102 : decode c_O_stepByGreatest 102 = .ok (.getfield 9, 3) := by decide +kernel
theorem d_O_stepByGreatest_105 : decode c_O_stepByGreatest 105 = .ok (.arraylength, 1) := by decide +kernel
theorem d_O_stepByGreatest_106 : decode c_O_stepByGreatest 106 = .ok (.if_icmp .ge 41, 3) := by decide +kernel
theorem d_O_stepByGreatest_109 : decode c_O_stepByGreatest 109 = .ok (.aload_n 0, 1) := by decide +kernel
theorem d_O_stepByGreatest_110 : decode c_O_stepByGreatest 110 = .ok (.getfield 19, 3) := by decide +kernel
theorem d_O_stepByGreatest_113 : decode c_O_stepByGreatest 113 = .ok (.iload_n 1, 1) := by decide +kernel
theorem d_O_stepByGreatest_114 : decode c_O_stepByGreatest 114 = .ok (.dup2, 1) := by decide +kernel
theorem d_O_stepByGreatest_115 : decode c_O_stepByGreatest 115 = .ok (.laload, 1) := by decide +kernel
theorem d_O_stepByGreatest_116 : decode c_O_stepByGreatest 116 = .ok (.aload_n 0, 1) := by decide +kernel
theorem d_O_stepByGreatest_117 : decode c_O_stepByGreatest 117 = .ok (.getfield 9, 3) := by decide +kernel
theorem d_O_stepByGreatest_120 : decode c_O_stepByGreatest 120 = .ok (.iload_n 1, 1) := by decide +kernel
theorem d_O_stepByGreatest_121 : decode c_O_stepByGreatest 121 = .ok (.iaload, 1) := by decide +kernel
theorem d_O_stepByGreatest_122 : decode c_O_stepByGreatest 122 = .ok (.iload_n 2, 1) := by decide +kernel
theorem d_O_stepByGreatest_123 : decode c_O_stepByGreatest 123 = .ok (.invokestatic 75, 3) := by decide +kernel
theorem d_O_stepByGreatest_126 : decode c_O_stepByGreatest 126 = .ok (.ifCond .eq 12, 3) := by decide +kernel
theorem d_O_stepByGreatest_129 : decode c_O_stepByGreatest 129 = .ok (.aload_n 0, 1) := by decide +kernel
theorem d_O_stepByGreatest_130 : decode c_O_stepByGreatest 130 = .ok (.getfield 15, 3) := by decide +kernel
theorem d_O_stepByGreatest_133 : decode c_O_stepByGreatest 133 = .ok (.iload_n 2, 1) := by decide +kernel
theorem d_O_stepByGreatest_134 : decode c_O_stepByGreatest 134 = .ok (.laload, 1) := by decide +kernel
theorem d_O_stepByGreatest_135 : decode c_O_stepByGreatest 135 = .ok (.goto 4, 3) := by decide +kernel
theorem d_O_stepByGreatest_138 : decode c_O_stepByGreatest 138 = .ok (.lconst 0, 1) := by decide +kernel
theorem d_O_stepByGreatest_139 : decode c_O_stepByGreatest 139 = .ok (.ladd, 1) := by decide +kernel
theorem d_O_stepByGreatest_140 : decode c_O_stepByGreatest 140 = .ok (.lastore, 1) := by decide +kernel
theorem d_O_stepByGreatest_141 : decode c_O_stepByGreatest 141 = .ok (.iinc 2 1, 3) := by decide +kernel
theorem d_O_stepByGreatest_144 : decode c_O_stepByGreatest 144 = .ok (.goto (-44), 3) := by decide +kernel
theorem d_O_stepByGreatest_147 : decode c_O_stepByGreatest 147 = .ok (.iinc 1 1, 3) := by decide +kernel
theorem d_O_stepByGreatest_150 : decode c_O_stepByGreatest 150 = .ok (.goto (-68), 3) := by decide +kernel
theorem d_O_stepByGreatest_153 : decode c_O_stepByGreatest 153 = .ok (.aload_n 0, 1) := by decide +kernel
theorem d_O_stepByGreatest_154 : decode c_O_stepByGreatest 154 = .ok (.getfield 19, 3) := by decide +kernel
theorem d_O_stepByGreatest_157 : decode c_O_stepByGreatest 157 = .ok (.invokestatic 86, 3) := by decide +kernel
theorem d_O_stepByGreatest_160 : decode c_O_stepByGreatest 160 = .ok (.return_, 1) := by decide +kernel
theorem d_O_bringToGreatest_0 : decode c_O_bringToGreatest 0 = .ok (.lconst 0, 1) := by decide +kernel
theorem d_O_bringToGreatest_1 : decode c_O_bringToGreatest 1 = .ok (.lstore_n 1, 1) := by decide +kernel
theorem d_O_bringToGreatest_2 : decode c_O_bringToGreatest 2 = .ok (.iconst 0, 1) := by decide +kernel
theorem d_O_bringToGreatest_3 : decode c_O_bringToGreatest 3 = .ok (.istore_n 3, 1) := by decide +kernel
theorem d_O_bringToGreatest_4 : decode c_O_bringToGreatest 4 = .ok (.iload_n 3, 1) := by decide +kernel
theorem d_O_bringToGreatest_5 : decode c_O_bringToGreatest 5 = .ok (.aload_n 0, 1) := by decide +kernel
theorem d_O_bringToGreatest_6 : decode c_O_bringToGreatest 6 = .ok (.arraylength, 1) := by decide +kernel
theorem d_O_bringToGreatest_7 : decode c_O_bringToGreatest 7 = .ok (.if_icmp .ge 17, 3) := by decide +kernel
theorem d_O_bringToGreatest_10 : decode c_O_bringToGreatest 10 = .ok (.lload_n 1, 1) := by decide +kernel
theorem d_O_bringToGreatest_11 : decode c_O_bringToGreatest 11 = .ok (.aload_n 0, 1) := by decide +kernel
theorem d_O_bringToGreatest_12 : decode c_O_bringToGreatest 12 = .ok (.iload_n 3, 1) := by decide +kernel
theorem d_O_bringToGreatest_13 : decode c_O_bringToGreatest 13 = .ok (.laload, 1) := by decide +kernel
theorem d_O_bringToGreatest_14 : decode c_O_bringToGreatest 14 = .ok (.invokestatic 90, 3) := by decide +kernel
theorem d_O_bringToGreatest_17 : decode c_O_bringToGreatest 17 = .ok (.lstore_n 1, 1) := by decide +kernel
theorem d_O_bringToGreatest_18 : decode c_O_bringToGreatest 18 = .ok (.iinc 3 1, 3) := by decide +kernel
theorem d_O_bringToGreatest_21 : decode c_O_bringToGreatest 21 = .ok (.goto (-17), 3) := by decide +kernel
theorem d_O_bringToGreatest_24 : decode c_O_bringToGreatest 24 = .ok (.iconst 0, 1) := by decide +kernel
theorem d_O_bringToGreatest_25 : decode c_O_bringToGreatest 25 = .ok (.istore_n 3, 1) := by decide +kernel
theorem d_O_bringToGreatest_26 : decode c_O_bringToGreatest 26 = .ok (.iload_n 3, 1) := by decide +kernel
theorem d_O_bringToGreatest_27 : decode c_O_bringToGreatest 27 = .ok (.aload_n 0, 1) := by decide +kernel
theorem d_O_bringToGreatest_28 : decode c_O_bringToGreatest 28 = .ok (.arraylength, 1) := by decide +kernel
theorem d_O_bringToGreatest_29 : decode c_O_bringToGreatest 29 = .ok (.if_icmp .ge 23, 3) := by decide +kernel
theorem d_O_bringToGreatest_32 : decode c_O_bringToGreatest 32 = .ok (.aload_n 0, 1) := by decide +kernel
theorem d_O_bringToGreatest_33 : decode c_O_bringToGreatest 33 = .ok (.iload_n 3, 1) := by decide +kernel
theorem d_O_bringToGreatest_34 : decode c_O_bringToGreatest 34 = .ok (.aload_n 0, 1) := by decide +kernel
theorem d_O_bringToGreatest_35 : decode c_O_bringToGreatest 35 = .ok (.iload_n 3, 1) := by decide +kernel
theorem d_O_bringToGreatest_36 : decode c_O_bringToGreatest 36 = .ok (.laload, 1) := by decide +kernel
theorem d_O_bringToGreatest_37 : decode c_O_bringToGreatest 37 = .ok (.ldc2_w 39, 3) := by decide +kernel
theorem d_O_bringToGreatest_40 : decode c_O_bringToGreatest 40 = .ok (.lmul, 1) := by decide +kernel
theorem d_O_bringToGreatest_41 : decode c_O_bringToGreatest 41 = .ok (.lload_n 1, 1) := by decide +kernel
theorem d_O_bringToGreatest_42 : decode c_O_bringToGreatest 42 = .ok (.invokestatic 43, 3) := by decide +kernel
theorem d_O_bringToGreatest_45 : decode c_O_bringToGreatest 45 = .ok (.lastore, 1) := by decide +kernel
theorem d_O_bringToGreatest_46 : decode c_O_bringToGreatest 46 = .ok (.iinc 3 1, 3) := by decide +kernel
theorem d_O_bringToGreatest_49 : decode c_O_bringToGreatest 49 = .ok (.goto (-23), 3) := by decide +kernel
theorem d_O_bringToGreatest_52 : decode c_O_bringToGreatest 52 = .ok (.return_, 1) := by decide +kernel
theorem d_O_stepByShares_0 : decode c_O_stepByShares 0 = .ok (.iconst 0, 1) := by decide +kernel
theorem d_O_stepByShares_1 : decode c_O_stepByShares 1 = .ok (.istore_n 1, 1) := by decide +kernel
theorem d_O_stepByShares_2 : decode c_O_stepByShares 2 = .ok (.iload_n 1, 1) := by decide +kernel
theorem d_O_stepByShares_3 : decode c_O_stepByShares 3 = .ok (.aload_n 0, 1) := by decide +kernel
theorem d_O_stepByShares_4 : decode c_O_stepByShares 4 = .ok (.getfield 9, 3) := by decide +kernel
theorem d_O_stepByShares_7 : decode c_O_stepByShares 7 = .ok (.arraylength, 1) := by decide +kernel
theorem d_O_stepByShares_8 : decode c_O_stepByShares 8 = .ok (.if_icmp .ge 74, 3) := by decide +kernel
theorem d_O_stepByShares_11 : decode c_O_stepByShares 11 = .ok (.aload_n 0, 1) := by decide +kernel
theorem d_O_stepByShares_12 : decode c_O_stepByShares 12 = .ok (.getfield 19, 3) := by decide +kernel
theorem d_O_stepByShares_15 : decode c_O_stepByShares 15 = .ok (.iload_n 1, 1) := by decide +kernel
theorem d_O_stepByShares_16 : decode c_O_stepByShares 16 = .ok (.lconst 0, 1) := by decide +kernel
theorem d_O_stepByShares_17 : decode c_O_stepByShares 17 = .ok (.lastore, 1) := by decide +kernel
theorem d_O_stepByShares_18 : decode c_O_stepByShares 18 = .ok (.iconst 0, 1) := by decide +kernel
theorem d_O_stepByShares_19 : decode c_O_stepByShares 19 = .ok (.istore_n 2, 1) := by decide +kernel
theorem d_O_stepByShares_20 : decode c_O_stepByShares 20 = .ok (.iload_n 2, 1) := by decide +kernel
theorem d_O_stepByShares_21 : decode c_O_stepByShares 21 = .ok (.aload_n 0, 1) := by decide +kernel
theorem d_O_stepByShares_22 : decode c_O_stepByShares 22 = .ok (.getfield 9, 3) := by decide +kernel
theorem d_O_stepByShares_25 : decode c_O_stepByShares 25 = .ok (.arraylength, 1) := by decide +kernel
theorem d_O_stepByShares_26 : decode c_O_stepByShares 26 = .ok (.if_icmp .ge 50, 3) := by decide +kernel
theorem d_O_stepByShares_29 : decode c_O_stepByShares 29 = .ok (.aload_n 0, 1) := by decide +kernel
theorem d_O_stepByShares_30 : decode c_O_stepByShares 30 = .ok (.getfield 19, 3) := by decide +kernel
theorem d_O_stepByShares_33 : decode c_O_stepByShares 33 = .ok (.iload_n 1, 1) := by decide +kernel
theorem d_O_stepByShares_34 : decode c_O_stepByShares 34 = .ok (.dup2, 1) := by decide +kernel
theorem d_O_stepByShares_35 : decode c_O_stepByShares 35 = .ok (.laload, 1) := by decide +kernel
theorem d_O_stepByShares_36 : decode c_O_stepByShares 36 = .ok (.aload_n 0, 1) := by decide +kernel
theorem d_O_stepByShares_37 : decode c_O_stepByShares 37 = .ok (.getfield 9, 3) := by decide +kernel
theorem d_O_stepByShares_40 : decode c_O_stepByShares 40 = .ok (.iload_n 1, 1) := by decide +kernel
theorem d_O_stepByShares_41 : decode c_O_stepByShares 41 = .ok (.iaload, 1) := by decide +kernel
theorem d_O_stepByShares_42 : decode c_O_stepByShares 42 = .ok (.iload_n 2, 1) := by decide +kernel
theorem d_O_stepByShares_43 : decode c_O_stepByShares 43 = .ok (.invokestatic 75, 3) := by decide +kernel
theorem d_O_stepByShares_46 : decode c_O_stepByShares 46 = .ok (.ifCond .eq 21, 3) := by decide +kernel
theorem d_O_stepByShares_49 : decode c_O_stepByShares 49 = .ok (.aload_n 0, 1) := by decide +kernel
theorem d_O_stepByShares_50 : decode c_O_stepByShares 50 = .ok (.getfield 15, 3) := by decide +kernel
theorem d_O_stepByShares_53 : decode c_O_stepByShares 53 = .ok (.iload_n 2, 1) := by decide +kernel
theorem d_O_stepByShares_54 : decode c_O_stepByShares 54 = .ok (.laload, 1) := by decide +kernel
theorem d_O_stepByShares_55 : decode c_O_stepByShares 55 = .ok (.aload_n 0, 1) := by decide +kernel
theorem d_O_stepByShares_56 : decode c_O_stepByShares 56 = .ok (.iload_n 2, 1) := by decide +kernel
theorem d_O_stepByShares_57 : decode c_O_stepByShares 57 = .ok (.invokevirtual 93, 3) := by decide +kernel
theorem d_O_stepByShares_60 : decode c_O_stepByShares 60 = .ok (.i2l, 1) := by decide +kernel
theorem d_O_stepByShares_61 : decode c_O_stepByShares 61 = .ok (.invokestatic 43, 3) := by decide +kernel
theorem d_O_stepByShares_64 : decode c_O_stepByShares 64 = .ok (.goto 4, 3) := by decide +kernel
theorem d_O_stepByShares_67 : decode c_O_stepByShares 67 = .ok (.lconst 0, 1) := by decide +kernel
theorem d_O_stepByShares_68 : decode c_O_stepByShares 68 = .ok (.ladd, 1) := by decide +kernel
theorem d_O_stepByShares_69 : decode c_O_stepByShares 69 = .ok (.lastore, 1) := by decide +kernel
theorem d_O_stepByShares_70 : decode c_O_stepByShares 70 = .ok (.iinc 2 1, 3) := by decide +kernel
theorem d_O_stepByShares_73 : decode c_O_stepByShares 73 = .ok (.goto (-53), 3) := by decide +kernel
theorem d_O_stepByShares_76 : decode c_O_stepByShares 76 = .ok (.iinc 1 1, 3) := by decide +kernel
theorem d_O_stepByShares_79 : decode c_O_stepByShares 79 = .ok (.goto (-77), 3) := by decide +kernel
theorem d_O_stepByShares_82 : decode c_O_stepByShares 82 = .ok (.iconst 0, 1) := by decide +kernel
theorem d_O_stepByShares_83 : decode c_O_stepByShares 83 = .ok (.istore_n 1, 1) := by decide +kernel
theorem d_O_stepByShares_84 : decode c_O_stepByShares 84 = .ok (.iload_n 1, 1) := by decide +kernel
theorem d_O_stepByShares_85 : decode c_O_stepByShares 85 = .ok (.aload_n 0, 1) := by decide +kernel
theorem d_O_stepByShares_86 : decode c_O_stepByShares 86 = .ok (.getfield 9, 3) := by decide +kernel
theorem d_O_stepByShares_89 : decode c_O_stepByShares 89 = .ok (.arraylength, 1) := by decide +kernel
theorem d_O_stepByShares_90 : decode c_O_stepByShares 90 = .ok (.if_icmp .ge 74, 3) := by decide +kernel
theorem d_O_stepByShares_93 : decode c_O_stepByShares 93 = .ok (.aload_n 0, 1) := by decide +kernel
theorem d_O_stepByShares_94 : decode c_O_stepByShares 94 = .ok (.getfield 15, 3) := by decide +kernel
theorem d_O_stepByShares_97 : decode c_O_stepByShares 97 = .ok (.iload_n 1, 1) := by decide +kernel
theorem d_O_stepByShares_98 : decode c_O_stepByShares 98 = .ok (.lconst 0, 1) := by decide +kernel
theorem d_O_stepByShares_99 : decode c_O_stepByShares 99 = .ok (.lastore, 1) := by decide +kernel
theorem d_O_stepByShares_100 : decode c_O_stepByShares 100 = .ok (.iconst 0, 1) := by decide +kernel
theorem d_O_stepByShares_101 : decode c_O_stepByShares 101 = .ok (.istore_n 2, 1) := by decide +kernel
theorem d_O_stepByShares_102 : decode c_O_stepByShares 102 = .ok (.iload_n 2, 1) := by decide +kernel
theorem d_O_stepByShares_103 : decode c_O_stepByShares 103 = .ok (.aload_n 0, 1) := by decide +kernel
theorem d_O_stepByShares_104 : decode c_O_stepByShares 104 = .ok (.getfield 9, 3) := by decide +kernel
theorem d_O_stepByShares_107 : decode c_O_stepByShares 107 = .ok (.arraylength, 1) := by decide +kernel
theorem d_O_stepByShares_108 : decode c_O_stepByShares 108 = .ok (.if_icmp .ge 50, 3) := by decide +kernel
theorem d_O_stepByShares_111 : decode c_O_stepByShares 111 = .ok (.aload_n 0, 1) := by decide +kernel
theorem d_O_stepByShares_112 : decode c_O_stepByShares 112 = .ok (.getfield 15, 3) := by decide +kernel
theorem d_O_stepByShares_115 : decode c_O_stepByShares 115 = .ok (.iload_n 1, 1) := by decide +kernel
theorem d_O_stepByShares_116 : decode c_O_stepByShares 116 = .ok (.dup2, 1) := by decide +kernel
theorem d_O_stepByShares_117 : decode c_O_stepByShares 117 = .ok (.laload, 1) := by decide +kernel
theorem d_O_stepByShares_118 : decode c_O_stepByShares 118 = .ok (.aload_n 0, 1) := by decide +kernel
theorem d_O_stepByShares_119 : decode c_O_stepByShares 119 = .ok (.getfield 9, 3) := by decide +kernel
theorem d_O_stepByShares_122 : decode c_O_stepByShares 122 = .ok (.iload_n 2, 1) := by decide +kernel
theorem d_O_stepByShares_123 : decode c_O_stepByShares 123 = .ok (.iaload, 1) := by decide +kernel
theorem d_O_stepByShares_124 : decode c_O_stepByShares 124 = .ok (.iload_n 1, 1) := by decide +kernel
theorem d_O_stepByShares_125 : decode c_O_stepByShares 125 = .ok (.invokestatic 75, 3) := by decide +kernel
theorem d_O_stepByShares_128 : decode c_O_stepByShares 128 = .ok (.ifCond .eq 21, 3) := by decide +kernel
theorem d_O_stepByShares_131 : decode c_O_stepByShares 131 = .ok (.aload_n 0, 1) := by decide +kernel
theorem d_O_stepByShares_132 : decode c_O_stepByShares 132 = .ok (.getfield 19, 3) := by decide +kernel
theorem d_O_stepByShares_135 : decode c_O_stepByShares 135 = .ok (.iload_n 2, 1) := by decide +kernel
theorem d_O_stepByShares_136 : decode c_O_stepByShares 136 = .ok (.laload, 1) := by decide +kernel
theorem d_O_stepByShares_137 : decode c_O_stepByShares 137 = .ok (.aload_n 0, 1) := by decide +kernel
theorem d_O_stepByShares_138 : decode c_O_stepByShares 138 = .ok (.iload_n 2, 1) := by decide +kernel
theorem d_O_stepByShares_139 : decode c_O_stepByShares 139 = .ok (.invokevirtual 79, 3) := by decide +kernel
theorem d_O_stepByShares_142 : decode c_O_stepByShares 142 = .ok (.i2l, 1) := by decide +kernel
theorem d_O_stepByShares_143 : decode c_O_stepByShares 143 = .ok (.invokestatic 43, 3) := by decide +kernel
theorem d_O_stepByShares_146 : decode c_O_stepByShares 146 = .ok (.goto 4, 3) := by decide +kernel
theorem d_O_stepByShares_149 : decode c_O_stepByShares 149 = .ok (.lconst 0, 1) := by decide +kernel
theorem d_O_stepByShares_150 : decode c_O_stepByShares 150 = .ok (.ladd, 1) := by decide +kernel
theorem d_O_stepByShares_151 : decode c_O_stepByShares 151 = .ok (.lastore, 1) := by decide +kernel
theorem d_O_stepByShares_152 : decode c_O_stepByShares 152 = .ok (.iinc 2 1, 3) := by decide +kernel
theorem d_O_stepByShares_155 : decode c_O_stepByShares 155 = .ok (.goto (-53), 3) := by decide +kernel
theorem d_O_stepByShares_158 : decode c_O_stepByShares 158 = .ok (.iinc 1 1, 3) := by decide +kernel
theorem d_O_stepByShares_161 : decode c_O_stepByShares 161 = .ok (.goto (-77), 3) := by decide +kernel
theorem d_O_stepByShares_164 : decode c_O_stepByShares 164 = .ok (.return_, 1) := by decide +kernel
theorem d_O_linksFrom_0 : decode c_O_linksFrom 0 = .ok (.aload_n 0, 1) := by decide +kernel
theorem d_O_linksFrom_1 : decode c_O_linksFrom 1 = .ok (.getfield 9, 3) := by decide +kernel
theorem d_O_linksFrom_4 : decode c_O_linksFrom 4 = .ok (.iload_n 1, 1) := by decide +kernel
theorem d_O_linksFrom_5 : decode c_O_linksFrom 5 = .ok (.iaload, 1) := by decide +kernel
theorem d_O_linksFrom_6 : decode c_O_linksFrom 6 = .ok (.invokestatic 96, 3) := by decide +kernel
theorem d_O_linksFrom_9 : decode c_O_linksFrom 9 = .ok (.ireturn, 1) := by decide +kernel
theorem d_O_linksTo_0 : decode c_O_linksTo 0 = .ok (.iconst 0, 1) := by decide +kernel
theorem d_O_linksTo_1 : decode c_O_linksTo 1 = .ok (.istore_n 2, 1) := by decide +kernel
theorem d_O_linksTo_2 : decode c_O_linksTo 2 = .ok (.iconst 0, 1) := by decide +kernel
theorem d_O_linksTo_3 : decode c_O_linksTo 3 = .ok (.istore_n 3, 1) := by decide +kernel
theorem d_O_linksTo_4 : decode c_O_linksTo 4 = .ok (.iload_n 3, 1) := by decide +kernel
theorem d_O_linksTo_5 : decode c_O_linksTo 5 = .ok (.aload_n 0, 1) := by decide +kernel
theorem d_O_linksTo_6 : decode c_O_linksTo 6 = .ok (.getfield 9, 3) := by decide +kernel
theorem d_O_linksTo_9 : decode c_O_linksTo 9 = .ok (.arraylength, 1) := by decide +kernel
theorem d_O_linksTo_10 : decode c_O_linksTo 10 = .ok (.if_icmp .ge 30, 3) := by decide +kernel
theorem d_O_linksTo_13 : decode c_O_linksTo 13 = .ok (.iload_n 2, 1) := by decide +kernel
theorem d_O_linksTo_14 : decode c_O_linksTo 14 = .ok (.aload_n 0, 1) := by decide +kernel
theorem d_O_linksTo_15 : decode c_O_linksTo 15 = .ok (.getfield 9, 3) := by decide +kernel
theorem d_O_linksTo_18 : decode c_O_linksTo 18 = .ok (.iload_n 3, 1) := by decide +kernel
theorem d_O_linksTo_19 : decode c_O_linksTo 19 = .ok (.iaload, 1) := by decide +kernel
theorem d_O_linksTo_20 : decode c_O_linksTo 20 = .ok (.iload_n 1, 1) := by decide +kernel
theorem d_O_linksTo_21 : decode c_O_linksTo 21 = .ok (.invokestatic 75, 3) := by decide +kernel
theorem d_O_linksTo_24 : decode c_O_linksTo 24 = .ok (.ifCond .eq 7, 3) := by decide +kernel
theorem d_O_linksTo_27 : decode c_O_linksTo 27 = .ok (.iconst 1, 1) := by decide +kernel
theorem d_O_linksTo_28 : decode c_O_linksTo 28 = .ok (.goto 4, 3) := by decide +kernel
theorem d_O_linksTo_31 : decode c_O_linksTo 31 = .ok (.iconst 0, 1) := by decide +kernel
theorem d_O_linksTo_32 : decode c_O_linksTo 32 = .ok (.iadd, 1) := by decide +kernel
theorem d_O_linksTo_33 : decode c_O_linksTo 33 = .ok (.istore_n 2, 1) := by decide +kernel
theorem d_O_linksTo_34 : decode c_O_linksTo 34 = .ok (.iinc 3 1, 3) := by decide +kernel
theorem d_O_linksTo_37 : decode c_O_linksTo 37 = .ok (.goto (-33), 3) := by decide +kernel
theorem d_O_linksTo_40 : decode c_O_linksTo 40 = .ok (.iload_n 2, 1) := by decide +kernel
theorem d_O_linksTo_41 : decode c_O_linksTo 41 = .ok (.ireturn, 1) := by decide +kernel
theorem d_O_quotient_0 : decode c_O_quotient 0 = .ok (.lload_n 2, 1) := by decide +kernel
theorem d_O_quotient_1 : decode c_O_quotient 1 = .ok (.lconst 0, 1) := by decide +kernel
theorem d_O_quotient_2 : decode c_O_quotient 2 = .ok (.lcmp, 1) := by decide +kernel
theorem d_O_quotient_3 : decode c_O_quotient 3 = .ok (.ifCond .ne 7, 3) := by decide +kernel
theorem d_O_quotient_6 : decode c_O_quotient 6 = .ok (.lconst 0, 1) := by decide +kernel
theorem d_O_quotient_7 : decode c_O_quotient 7 = .ok (.goto 6, 3) := by decide +kernel
theorem d_O_quotient_10 : decode c_O_quotient 10 = .ok (.lload_n 0, 1) := by decide +kernel
theorem d_O_quotient_11 : decode c_O_quotient 11 = .ok (.lload_n 2, 1) := by decide +kernel
theorem d_O_quotient_12 : decode c_O_quotient 12 = .ok (.ldiv, 1) := by decide +kernel
theorem d_O_quotient_13 : decode c_O_quotient 13 = .ok (.lreturn, 1) := by decide +kernel
theorem d_S_init_0 : decode c_S_init 0 = .ok (.aload_n 0, 1) := by decide +kernel
theorem d_S_init_1 : decode c_S_init 1 = .ok (.invokespecial 1, 3) := by decide +kernel
theorem d_S_init_4 : decode c_S_init 4 = .ok (.aload_n 0, 1) := by decide +kernel
theorem d_S_init_5 : decode c_S_init 5 = .ok (.aload_n 1, 1) := by decide +kernel
theorem d_S_init_6 : decode c_S_init 6 = .ok (.putfield 7, 3) := by decide +kernel
theorem d_S_init_9 : decode c_S_init 9 = .ok (.aload_n 0, 1) := by decide +kernel
theorem d_S_init_10 : decode c_S_init 10 = .ok (.aload_n 1, 1) := by decide +kernel
theorem d_S_init_11 : decode c_S_init 11 = .ok (.arraylength, 1) := by decide +kernel
theorem d_S_init_12 : decode c_S_init 12 = .ok (.newarray .int, 2) := by decide +kernel
theorem d_S_init_14 : decode c_S_init 14 = .ok (.putfield 13, 3) := by decide +kernel
theorem d_S_init_17 : decode c_S_init 17 = .ok (.aload_n 0, 1) := by decide +kernel
theorem d_S_init_18 : decode c_S_init 18 = .ok (.aload_n 1, 1) := by decide +kernel
theorem d_S_init_19 : decode c_S_init 19 = .ok (.arraylength, 1) := by decide +kernel
theorem d_S_init_20 : decode c_S_init 20 = .ok (.newarray .int, 2) := by decide +kernel
theorem d_S_init_22 : decode c_S_init 22 = .ok (.putfield 16, 3) := by decide +kernel
theorem d_S_init_25 : decode c_S_init 25 = .ok (.return_, 1) := by decide +kernel
theorem d_S_numberAll_0 : decode c_S_numberAll 0 = .ok (.aload_n 0, 1) := by decide +kernel
theorem d_S_numberAll_1 : decode c_S_numberAll 1 = .ok (.invokevirtual 19, 3) := by decide +kernel
theorem d_S_numberAll_4 : decode c_S_numberAll 4 = .ok (.iconst 0, 1) := by decide +kernel
theorem d_S_numberAll_5 : decode c_S_numberAll 5 = .ok (.istore_n 1, 1) := by decide +kernel
theorem d_S_numberAll_6 : decode c_S_numberAll 6 = .ok (.iconst 0, 1) := by decide +kernel
theorem d_S_numberAll_7 : decode c_S_numberAll 7 = .ok (.istore_n 2, 1) := by decide +kernel
theorem d_S_numberAll_8 : decode c_S_numberAll 8 = .ok (.aload_n 0, 1) := by decide +kernel
theorem d_S_numberAll_9 : decode c_S_numberAll 9 = .ok (.iload_n 1, 1) := by decide +kernel
theorem d_S_numberAll_10 : decode c_S_numberAll 10 = .ok (.invokevirtual 22, 3) := by decide +kernel
theorem d_S_numberAll_13 : decode c_S_numberAll 13 = .ok (.istore_n 3, 1) := by decide +kernel
theorem d_S_numberAll_14 : decode c_S_numberAll 14 = .ok (.iload_n 3, 1) := by decide +kernel
theorem d_S_numberAll_15 : decode c_S_numberAll 15 = .ok (.ifCond .lt 73, 3) := by decide +kernel
theorem d_S_numberAll_18 : decode c_S_numberAll 18 = .ok (.iload_n 2, 1) := by decide +kernel
theorem d_S_numberAll_19 : decode c_S_numberAll 19 = .ok (.aload_n 0, 1) := by decide +kernel
theorem d_S_numberAll_20 : decode c_S_numberAll 20 = .ok (.getfield 7, 3) := by decide +kernel
theorem d_S_numberAll_23 : decode c_S_numberAll 23 = .ok (.arraylength, 1) := by decide +kernel
theorem d_S_numberAll_24 : decode c_S_numberAll 24 = .ok (.if_icmp .ge 64, 3) := by decide +kernel
theorem d_S_numberAll_27 : decode c_S_numberAll 27 = .ok (.aload_n 0, 1) := by decide +kernel
theorem d_S_numberAll_28 : decode c_S_numberAll 28 = .ok (.iload_n 3, 1) := by decide +kernel
theorem d_S_numberAll_29 : decode c_S_numberAll 29 = .ok (.invokevirtual 26, 3) := by decide +kernel
theorem d_S_numberAll_32 : decode c_S_numberAll 32 = .ok (.istore 4, 2) := by decide +kernel
theorem d_S_numberAll_34 : decode c_S_numberAll 34 = .ok (.iconst 0, 1) := by decide +kernel
theorem d_S_numberAll_35 : decode c_S_numberAll 35 = .ok (.istore 5, 2) := by decide +kernel
theorem d_S_numberAll_37 : decode c_S_numberAll 37 = .ok (.iload 5, 2) := by decide +kernel
theorem d_S_numberAll_39 : decode c_S_numberAll 39 = .ok (.aload_n 0, 1) := by decide +kernel
theorem d_S_numberAll_40 : decode c_S_numberAll 40 = .ok (.getfield 7, 3) := by decide +kernel
theorem d_S_numberAll_43 : decode c_S_numberAll 43 = .ok (.arraylength, 1) := by decide +kernel
theorem d_S_numberAll_44 : decode c_S_numberAll 44 = .ok (.if_icmp .ge 27, 3) := by decide +kernel
theorem d_S_numberAll_47 : decode c_S_numberAll 47 = .ok (.iload 4, 2) := by decide +kernel
theorem d_S_numberAll_49 : decode c_S_numberAll 49 = .ok (.iload 5, 2) := by decide +kernel
theorem d_S_numberAll_51 : decode c_S_numberAll 51 = .ok (.invokestatic 29, 3) := by decide +kernel
theorem d_S_numberAll_54 : decode c_S_numberAll 54 = .ok (.ifCond .eq 11, 3) := by decide +kernel
theorem d_S_numberAll_57 : decode c_S_numberAll 57 = .ok (.aload_n 0, 1) := by decide +kernel
theorem d_S_numberAll_58 : decode c_S_numberAll 58 = .ok (.getfield 13, 3) := by decide +kernel
theorem d_S_numberAll_61 : decode c_S_numberAll 61 = .ok (.iload 5, 2) := by decide +kernel
theorem d_S_numberAll_63 : decode c_S_numberAll 63 = .ok (.iload_n 2, 1) := by decide +kernel
theorem d_S_numberAll_64 : decode c_S_numberAll 64 = .ok (.iastore, 1) := by decide +kernel
theorem d_S_numberAll_65 : decode c_S_numberAll 65 = .ok (.iinc 5 1, 3) := by decide +kernel
theorem d_S_numberAll_68 : decode c_S_numberAll 68 = .ok (.goto (-31), 3) := by decide +kernel
theorem d_S_numberAll_71 : decode c_S_numberAll 71 = .ok (.iload_n 1, 1) := by decide +kernel
theorem d_S_numberAll_72 : decode c_S_numberAll 72 = .ok (.iload 4, 2) := by decide +kernel
theorem d_S_numberAll_74 : decode c_S_numberAll 74 = .ok (.ior, 1) := by decide +kernel
theorem d_S_numberAll_75 : decode c_S_numberAll 75 = .ok (.istore_n 1, 1) := by decide +kernel
theorem d_S_numberAll_76 : decode c_S_numberAll 76 = .ok (.iinc 2 1, 3) := by decide +kernel
theorem d_S_numberAll_79 : decode c_S_numberAll 79 = .ok (.aload_n 0, 1) := by decide +kernel
theorem d_S_numberAll_80 : decode c_S_numberAll 80 = .ok (.iload_n 1, 1) := by decide +kernel
theorem d_S_numberAll_81 : decode c_S_numberAll 81 = .ok (.invokevirtual 22, 3) := by decide +kernel
theorem d_S_numberAll_84 : decode c_S_numberAll 84 = .ok (.istore_n 3, 1) := by decide +kernel
theorem d_S_numberAll_85 : decode c_S_numberAll 85 = .ok (.goto (-71), 3) := by decide +kernel
theorem d_S_numberAll_88 : decode c_S_numberAll 88 = .ok (.iload_n 2, 1) := by decide +kernel
theorem d_S_numberAll_89 : decode c_S_numberAll 89 = .ok (.ireturn, 1) := by decide +kernel
theorem d_S_findReached_0 : decode c_S_findReached 0 = .ok (.iconst 0, 1) := by decide +kernel
theorem d_S_findReached_1 : decode c_S_findReached 1 = .ok (.istore_n 1, 1) := by decide +kernel
theorem d_S_findReached_2 : decode c_S_findReached 2 = .ok (.iload_n 1, 1) := by decide +kernel
theorem d_S_findReached_3 : decode c_S_findReached 3 = .ok (.aload_n 0, 1) := by decide +kernel
theorem d_S_findReached_4 : decode c_S_findReached 4 = .ok (.getfield 7, 3) := by decide +kernel
theorem d_S_findReached_7 : decode c_S_findReached 7 = .ok (.arraylength, 1) := by decide +kernel
theorem d_S_findReached_8 : decode c_S_findReached 8 = .ok (.if_icmp .ge 25, 3) := by decide +kernel
theorem d_S_findReached_11 : decode c_S_findReached 11 = .ok (.aload_n 0, 1) := by decide +kernel
theorem d_S_findReached_12 : decode c_S_findReached 12 = .ok (.getfield 16, 3) := by decide +kernel
theorem d_S_findReached_15 : decode c_S_findReached 15 = .ok (.iload_n 1, 1) := by decide +kernel
theorem d_S_findReached_16 : decode c_S_findReached 16 = .ok (.aload_n 0, 1) := by decide +kernel
theorem d_S_findReached_17 : decode c_S_findReached 17 = .ok (.getfield 7, 3) := by decide +kernel
theorem d_S_findReached_20 : decode c_S_findReached 20 = .ok (.iload_n 1, 1) := by decide +kernel
theorem d_S_findReached_21 : decode c_S_findReached 21 = .ok (.iaload, 1) := by decide +kernel
theorem d_S_findReached_22 : decode c_S_findReached 22 = .ok (.iconst 1, 1) := by decide +kernel
theorem d_S_findReached_23 : decode c_S_findReached 23 = .ok (.iload_n 1, 1) := by decide +kernel
theorem d_S_findReached_24 : decode c_S_findReached 24 = .ok (.ishl, 1) := by decide +kernel
theorem d_S_findReached_25 : decode c_S_findReached 25 = .ok (.ior, 1) := by decide +kernel
theorem d_S_findReached_26 : decode c_S_findReached 26 = .ok (.iastore, 1) := by decide +kernel
theorem d_S_findReached_27 : decode c_S_findReached 27 = .ok (.iinc 1 1, 3) := by decide +kernel
theorem d_S_findReached_30 : decode c_S_findReached 30 = .ok (.goto (-28), 3) := by decide +kernel
theorem d_S_findReached_33 : decode c_S_findReached 33 = .ok (.iconst 0, 1) := by decide +kernel
theorem d_S_findReached_34 : decode c_S_findReached 34 = .ok (.istore_n 1, 1) := by decide +kernel
theorem d_S_findReached_35 : decode c_S_findReached 35 = .ok (.iload_n 1, 1) := by decide +kernel
theorem d_S_findReached_36 : decode c_S_findReached 36 = .ok (.aload_n 0, 1) := by decide +kernel
theorem d_S_findReached_37 : decode c_S_findReached 37 = .ok (.getfield 7, 3) := by decide +kernel
theorem d_S_findReached_40 : decode c_S_findReached 40 = .ok (.arraylength, 1) := by decide +kernel
theorem d_S_findReached_41 : decode c_S_findReached 41 = .ok (.if_icmp .ge 54, 3) := by decide +kernel
theorem d_S_findReached_44 : decode c_S_findReached 44 = .ok (.iconst 0, 1) := by decide +kernel
theorem d_S_findReached_45 : decode c_S_findReached 45 = .ok (.istore_n 2, 1) := by decide +kernel
theorem d_S_findReached_46 : decode c_S_findReached 46 = .ok (.iload_n 2, 1) := by decide +kernel
theorem d_S_findReached_47 : decode c_S_findReached 47 = .ok (.aload_n 0, 1) := by decide +kernel
theorem d_S_findReached_48 : decode c_S_findReached 48 = .ok (.getfield 7, 3) := by decide +kernel
theorem d_S_findReached_51 : decode c_S_findReached 51 = .ok (.arraylength, 1) := by decide +kernel
theorem d_S_findReached_52 : decode c_S_findReached 52 = .ok (.if_icmp .ge 37, 3) := by decide +kernel
theorem d_S_findReached_55 : decode c_S_findReached 55 = .ok (.aload_n 0, 1) := by decide +kernel
theorem d_S_findReached_56 : decode c_S_findReached 56 = .ok (.getfield 16, 3) := by decide +kernel
theorem d_S_findReached_59 : decode c_S_findReached 59 = .ok (.iload_n 2, 1) := by decide +kernel
theorem d_S_findReached_60 : decode c_S_findReached 60 = .ok (.iaload, 1) := by decide +kernel
theorem d_S_findReached_61 : decode c_S_findReached 61 = .ok (.iload_n 1, 1) := by decide +kernel
theorem d_S_findReached_62 : decode c_S_findReached 62 = .ok (.invokestatic 29, 3) := by decide +kernel
theorem d_S_findReached_65 : decode c_S_findReached 65 = .ok (.ifCond .eq 18, 3) := by decide +kernel
theorem d_S_findReached_68 : decode c_S_findReached 68 = .ok (.aload_n 0, 1) := by decide +kernel
theorem d_S_findReached_69 : decode c_S_findReached 69 = .ok (.getfield 16, 3) := by decide +kernel
theorem d_S_findReached_72 : decode c_S_findReached 72 = .ok (.iload_n 2, 1) := by decide +kernel
theorem d_S_findReached_73 : decode c_S_findReached 73 = .ok (.dup2, 1) := by decide +kernel
theorem d_S_findReached_74 : decode c_S_findReached 74 = .ok (.iaload, 1) := by decide +kernel
theorem d_S_findReached_75 : decode c_S_findReached 75 = .ok (.aload_n 0, 1) := by decide +kernel
theorem d_S_findReached_76 : decode c_S_findReached 76 = .ok (.getfield 16, 3) := by decide +kernel
theorem d_S_findReached_79 : decode c_S_findReached 79 = .ok (.iload_n 1, 1) := by decide +kernel
theorem d_S_findReached_80 : decode c_S_findReached 80 = .ok (.iaload, 1) := by decide +kernel
theorem d_S_findReached_81 : decode c_S_findReached 81 = .ok (.ior, 1) := by decide +kernel
theorem d_S_findReached_82 : decode c_S_findReached 82 = .ok (.iastore, 1) := by decide +kernel
theorem d_S_findReached_83 : decode c_S_findReached 83 = .ok (.iinc 2 1, 3) := by decide +kernel
theorem d_S_findReached_86 : decode c_S_findReached 86 = .ok (.goto (-40), 3) := by decide +kernel
theorem d_S_findReached_89 : decode c_S_findReached 89 = .ok (.iinc 1 1, 3) := by decide +kernel
theorem d_S_findReached_92 : decode c_S_findReached 92 = .ok (.goto (-57), 3) := by decide +kernel
theorem d_S_findReached_95 : decode c_S_findReached 95 = .ok (.return_, 1) := by decide +kernel
theorem d_S_nextReady_0 : decode c_S_nextReady 0 = .ok (.iconst 0, 1) := by decide +kernel
theorem d_S_nextReady_1 : decode c_S_nextReady 1 = .ok (.istore_n 2, 1) := by decide +kernel
theorem d_S_nextReady_2 : decode c_S_nextReady 2 = .ok (.iload_n 2, 1) := by decide +kernel
theorem d_S_nextReady_3 : decode c_S_nextReady 3 = .ok (.aload_n 0, 1) := by decide +kernel
theorem d_S_nextReady_4 : decode c_S_nextReady 4 = .ok (.getfield 7, 3) := by decide +kernel
theorem d_S_nextReady_7 : decode c_S_nextReady 7 = .ok (.arraylength, 1) := by decide +kernel
theorem d_S_nextReady_8 : decode c_S_nextReady 8 = .ok (.if_icmp .ge 40, 3) := by decide +kernel
theorem d_S_nextReady_11 : decode c_S_nextReady 11 = .ok (.iload_n 1, 1) := by decide +kernel
theorem d_S_nextReady_12 : decode c_S_nextReady 12 = .ok (.iload_n 2, 1) := by decide +kernel
theorem d_S_nextReady_13 : decode c_S_nextReady 13 = .ok (.invokestatic 29, 3) := by decide +kernel
theorem d_S_nextReady_16 : decode c_S_nextReady 16 = .ok (.ifCond .ne 26, 3) := by decide +kernel
theorem d_S_nextReady_19 : decode c_S_nextReady 19 = .ok (.aload_n 0, 1) := by decide +kernel
theorem d_S_nextReady_20 : decode c_S_nextReady 20 = .ok (.getfield 16, 3) := by decide +kernel
theorem d_S_nextReady_23 : decode c_S_nextReady 23 = .ok (.iload_n 2, 1) := by decide +kernel
theorem d_S_nextReady_24 : decode c_S_nextReady 24 = .ok (.iaload, 1) := by decide +kernel
theorem d_S_nextReady_25 : decode c_S_nextReady 25 = .ok (.iload_n 1, 1) := by decide +kernel
theorem d_S_nextReady_26 : decode c_S_nextReady 26 = .ok (.iconst (-1), 1) := by decide +kernel
theorem d_S_nextReady_27 : decode c_S_nextReady 27 = .ok (.ixor, 1) := by decide +kernel
theorem d_S_nextReady_28 : decode c_S_nextReady 28 = .ok (.iand, 1) := by decide +kernel
theorem d_S_nextReady_29 : decode c_S_nextReady 29 = .ok (.aload_n 0, 1) := by decide +kernel
theorem d_S_nextReady_30 : decode c_S_nextReady 30 = .ok (.iload_n 2, 1) := by decide +kernel
theorem d_S_nextReady_31 : decode c_S_nextReady 31 = .ok (.invokevirtual 26, 3) := by decide +kernel
theorem d_S_nextReady_34 : decode c_S_nextReady 34 = .ok (.iconst (-1), 1) := by decide +kernel
theorem d_S_nextReady_35 : decode c_S_nextReady 35 = .ok (.ixor, 1) := by decide +kernel
theorem d_S_nextReady_36 : decode c_S_nextReady 36 = .ok (.iand, 1) := by decide +kernel
theorem d_S_nextReady_37 : decode c_S_nextReady 37 = .ok (.ifCond .ne 5, 3) := by decide +kernel
theorem d_S_nextReady_40 : decode c_S_nextReady 40 = .ok (.iload_n 2, 1) := by decide +kernel
theorem d_S_nextReady_41 : decode c_S_nextReady 41 = .ok (.ireturn, 1) := by decide +kernel
theorem d_S_nextReady_42 : decode c_S_nextReady 42 = .ok (.iinc 2 1, 3) := by decide +kernel
theorem d_S_nextReady_45 : decode c_S_nextReady 45 = .ok (.goto (-43), 3) := by decide +kernel
theorem d_S_nextReady_48 : decode c_S_nextReady 48 = .ok (.iconst (-1), 1) := by decide +kernel
theorem d_S_nextReady_49 : decode c_S_nextReady 49 = .ok (.ireturn, 1) := by decide +kernel
theorem d_S_partOf_0 : decode c_S_partOf 0 = .ok (.iconst 0, 1) := by decide +kernel
theorem d_S_partOf_1 : decode c_S_partOf 1 = .ok (.istore_n 2, 1) := by decide +kernel
theorem d_S_partOf_2 : decode c_S_partOf 2 = .ok (.iconst 0, 1) := by decide +kernel
theorem d_S_partOf_3 : decode c_S_partOf 3 = .ok (.istore_n 3, 1) := by decide +kernel
theorem d_S_partOf_4 : decode c_S_partOf 4 = .ok (.iload_n 3, 1) := by decide +kernel
theorem d_S_partOf_5 : decode c_S_partOf 5 = .ok (.aload_n 0, 1) := by decide +kernel
theorem d_S_partOf_6 : decode c_S_partOf 6 = .ok (.getfield 7, 3) := by decide +kernel
theorem d_S_partOf_9 : decode c_S_partOf 9 = .ok (.arraylength, 1) := by decide +kernel
theorem d_S_partOf_10 : decode c_S_partOf 10 = .ok (.if_icmp .ge 41, 3) := by decide +kernel
theorem d_S_partOf_13 : decode c_S_partOf 13 = .ok (.aload_n 0, 1) := by decide +kernel
theorem d_S_partOf_14 : decode c_S_partOf 14 = .ok (.getfield 16, 3) := by decide +kernel
theorem d_S_partOf_17 : decode c_S_partOf 17 = .ok (.iload_n 1, 1) := by decide +kernel
theorem d_S_partOf_18 : decode c_S_partOf 18 = .ok (.iaload, 1) := by decide +kernel
theorem d_S_partOf_19 : decode c_S_partOf 19 = .ok (.iload_n 3, 1) := by decide +kernel
theorem d_S_partOf_20 : decode c_S_partOf 20 = .ok (.invokestatic 29, 3) := by decide +kernel
theorem d_S_partOf_23 : decode c_S_partOf 23 = .ok (.ifCond .eq 22, 3) := by decide +kernel
theorem d_S_partOf_26 : decode c_S_partOf 26 = .ok (.aload_n 0, 1) := by decide +kernel
theorem d_S_partOf_27 : decode c_S_partOf 27 = .ok (.getfield 16, 3) := by decide +kernel
theorem d_S_partOf_30 : decode c_S_partOf 30 = .ok (.iload_n 3, 1) := by decide +kernel
theorem d_S_partOf_31 : decode c_S_partOf 31 = .ok (.iaload, 1) := by decide +kernel
theorem d_S_partOf_32 : decode c_S_partOf 32 = .ok (.iload_n 1, 1) := by decide +kernel
theorem d_S_partOf_33 : decode c_S_partOf 33 = .ok (.invokestatic 29, 3) := by decide +kernel
theorem d_S_partOf_36 : decode c_S_partOf 36 = .ok (.ifCond .eq 9, 3) := by decide +kernel
theorem d_S_partOf_39 : decode c_S_partOf 39 = .ok (.iload_n 2, 1) := by decide +kernel
theorem d_S_partOf_40 : decode c_S_partOf 40 = .ok (.iconst 1, 1) := by decide +kernel
theorem d_S_partOf_41 : decode c_S_partOf 41 = .ok (.iload_n 3, 1) := by decide +kernel
theorem d_S_partOf_42 : decode c_S_partOf 42 = .ok (.ishl, 1) := by decide +kernel
theorem d_S_partOf_43 : decode c_S_partOf 43 = .ok (.ior, 1) := by decide +kernel
theorem d_S_partOf_44 : decode c_S_partOf 44 = .ok (.istore_n 2, 1) := by decide +kernel
theorem d_S_partOf_45 : decode c_S_partOf 45 = .ok (.iinc 3 1, 3) := by decide +kernel
theorem d_S_partOf_48 : decode c_S_partOf 48 = .ok (.goto (-44), 3) := by decide +kernel
theorem d_S_partOf_51 : decode c_S_partOf 51 = .ok (.iload_n 2, 1) := by decide +kernel
theorem d_S_partOf_52 : decode c_S_partOf 52 = .ok (.ireturn, 1) := by decide +kernel
theorem d_Y_init_0 : decode c_Y_init 0 = .ok (.aload_n 0, 1) := by decide +kernel
theorem d_Y_init_1 : decode c_Y_init 1 = .ok (.invokespecial 1, 3) := by decide +kernel
theorem d_Y_init_4 : decode c_Y_init 4 = .ok (.aload_n 0, 1) := by decide +kernel
theorem d_Y_init_5 : decode c_Y_init 5 = .ok (.iconst 0, 1) := by decide +kernel
theorem d_Y_init_6 : decode c_Y_init 6 = .ok (.putfield 7, 3) := by decide +kernel
theorem d_Y_init_9 : decode c_Y_init 9 = .ok (.aload_n 0, 1) := by decide +kernel
theorem d_Y_init_10 : decode c_Y_init 10 = .ok (.iconst 0, 1) := by decide +kernel
theorem d_Y_init_11 : decode c_Y_init 11 = .ok (.putfield 13, 3) := by decide +kernel
theorem d_Y_init_14 : decode c_Y_init 14 = .ok (.aload_n 0, 1) := by decide +kernel
theorem d_Y_init_15 : decode c_Y_init 15 = .ok (.iconst 0, 1) := by decide +kernel
theorem d_Y_init_16 : decode c_Y_init 16 = .ok (.putfield 16, 3) := by decide +kernel
theorem d_Y_init_19 : decode c_Y_init 19 = .ok (.aload_n 0, 1) := by decide +kernel
theorem d_Y_init_20 : decode c_Y_init 20 = .ok (.iconst 1, 1) := by decide +kernel
theorem d_Y_init_21 : decode c_Y_init 21 = .ok (.putfield 19, 3) := by decide +kernel
theorem d_Y_init_24 : decode c_Y_init 24 = .ok (.aload_n 0, 1) := by decide +kernel
theorem d_Y_init_25 : decode c_Y_init 25 = .ok (.iload_n 1, 1) := by decide +kernel
theorem d_Y_init_26 : decode c_Y_init 26 = .ok (.iconst 1, 1) := by decide +kernel
theorem d_Y_init_27 : decode c_Y_init 27 = .ok (.iadd, 1) := by decide +kernel
theorem d_Y_init_28 : decode c_Y_init 28 = .ok (.newarray .int, 2) := by decide +kernel
theorem d_Y_init_30 : decode c_Y_init 30 = .ok (.putfield 22, 3) := by decide +kernel
theorem d_Y_init_33 : decode c_Y_init 33 = .ok (.return_, 1) := by decide +kernel
theorem d_M_init_0 : decode c_M_init 0 = .ok (.aload_n 0, 1) := by decide +kernel
theorem d_M_init_1 : decode c_M_init 1 = .ok (.invokespecial 1, 3) := by decide +kernel
theorem d_M_init_4 : decode c_M_init 4 = .ok (.aload_n 0, 1) := by decide +kernel
theorem d_M_init_5 : decode c_M_init 5 = .ok (.bipush 12, 2) := by decide +kernel
theorem d_M_init_7 : decode c_M_init 7 = .ok (.newarray .int, 2) := by decide +kernel
theorem d_M_init_9 : decode c_M_init 9 = .ok (.putfield 7, 3) := by decide +kernel
theorem d_M_init_12 : decode c_M_init 12 = .ok (.aload_n 0, 1) := by decide +kernel
theorem d_M_init_13 : decode c_M_init 13 = .ok (.sipush 2048, 3) := by decide +kernel
theorem d_M_init_16 : decode c_M_init 16 = .ok (.newarray .int, 2) := by decide +kernel
theorem d_M_init_18 : decode c_M_init 18 = .ok (.putfield 13, 3) := by decide +kernel
theorem d_M_init_21 : decode c_M_init 21 = .ok (.aload_n 0, 1) := by decide +kernel
theorem d_M_init_22 : decode c_M_init 22 = .ok (.bipush 13, 2) := by decide +kernel
theorem d_M_init_24 : decode c_M_init 24 = .ok (.newarray .int, 2) := by decide +kernel
theorem d_M_init_26 : decode c_M_init 26 = .ok (.putfield 16, 3) := by decide +kernel
theorem d_M_init_29 : decode c_M_init 29 = .ok (.aload_n 0, 1) := by decide +kernel
theorem d_M_init_30 : decode c_M_init 30 = .ok (.bipush 12, 2) := by decide +kernel
theorem d_M_init_32 : decode c_M_init 32 = .ok (.newarray .int, 2) := by decide +kernel
theorem d_M_init_34 : decode c_M_init 34 = .ok (.putfield 19, 3) := by decide +kernel
theorem d_M_init_37 : decode c_M_init 37 = .ok (.aload_n 0, 1) := by decide +kernel
theorem d_M_init_38 : decode c_M_init 38 = .ok (.bipush 13, 2) := by decide +kernel
theorem d_M_init_40 : decode c_M_init 40 = .ok (.newarray .int, 2) := by decide +kernel
theorem d_M_init_42 : decode c_M_init 42 = .ok (.putfield 22, 3) := by decide +kernel
theorem d_M_init_45 : decode c_M_init 45 = .ok (.aload_n 0, 1) := by decide +kernel
theorem d_M_init_46 : decode c_M_init 46 = .ok (.bipush 12, 2) := by decide +kernel
theorem d_M_init_48 : decode c_M_init 48 = .ok (.newarray .int, 2) := by decide +kernel
theorem d_M_init_50 : decode c_M_init 50 = .ok (.putfield 25, 3) := by decide +kernel
theorem d_M_init_53 : decode c_M_init 53 = .ok (.aload_n 0, 1) := by decide +kernel
theorem d_M_init_54 : decode c_M_init 54 = .ok (.bipush 12, 2) := by decide +kernel
theorem d_M_init_56 : decode c_M_init 56 = .ok (.newarray .int, 2) := by decide +kernel
theorem d_M_init_58 : decode c_M_init 58 = .ok (.putfield 28, 3) := by decide +kernel
theorem d_M_init_61 : decode c_M_init 61 = .ok (.aload_n 0, 1) := by decide +kernel
theorem d_M_init_62 : decode c_M_init 62 = .ok (.bipush 12, 2) := by decide +kernel
theorem d_M_init_64 : decode c_M_init 64 = .ok (.newarray .int, 2) := by decide +kernel
theorem d_M_init_66 : decode c_M_init 66 = .ok (.putfield 31, 3) := by decide +kernel
theorem d_M_init_69 : decode c_M_init 69 = .ok (.aload_n 0, 1) := by decide +kernel
theorem d_M_init_70 : decode c_M_init 70 = .ok (.bipush 12, 2) := by decide +kernel
theorem d_M_init_72 : decode c_M_init 72 = .ok (.newarray .int, 2) := by decide +kernel
theorem d_M_init_74 : decode c_M_init 74 = .ok (.putfield 34, 3) := by decide +kernel
theorem d_M_init_77 : decode c_M_init 77 = .ok (.aload_n 0, 1) := by decide +kernel
theorem d_M_init_78 : decode c_M_init 78 = .ok (.bipush 12, 2) := by decide +kernel
theorem d_M_init_80 : decode c_M_init 80 = .ok (.newarray .int, 2) := by decide +kernel
theorem d_M_init_82 : decode c_M_init 82 = .ok (.putfield 37, 3) := by decide +kernel
theorem d_M_init_85 : decode c_M_init 85 = .ok (.aload_n 0, 1) := by decide +kernel
theorem d_M_init_86 : decode c_M_init 86 = .ok (.bipush 12, 2) := by decide +kernel
theorem d_M_init_88 : decode c_M_init 88 = .ok (.newarray .long, 2) := by decide +kernel
theorem d_M_init_90 : decode c_M_init 90 = .ok (.putfield 40, 3) := by decide +kernel
theorem d_M_init_93 : decode c_M_init 93 = .ok (.aload_n 0, 1) := by decide +kernel
theorem d_M_init_94 : decode c_M_init 94 = .ok (.bipush 12, 2) := by decide +kernel
theorem d_M_init_96 : decode c_M_init 96 = .ok (.newarray .long, 2) := by decide +kernel
theorem d_M_init_98 : decode c_M_init 98 = .ok (.putfield 44, 3) := by decide +kernel
theorem d_M_init_101 : decode c_M_init 101 = .ok (.aload_n 0, 1) := by decide +kernel
theorem d_M_init_102 : decode c_M_init 102 = .ok (.bipush 12, 2) := by decide +kernel
theorem d_M_init_104 : decode c_M_init 104 = .ok (.newarray .long, 2) := by decide +kernel
theorem d_M_init_106 : decode c_M_init 106 = .ok (.putfield 47, 3) := by decide +kernel
theorem d_M_init_109 : decode c_M_init 109 = .ok (.aload_n 0, 1) := by decide +kernel
theorem d_M_init_110 : decode c_M_init 110 = .ok (.bipush 12, 2) := by decide +kernel
theorem d_M_init_112 : decode c_M_init 112 = .ok (.newarray .int, 2) := by decide +kernel
theorem d_M_init_114 : decode c_M_init 114 = .ok (.putfield 50, 3) := by decide +kernel
theorem d_M_init_117 : decode c_M_init 117 = .ok (.aload_n 0, 1) := by decide +kernel
theorem d_M_init_118 : decode c_M_init 118 = .ok (.bipush 12, 2) := by decide +kernel
theorem d_M_init_120 : decode c_M_init 120 = .ok (.newarray .int, 2) := by decide +kernel
theorem d_M_init_122 : decode c_M_init 122 = .ok (.putfield 53, 3) := by decide +kernel
theorem d_M_init_125 : decode c_M_init 125 = .ok (.aload_n 0, 1) := by decide +kernel
theorem d_M_init_126 : decode c_M_init 126 = .ok (.iload_n 1, 1) := by decide +kernel
theorem d_M_init_127 : decode c_M_init 127 = .ok (.iconst 1, 1) := by decide +kernel
theorem d_M_init_128 : decode c_M_init 128 = .ok (.if_icmp .ge 7, 3) := by decide +kernel
theorem d_M_init_131 : decode c_M_init 131 = .ok (.iconst 1, 1) := by decide +kernel
theorem d_M_init_132 : decode c_M_init 132 = .ok (.goto 15, 3) := by decide +kernel
theorem d_M_init_135 : decode c_M_init 135 = .ok (.iload_n 1, 1) := by decide +kernel
theorem d_M_init_136 : decode c_M_init 136 = .ok (.bipush 12, 2) := by decide +kernel
theorem d_M_init_138 : decode c_M_init 138 = .ok (.if_icmp .le 8, 3) := by decide +kernel
theorem d_M_init_141 : decode c_M_init 141 = .ok (.bipush 12, 2) := by decide +kernel
theorem d_M_init_143 : decode c_M_init 143 = .ok (.goto 4, 3) := by decide +kernel
theorem d_M_init_146 : decode c_M_init 146 = .ok (.iload_n 1, 1) := by decide +kernel
theorem d_M_init_147 : decode c_M_init 147 = .ok (.putfield 56, 3) := by decide +kernel
theorem d_M_init_150 : decode c_M_init 150 = .ok (.iconst 0, 1) := by decide +kernel
theorem d_M_init_151 : decode c_M_init 151 = .ok (.istore_n 2, 1) := by decide +kernel
theorem d_M_init_152 : decode c_M_init 152 = .ok (.iload_n 2, 1) := by decide +kernel
theorem d_M_init_153 : decode c_M_init 153 = .ok (.bipush 12, 2) := by decide +kernel
theorem d_M_init_155 : decode c_M_init 155 = .ok (.if_icmp .ge 16, 3) := by decide +kernel
theorem d_M_init_158 : decode c_M_init 158 = .ok (.aload_n 0, 1) := by decide +kernel
theorem d_M_init_159 : decode c_M_init 159 = .ok (.getfield 37, 3) := by decide +kernel
theorem d_M_init_162 : decode c_M_init 162 = .ok (.iload_n 2, 1) := by decide +kernel
theorem d_M_init_163 : decode c_M_init 163 = .ok (.iconst 1, 1) := by decide +kernel
theorem d_M_init_164 : decode c_M_init 164 = .ok (.iastore, 1) := by decide +kernel
theorem d_M_init_165 : decode c_M_init 165 = .ok (.iinc 2 1, 3) := by decide +kernel
theorem d_M_init_168 : decode c_M_init 168 = .ok (.goto (-16), 3) := by decide +kernel
theorem d_M_init_171 : decode c_M_init 171 = .ok (.aload_n 0, 1) := by decide +kernel
theorem d_M_init_172 : decode c_M_init 172 = .ok (.iconst 0, 1) := by decide +kernel
theorem d_M_init_173 : decode c_M_init 173 = .ok (.iconst 0, 1) := by decide +kernel
theorem d_M_init_174 : decode c_M_init 174 = .ok (.iconst 0, 1) := by decide +kernel
theorem d_M_init_175 : decode c_M_init 175 = .ok (.iconst 1, 1) := by decide +kernel
theorem d_M_init_176 : decode c_M_init 176 = .ok (.invokevirtual 60, 3) := by decide +kernel
theorem d_M_init_179 : decode c_M_init 179 = .ok (.pop, 1) := by decide +kernel
theorem d_M_init_180 : decode c_M_init 180 = .ok (.aload_n 0, 1) := by decide +kernel
theorem d_M_init_181 : decode c_M_init 181 = .ok (.iconst 0, 1) := by decide +kernel
theorem d_M_init_182 : decode c_M_init 182 = .ok (.sipush 850, 3) := by decide +kernel
theorem d_M_init_185 : decode c_M_init 185 = .ok (.invokevirtual 64, 3) := by decide +kernel
theorem d_M_init_188 : decode c_M_init 188 = .ok (.pop, 1) := by decide +kernel
theorem d_M_init_189 : decode c_M_init 189 = .ok (.return_, 1) := by decide +kernel
theorem d_M_node_0 : decode c_M_node 0 = .ok (.iload_n 1, 1) := by decide +kernel
theorem d_M_node_1 : decode c_M_node 1 = .ok (.ifCond .lt 15, 3) := by decide +kernel
theorem d_M_node_4 : decode c_M_node 4 = .ok (.iload_n 1, 1) := by decide +kernel
theorem d_M_node_5 : decode c_M_node 5 = .ok (.aload_n 0, 1) := by decide +kernel
theorem d_M_node_6 : decode c_M_node 6 = .ok (.getfield 56, 3) := by decide +kernel
theorem d_M_node_9 : decode c_M_node 9 = .ok (.if_icmp .ge 7, 3) := by decide +kernel
theorem d_M_node_12 : decode c_M_node 12 = .ok (.iconst 1, 1) := by decide +kernel
theorem d_M_node_13 : decode c_M_node 13 = .ok (.goto 4, 3) := by decide +kernel
theorem d_M_node_16 : decode c_M_node 16 = .ok (.iconst 0, 1) := by decide +kernel
theorem d_M_node_17 : decode c_M_node 17 = .ok (.ireturn, 1) := by decide +kernel
theorem d_M_ones_0 : decode c_M_ones 0 = .ok (.iconst 0, 1) := by decide +kernel
theorem d_M_ones_1 : decode c_M_ones 1 = .ok (.istore_n 1, 1) := by decide +kernel
theorem d_M_ones_2 : decode c_M_ones 2 = .ok (.iconst 0, 1) := by decide +kernel
theorem d_M_ones_3 : decode c_M_ones 3 = .ok (.istore_n 2, 1) := by decide +kernel
theorem d_M_ones_4 : decode c_M_ones 4 = .ok (.iload_n 2, 1) := by decide +kernel
theorem d_M_ones_5 : decode c_M_ones 5 = .ok (.bipush 12, 2) := by decide +kernel
theorem d_M_ones_7 : decode c_M_ones 7 = .ok (.if_icmp .ge 17, 3) := by decide +kernel
theorem d_M_ones_10 : decode c_M_ones 10 = .ok (.iload_n 1, 1) := by decide +kernel
theorem d_M_ones_11 : decode c_M_ones 11 = .ok (.iload_n 0, 1) := by decide +kernel
theorem d_M_ones_12 : decode c_M_ones 12 = .ok (.iload_n 2, 1) := by decide +kernel
theorem d_M_ones_13 : decode c_M_ones 13 = .ok (.ishr, 1) := by decide +kernel
theorem d_M_ones_14 : decode c_M_ones 14 = .ok (.iconst 1, 1) := by decide +kernel
theorem d_M_ones_15 : decode c_M_ones 15 = .ok (.iand, 1) := by decide +kernel
theorem d_M_ones_16 : decode c_M_ones 16 = .ok (.iadd, 1) := by decide +kernel
theorem d_M_ones_17 : decode c_M_ones 17 = .ok (.istore_n 1, 1) := by decide +kernel
theorem d_M_ones_18 : decode c_M_ones 18 = .ok (.iinc 2 1, 3) := by decide +kernel
theorem d_M_ones_21 : decode c_M_ones 21 = .ok (.goto (-17), 3) := by decide +kernel
theorem d_M_ones_24 : decode c_M_ones 24 = .ok (.iload_n 1, 1) := by decide +kernel
theorem d_M_ones_25 : decode c_M_ones 25 = .ok (.ireturn, 1) := by decide +kernel
theorem d_M_add_0 : decode c_M_add 0 = .ok (.aload_n 0, 1) := by decide +kernel
theorem d_M_add_1 : decode c_M_add 1 = .ok (.iload_n 1, 1) := by decide +kernel
theorem d_M_add_2 : decode c_M_add 2 = .ok (.invokevirtual 68, 3) := by decide +kernel
theorem d_M_add_5 : decode c_M_add 5 = .ok (.ifCond .eq 25, 3) := by decide +kernel
theorem d_M_add_8 : decode c_M_add 8 = .ok (.aload_n 0, 1) := by decide +kernel
theorem d_M_add_9 : decode c_M_add 9 = .ok (.iload_n 2, 1) := by decide +kernel
theorem d_M_add_10 : decode c_M_add 10 = .ok (.invokevirtual 68, 3) := by decide +kernel
theorem d_M_add_13 : decode c_M_add 13 = .ok (.ifCond .eq 17, 3) := by decide +kernel
theorem d_M_add_16 : decode c_M_add 16 = .ok (.aload_n 0, 1) := by decide +kernel
theorem d_M_add_17 : decode c_M_add 17 = .ok (.getfield 7, 3) := by decide +kernel
theorem d_M_add_20 : decode c_M_add 20 = .ok (.iload_n 1, 1) := by decide +kernel
theorem d_M_add_21 : decode c_M_add 21 = .ok (.iaload, 1) := by decide +kernel
theorem d_M_add_22 : decode c_M_add 22 = .ok (.iload_n 2, 1) := by decide +kernel
theorem d_M_add_23 : decode c_M_add 23 = .ok (.ishr, 1) := by decide +kernel
theorem d_M_add_24 : decode c_M_add 24 = .ok (.iconst 1, 1) := by decide +kernel
theorem d_M_add_25 : decode c_M_add 25 = .ok (.iand, 1) := by decide +kernel
theorem d_M_add_26 : decode c_M_add 26 = .ok (.iconst 1, 1) := by decide +kernel
theorem d_M_add_27 : decode c_M_add 27 = .ok (.if_icmp .ne 5, 3) := by decide +kernel
theorem d_M_add_30 : decode c_M_add 30 = .ok (.iconst 0, 1) := by decide +kernel
theorem d_M_add_31 : decode c_M_add 31 = .ok (.ireturn, 1) := by decide +kernel
theorem d_M_add_32 : decode c_M_add 32 = .ok (.aload_n 0, 1) := by decide +kernel
theorem d_M_add_33 : decode c_M_add 33 = .ok (.getfield 7, 3) := by decide +kernel
theorem d_M_add_36 : decode c_M_add 36 = .ok (.iload_n 1, 1) := by decide +kernel
theorem d_M_add_37 : decode c_M_add 37 = .ok (.dup2, 1) := by decide +kernel
theorem d_M_add_38 : decode c_M_add 38 = .ok (.iaload, 1) := by decide +kernel
theorem d_M_add_39 : decode c_M_add 39 = .ok (.iconst 1, 1) := by decide +kernel
theorem d_M_add_40 : decode c_M_add 40 = .ok (.iload_n 2, 1) := by decide +kernel
theorem d_M_add_41 : decode c_M_add 41 = .ok (.ishl, 1) := by decide +kernel
theorem d_M_add_42 : decode c_M_add 42 = .ok (.ior, 1) := by decide +kernel
theorem d_M_add_43 : decode c_M_add 43 = .ok (.iastore, 1) := by decide +kernel
theorem d_M_add_44 : decode c_M_add 44 = .ok (.iconst 1, 1) := by decide +kernel
theorem d_M_add_45 : decode c_M_add 45 = .ok (.ireturn, 1) := by decide +kernel
theorem d_M_drop_0 : decode c_M_drop 0 = .ok (.aload_n 0, 1) := by decide +kernel
theorem d_M_drop_1 : decode c_M_drop 1 = .ok (.iload_n 1, 1) := by decide +kernel
theorem d_M_drop_2 : decode c_M_drop 2 = .ok (.invokevirtual 68, 3) := by decide +kernel
theorem d_M_drop_5 : decode c_M_drop 5 = .ok (.ifCond .eq 24, 3) := by decide +kernel
theorem d_M_drop_8 : decode c_M_drop 8 = .ok (.aload_n 0, 1) := by decide +kernel
theorem d_M_drop_9 : decode c_M_drop 9 = .ok (.iload_n 2, 1) := by decide +kernel
theorem d_M_drop_10 : decode c_M_drop 10 = .ok (.invokevirtual 68, 3) := by decide +kernel
theorem d_M_drop_13 : decode c_M_drop 13 = .ok (.ifCond .eq 16, 3) := by decide +kernel
theorem d_M_drop_16 : decode c_M_drop 16 = .ok (.aload_n 0, 1) := by decide +kernel
theorem d_M_drop_17 : decode c_M_drop 17 = .ok (.getfield 7, 3) := by decide +kernel
theorem d_M_drop_20 : decode c_M_drop 20 = .ok (.iload_n 1, 1) := by decide +kernel
theorem d_M_drop_21 : decode c_M_drop 21 = .ok (.iaload, 1) := by decide +kernel
theorem d_M_drop_22 : decode c_M_drop 22 = .ok (.iload_n 2, 1) := by decide +kernel
theorem d_M_drop_23 : decode c_M_drop 23 = .ok (.ishr, 1) := by decide +kernel
theorem d_M_drop_24 : decode c_M_drop 24 = .ok (.iconst 1, 1) := by decide +kernel
theorem d_M_drop_25 : decode c_M_drop 25 = .ok (.iand, 1) := by decide +kernel
theorem d_M_drop_26 : decode c_M_drop 26 = .ok (.ifCond .ne 5, 3) := by decide +kernel
theorem d_M_drop_29 : decode c_M_drop 29 = .ok (.iconst 0, 1) := by decide +kernel
theorem d_M_drop_30 : decode c_M_drop 30 = .ok (.ireturn, 1) := by decide +kernel
theorem d_M_drop_31 : decode c_M_drop 31 = .ok (.aload_n 0, 1) := by decide +kernel
theorem d_M_drop_32 : decode c_M_drop 32 = .ok (.getfield 7, 3) := by decide +kernel
theorem d_M_drop_35 : decode c_M_drop 35 = .ok (.iload_n 1, 1) := by decide +kernel
theorem d_M_drop_36 : decode c_M_drop 36 = .ok (.dup2, 1) := by decide +kernel
theorem d_M_drop_37 : decode c_M_drop 37 = .ok (.iaload, 1) := by decide +kernel
theorem d_M_drop_38 : decode c_M_drop 38 = .ok (.iconst 1, 1) := by decide +kernel
theorem d_M_drop_39 : decode c_M_drop 39 = .ok (.iload_n 2, 1) := by decide +kernel
theorem d_M_drop_40 : decode c_M_drop 40 = .ok (.ishl, 1) := by decide +kernel
theorem d_M_drop_41 : decode c_M_drop 41 = .ok (.iconst (-1), 1) := by decide +kernel
theorem d_M_drop_42 : decode c_M_drop 42 = .ok (.ixor, 1) := by decide +kernel
theorem d_M_drop_43 : decode c_M_drop 43 = .ok (.iand, 1) := by decide +kernel
theorem d_M_drop_44 : decode c_M_drop 44 = .ok (.iastore, 1) := by decide +kernel
theorem d_M_drop_45 : decode c_M_drop 45 = .ok (.iconst 1, 1) := by decide +kernel
theorem d_M_drop_46 : decode c_M_drop 46 = .ok (.ireturn, 1) := by decide +kernel
theorem d_M_put_0 : decode c_M_put 0 = .ok (.aload_n 0, 1) := by decide +kernel
theorem d_M_put_1 : decode c_M_put 1 = .ok (.getfield 13, 3) := by decide +kernel
theorem d_M_put_4 : decode c_M_put 4 = .ok (.aload_n 0, 1) := by decide +kernel
theorem d_M_put_5 : decode c_M_put 5 = .ok (.getfield 72, 3) := by decide +kernel
theorem d_M_put_8 : decode c_M_put 8 = .ok (.iload_n 1, 1) := by decide +kernel
theorem d_M_put_9 : decode c_M_put 9 = .ok (.iastore, 1) := by decide +kernel
theorem d_M_put_10 : decode c_M_put 10 = .ok (.aload_n 0, 1) := by decide +kernel
theorem d_M_put_11 : decode c_M_put 11 = .ok (.dup, 1) := by decide +kernel
theorem d_M_put_12 : decode c_M_put 12 = .ok (.getfield 72, 3) := by decide +kernel
theorem d_M_put_15 : decode c_M_put 15 = .ok (.iconst 1, 1) := by decide +kernel
theorem d_M_put_16 : decode c_M_put 16 = .ok (.iadd, 1) := by decide +kernel
theorem d_M_put_17 : decode c_M_put 17 = .ok (.putfield 72, 3) := by decide +kernel
theorem d_M_put_20 : decode c_M_put 20 = .ok (.return_, 1) := by decide +kernel
theorem d_M_putUnary_0 : decode c_M_putUnary 0 = .ok (.iconst 0, 1) := by decide +kernel
theorem d_M_putUnary_1 : decode c_M_putUnary 1 = .ok (.istore_n 2, 1) := by decide +kernel
theorem d_M_putUnary_2 : decode c_M_putUnary 2 = .ok (.iload_n 2, 1) := by decide +kernel
theorem d_M_putUnary_3 : decode c_M_putUnary 3 = .ok (.iload_n 1, 1) := by decide +kernel
theorem d_M_putUnary_4 : decode c_M_putUnary 4 = .ok (.if_icmp .ge 14, 3) := by decide +kernel
theorem d_M_putUnary_7 : decode c_M_putUnary 7 = .ok (.aload_n 0, 1) := by decide +kernel
theorem d_M_putUnary_8 : decode c_M_putUnary 8 = .ok (.iconst 0, 1) := by decide +kernel
theorem d_M_putUnary_9 : decode c_M_putUnary 9 = .ok (.invokevirtual 75, 3) := by decide +kernel
theorem d_M_putUnary_12 : decode c_M_putUnary 12 = .ok (.iinc 2 1, 3) := by decide +kernel
theorem d_M_putUnary_15 : decode c_M_putUnary 15 = .ok (.goto (-13), 3) := by decide +kernel
theorem d_M_putUnary_18 : decode c_M_putUnary 18 = .ok (.aload_n 0, 1) := by decide +kernel
theorem d_M_putUnary_19 : decode c_M_putUnary 19 = .ok (.iconst 1, 1) := by decide +kernel
theorem d_M_putUnary_20 : decode c_M_putUnary 20 = .ok (.invokevirtual 75, 3) := by decide +kernel
theorem d_M_putUnary_23 : decode c_M_putUnary 23 = .ok (.return_, 1) := by decide +kernel
theorem d_M_putNumber_0 : decode c_M_putNumber 0 = .ok (.iload_n 2, 1) := by decide +kernel
theorem d_M_putNumber_1 : decode c_M_putNumber 1 = .ok (.iconst 1, 1) := by decide +kernel
theorem d_M_putNumber_2 : decode c_M_putNumber 2 = .ok (.isub, 1) := by decide +kernel
theorem d_M_putNumber_3 : decode c_M_putNumber 3 = .ok (.istore_n 3, 1) := by decide +kernel
theorem d_M_putNumber_4 : decode c_M_putNumber 4 = .ok (.iload_n 3, 1) := by decide +kernel
theorem d_M_putNumber_5 : decode c_M_putNumber 5 = .ok (.ifCond .lt 18, 3) := by decide +kernel
theorem d_M_putNumber_8 : decode c_M_putNumber 8 = .ok (.aload_n 0, 1) := by decide +kernel
theorem d_M_putNumber_9 : decode c_M_putNumber 9 = .ok (.iload_n 1, 1) := by decide +kernel
theorem d_M_putNumber_10 : decode c_M_putNumber 10 = .ok (.iload_n 3, 1) := by decide +kernel
theorem d_M_putNumber_11 : decode c_M_putNumber 11 = .ok (.ishr, 1) := by decide +kernel
theorem d_M_putNumber_12 : decode c_M_putNumber 12 = .ok (.iconst 1, 1) := by decide +kernel
theorem d_M_putNumber_13 : decode c_M_putNumber 13 = .ok (.iand, 1) := by decide +kernel
theorem d_M_putNumber_14 : decode c_M_putNumber 14 = .ok (.invokevirtual 75, 3) := by decide +kernel
theorem d_M_putNumber_17 : decode c_M_putNumber 17 = .ok (.iinc 3 (-1), 3) := by decide +kernel
theorem d_M_putNumber_20 : decode c_M_putNumber 20 = .ok (.goto (-16), 3) := by decide +kernel
theorem d_M_putNumber_23 : decode c_M_putNumber 23 = .ok (.return_, 1) := by decide +kernel
theorem d_M_putGamma_0 : decode c_M_putGamma 0 = .ok (.iconst 0, 1) := by decide +kernel
theorem d_M_putGamma_1 : decode c_M_putGamma 1 = .ok (.istore_n 2, 1) := by decide +kernel
theorem d_M_putGamma_2 : decode c_M_putGamma 2 = .ok (.iload_n 2, 1) := by decide +kernel
theorem d_M_putGamma_3 : decode c_M_putGamma 3 = .ok (.bipush 20, 2) := by decide +kernel
theorem d_M_putGamma_5 : decode c_M_putGamma 5 = .ok (.if_icmp .ge 20, 3) := by decide +kernel
theorem d_M_putGamma_8 : decode c_M_putGamma 8 = .ok (.iconst 1, 1) := by decide +kernel
theorem d_M_putGamma_9 : decode c_M_putGamma 9 = .ok (.iload_n 2, 1) := by decide +kernel
theorem d_M_putGamma_10 : decode c_M_putGamma 10 = .ok (.iconst 1, 1) := by decide +kernel
theorem d_M_putGamma_11 : decode c_M_putGamma 11 = .ok (.iadd, 1) := by decide +kernel
theorem d_M_putGamma_12 : decode c_M_putGamma 12 = .ok (.ishl, 1) := by decide +kernel
theorem d_M_putGamma_13 : decode c_M_putGamma 13 = .ok (.iload_n 1, 1) := by decide +kernel
theorem d_M_putGamma_14 : decode c_M_putGamma 14 = .ok (.iconst 1, 1) := by decide +kernel
theorem d_M_putGamma_15 : decode c_M_putGamma 15 = .ok (.iadd, 1) := by decide +kernel
theorem d_M_putGamma_16 : decode c_M_putGamma 16 = .ok (.if_icmp .gt 9, 3) := by decide +kernel
theorem d_M_putGamma_19 : decode c_M_putGamma 19 = .ok (.iinc 2 1, 3) := by decide +kernel
theorem d_M_putGamma_22 : decode c_M_putGamma 22 = .ok (.goto (-20), 3) := by decide +kernel
theorem d_M_putGamma_25 : decode c_M_putGamma 25 = .ok (.aload_n 0, 1) := by decide +kernel
theorem d_M_putGamma_26 : decode c_M_putGamma 26 = .ok (.iload_n 2, 1) := by decide +kernel
theorem d_M_putGamma_27 : decode c_M_putGamma 27 = .ok (.invokevirtual 79, 3) := by decide +kernel
theorem d_M_putGamma_30 : decode c_M_putGamma 30 = .ok (.aload_n 0, 1) := by decide +kernel
theorem d_M_putGamma_31 : decode c_M_putGamma 31 = .ok (.iload_n 1, 1) := by decide +kernel
theorem d_M_putGamma_32 : decode c_M_putGamma 32 = .ok (.iconst 1, 1) := by decide +kernel
theorem d_M_putGamma_33 : decode c_M_putGamma 33 = .ok (.iadd, 1) := by decide +kernel
theorem d_M_putGamma_34 : decode c_M_putGamma 34 = .ok (.iload_n 2, 1) := by decide +kernel
theorem d_M_putGamma_35 : decode c_M_putGamma 35 = .ok (.invokevirtual 82, 3) := by decide +kernel
theorem d_M_putGamma_38 : decode c_M_putGamma 38 = .ok (.return_, 1) := by decide +kernel
theorem d_M_putZeta_0 : decode c_M_putZeta 0 = .ok (.iconst 0, 1) := by decide +kernel
theorem d_M_putZeta_1 : decode c_M_putZeta 1 = .ok (.istore_n 2, 1) := by decide +kernel
theorem d_M_putZeta_2 : decode c_M_putZeta 2 = .ok (.iload_n 2, 1) := by decide +kernel
theorem d_M_putZeta_3 : decode c_M_putZeta 3 = .ok (.bipush 6, 2) := by decide +kernel
theorem d_M_putZeta_5 : decode c_M_putZeta 5 = .ok (.if_icmp .ge 25, 3) := by decide +kernel
theorem d_M_putZeta_8 : decode c_M_putZeta 8 = .ok (.iconst 1, 1) := by decide +kernel
theorem d_M_putZeta_9 : decode c_M_putZeta 9 = .ok (.iload_n 2, 1) := by decide +kernel
theorem d_M_putZeta_10 : decode c_M_putZeta 10 = .ok (.iconst 1, 1) := by decide +kernel
theorem d_M_putZeta_11 : decode c_M_putZeta 11 = .ok (.iadd, 1) := by decide +kernel
theorem d_M_putZeta_12 : decode c_M_putZeta 12 = .ok (.aload_n 0, 1) := by decide +kernel
theorem d_M_putZeta_13 : decode c_M_putZeta 13 = .ok (.getfield 86, 3) := by decide +kernel
theorem d_M_putZeta_16 : decode c_M_putZeta 16 = .ok (.imul, 1) := by decide +kernel
theorem d_M_putZeta_17 : decode c_M_putZeta 17 = .ok (.ishl, 1) := by decide +kernel
theorem d_M_putZeta_18 : decode c_M_putZeta 18 = .ok (.iload_n 1, 1) := by decide +kernel
theorem d_M_putZeta_19 : decode c_M_putZeta 19 = .ok (.iconst 1, 1) := by decide +kernel
theorem d_M_putZeta_20 : decode c_M_putZeta 20 = .ok (.iadd, 1) := by decide +kernel
theorem d_M_putZeta_21 : decode c_M_putZeta 21 = .ok (.if_icmp .gt 9, 3) := by decide +kernel
theorem d_M_putZeta_24 : decode c_M_putZeta 24 = .ok (.iinc 2 1, 3) := by decide +kernel
theorem d_M_putZeta_27 : decode c_M_putZeta 27 = .ok (.goto (-25), 3) := by decide +kernel
theorem d_M_putZeta_30 : decode c_M_putZeta 30 = .ok (.aload_n 0, 1) := by decide +kernel
theorem d_M_putZeta_31 : decode c_M_putZeta 31 = .ok (.iload_n 2, 1) := by decide +kernel
theorem d_M_putZeta_32 : decode c_M_putZeta 32 = .ok (.invokevirtual 79, 3) := by decide +kernel
theorem d_M_putZeta_35 : decode c_M_putZeta 35 = .ok (.iconst 1, 1) := by decide +kernel
theorem d_M_putZeta_36 : decode c_M_putZeta 36 = .ok (.iload_n 2, 1) := by decide +kernel
theorem d_M_putZeta_37 : decode c_M_putZeta 37 = .ok (.aload_n 0, 1) := by decide +kernel
theorem d_M_putZeta_38 : decode c_M_putZeta 38 = .ok (.getfield 86, 3) := by decide +kernel
theorem d_M_putZeta_41 : decode c_M_putZeta 41 = .ok (.imul, 1) := by decide +kernel
theorem d_M_putZeta_42 : decode c_M_putZeta 42 = .ok (.ishl, 1) := by decide +kernel
theorem d_M_putZeta_43 : decode c_M_putZeta 43 = .ok (.istore_n 3, 1) := by decide +kernel
theorem d_M_putZeta_44 : decode c_M_putZeta 44 = .ok (.iload_n 1, 1) := by decide +kernel
theorem d_M_putZeta_45 : decode c_M_putZeta 45 = .ok (.iconst 1, 1) := by decide +kernel
theorem d_M_putZeta_46 : decode c_M_putZeta 46 = .ok (.iadd, 1) := by decide +kernel
theorem d_M_putZeta_47 : decode c_M_putZeta 47 = .ok (.iconst 2, 1) := by decide +kernel
theorem d_M_putZeta_48 : decode c_M_putZeta 48 = .ok (.iload_n 3, 1) := by decide +kernel
theorem d_M_putZeta_49 : decode c_M_putZeta 49 = .ok (.imul, 1) := by decide +kernel
theorem d_M_putZeta_50 : decode c_M_putZeta 50 = .ok (.if_icmp .ge 28, 3) := by decide +kernel
theorem d_M_putZeta_53 : decode c_M_putZeta 53 = .ok (.aload_n 0, 1) := by decide +kernel
theorem d_M_putZeta_54 : decode c_M_putZeta 54 = .ok (.iload_n 1, 1) := by decide +kernel
theorem d_M_putZeta_55 : decode c_M_putZeta 55 = .ok (.iconst 1, 1) := by decide +kernel
theorem d_M_putZeta_56 : decode c_M_putZeta 56 = .ok (.iadd, 1) := by decide +kernel
theorem d_M_putZeta_57 : decode c_M_putZeta 57 = .ok (.iload_n 3, 1) := by decide +kernel
theorem d_M_putZeta_58 : decode c_M_putZeta 58 = .ok (.isub, 1) := by decide +kernel
theorem d_M_putZeta_59 : decode c_M_putZeta 59 = .ok (.iload_n 2, 1) := by decide +kernel
theorem d_M_putZeta_60 : decode c_M_putZeta 60 = .ok (.aload_n 0, 1) := by decide +kernel
theorem d_M_putZeta_61 : decode c_M_putZeta 61 = .ok (.getfield 86, 3) := by decide +kernel
theorem d_M_putZeta_64 : decode c_M_putZeta 64 = .ok (.imul, 1) := by decide +kernel
theorem d_M_putZeta_65 : decode c_M_putZeta 65 = .ok (.aload_n 0, 1) := by decide +kernel
theorem d_M_putZeta_66 : decode c_M_putZeta 66 = .ok (.getfield 86, 3) := by decide +kernel
theorem d_M_putZeta_69 : decode c_M_putZeta 69 = .ok (.iadd, 1) := by decide +kernel
theorem d_M_putZeta_70 : decode c_M_putZeta 70 = .ok (.iconst 1, 1) := by decide +kernel
theorem d_M_putZeta_71 : decode c_M_putZeta 71 = .ok (.isub, 1) := by decide +kernel
theorem d_M_putZeta_72 : decode c_M_putZeta 72 = .ok (.invokevirtual 82, 3) := by decide +kernel
theorem d_M_putZeta_75 : decode c_M_putZeta 75 = .ok (.goto 21, 3) := by decide +kernel
theorem d_M_putZeta_78 : decode c_M_putZeta 78 = .ok (.aload_n 0, 1) := by decide +kernel
theorem d_M_putZeta_79 : decode c_M_putZeta 79 = .ok (.iload_n 1, 1) := by decide +kernel
theorem d_M_putZeta_80 : decode c_M_putZeta 80 = .ok (.iconst 1, 1) := by decide +kernel
theorem d_M_putZeta_81 : decode c_M_putZeta 81 = .ok (.iadd, 1) := by decide +kernel
theorem d_M_putZeta_82 : decode c_M_putZeta 82 = .ok (.iload_n 2, 1) := by decide +kernel
theorem d_M_putZeta_83 : decode c_M_putZeta 83 = .ok (.aload_n 0, 1) := by decide +kernel
theorem d_M_putZeta_84 : decode c_M_putZeta 84 = .ok (.getfield 86, 3) := by decide +kernel
theorem d_M_putZeta_87 : decode c_M_putZeta 87 = .ok (.imul, 1) := by decide +kernel
theorem d_M_putZeta_88 : decode c_M_putZeta 88 = .ok (.aload_n 0, 1) := by decide +kernel
theorem d_M_putZeta_89 : decode c_M_putZeta 89 = .ok (.getfield 86, 3) := by decide +kernel
theorem d_M_putZeta_92 : decode c_M_putZeta 92 = .ok (.iadd, 1) := by decide +kernel
theorem d_M_putZeta_93 : decode c_M_putZeta 93 = .ok (.invokevirtual 82, 3) := by decide +kernel
theorem d_M_putZeta_96 : decode c_M_putZeta 96 = .ok (.return_, 1) := by decide +kernel
theorem d_M_natural_0 : decode c_M_natural 0 = .ok (.iload_n 0, 1) := by decide +kernel
theorem d_M_natural_1 : decode c_M_natural 1 = .ok (.ifCond .lt 9, 3) := by decide +kernel
theorem d_M_natural_4 : decode c_M_natural 4 = .ok (.iconst 2, 1) := by decide +kernel
theorem d_M_natural_5 : decode c_M_natural 5 = .ok (.iload_n 0, 1) := by decide +kernel
theorem d_M_natural_6 : decode c_M_natural 6 = .ok (.imul, 1) := by decide +kernel
theorem d_M_natural_7 : decode c_M_natural 7 = .ok (.goto 9, 3) := by decide +kernel
theorem d_M_natural_10 : decode c_M_natural 10 = .ok (.bipush (-2), 2) := by decide +kernel
theorem d_M_natural_12 : decode c_M_natural 12 = .ok (.iload_n 0, 1) := by decide +kernel
theorem d_M_natural_13 : decode c_M_natural 13 = .ok (.imul, 1) := by decide +kernel
theorem d_M_natural_14 : decode c_M_natural 14 = .ok (.iconst 1, 1) := by decide +kernel
theorem d_M_natural_15 : decode c_M_natural 15 = .ok (.isub, 1) := by decide +kernel
theorem d_M_natural_16 : decode c_M_natural 16 = .ok (.ireturn, 1) := by decide +kernel
theorem d_M_whole_0 : decode c_M_whole 0 = .ok (.iload_n 0, 1) := by decide +kernel
theorem d_M_whole_1 : decode c_M_whole 1 = .ok (.iconst 1, 1) := by decide +kernel
theorem d_M_whole_2 : decode c_M_whole 2 = .ok (.iand, 1) := by decide +kernel
theorem d_M_whole_3 : decode c_M_whole 3 = .ok (.ifCond .ne 9, 3) := by decide +kernel
theorem d_M_whole_6 : decode c_M_whole 6 = .ok (.iload_n 0, 1) := by decide +kernel
theorem d_M_whole_7 : decode c_M_whole 7 = .ok (.iconst 1, 1) := by decide +kernel
theorem d_M_whole_8 : decode c_M_whole 8 = .ok (.ishr, 1) := by decide +kernel
theorem d_M_whole_9 : decode c_M_whole 9 = .ok (.goto 9, 3) := by decide +kernel
theorem d_M_whole_12 : decode c_M_whole 12 = .ok (.iload_n 0, 1) := by decide +kernel
theorem d_M_whole_13 : decode c_M_whole 13 = .ok (.iconst 1, 1) := by decide +kernel
theorem d_M_whole_14 : decode c_M_whole 14 = .ok (.iadd, 1) := by decide +kernel
theorem d_M_whole_15 : decode c_M_whole 15 = .ok (.iconst 1, 1) := by decide +kernel
theorem d_M_whole_16 : decode c_M_whole 16 = .ok (.ishr, 1) := by decide +kernel
theorem d_M_whole_17 : decode c_M_whole 17 = .ok (.ineg, 1) := by decide +kernel
theorem d_M_whole_18 : decode c_M_whole 18 = .ok (.ireturn, 1) := by decide +kernel
theorem d_M_putRuns_0 : decode c_M_putRuns 0 = .ok (.iconst 0, 1) := by decide +kernel
theorem d_M_putRuns_1 : decode c_M_putRuns 1 = .ok (.istore_n 3, 1) := by decide +kernel
theorem d_M_putRuns_2 : decode c_M_putRuns 2 = .ok (.iconst 1, 1) := by decide +kernel
theorem d_M_putRuns_3 : decode c_M_putRuns 3 = .ok (.istore 4, 2) := by decide +kernel
theorem d_M_putRuns_5 : decode c_M_putRuns 5 = .ok (.iconst 0, 1) := by decide +kernel
theorem d_M_putRuns_6 : decode c_M_putRuns 6 = .ok (.istore 5, 2) := by decide +kernel
theorem d_M_putRuns_8 : decode c_M_putRuns 8 = .ok (.iconst 0, 1) := by decide +kernel
theorem d_M_putRuns_9 : decode c_M_putRuns 9 = .ok (.istore 6, 2) := by decide +kernel
theorem d_M_putRuns_11 : decode c_M_putRuns 11 = .ok (.iload 6, 2) := by decide +kernel
theorem d_M_putRuns_13 : decode c_M_putRuns 13 = .ok (.aload_n 0, 1) := by decide +kernel
theorem d_M_putRuns_14 : decode c_M_putRuns 14 = .ok (.getfield 56, 3) := by decide +kernel
theorem d_M_putRuns_17 : decode c_M_putRuns 17 = .ok (.if_icmp .ge 53, 3) := by decide +kernel
theorem d_M_putRuns_20 : decode c_M_putRuns 20 = .ok (.iload_n 2, 1) := by decide +kernel
theorem d_M_putRuns_21 : decode c_M_putRuns 21 = .ok (.iload 6, 2) := by decide +kernel
theorem d_M_putRuns_23 : decode c_M_putRuns 23 = .ok (.ishr, 1) := by decide +kernel
theorem d_M_putRuns_24 : decode c_M_putRuns 24 = .ok (.iconst 1, 1) := by decide +kernel
theorem d_M_putRuns_25 : decode c_M_putRuns 25 = .ok (.iand, 1) := by decide +kernel
theorem d_M_putRuns_26 : decode c_M_putRuns 26 = .ok (.iconst 1, 1) := by decide +kernel
theorem d_M_putRuns_27 : decode c_M_putRuns 27 = .ok (.if_icmp .ne 37, 3) := by decide +kernel
theorem d_M_putRuns_30 : decode c_M_putRuns 30 = .ok (.iload_n 1, 1) := by decide +kernel
theorem d_M_putRuns_31 : decode c_M_putRuns 31 = .ok (.iload 6, 2) := by decide +kernel
theorem d_M_putRuns_33 : decode c_M_putRuns 33 = .ok (.ishr, 1) := by decide +kernel
theorem d_M_putRuns_34 : decode c_M_putRuns 34 = .ok (.iconst 1, 1) := by decide +kernel
theorem d_M_putRuns_35 : decode c_M_putRuns 35 = .ok (.iand, 1) := by decide +kernel
theorem d_M_putRuns_36 : decode c_M_putRuns 36 = .ok (.iload 4, 2) := by decide +kernel
theorem d_M_putRuns_38 : decode c_M_putRuns 38 = .ok (.if_icmp .eq 23, 3) := by decide +kernel
theorem d_M_putRuns_41 : decode c_M_putRuns 41 = .ok (.aload_n 0, 1) := by decide +kernel
theorem d_M_putRuns_42 : decode c_M_putRuns 42 = .ok (.getfield 22, 3) := by decide +kernel
theorem d_M_putRuns_45 : decode c_M_putRuns 45 = .ok (.iload_n 3, 1) := by decide +kernel
theorem d_M_putRuns_46 : decode c_M_putRuns 46 = .ok (.iload 5, 2) := by decide +kernel
theorem d_M_putRuns_48 : decode c_M_putRuns 48 = .ok (.iastore, 1) := by decide +kernel
theorem d_M_putRuns_49 : decode c_M_putRuns 49 = .ok (.iinc 3 1, 3) := by decide +kernel
theorem d_M_putRuns_52 : decode c_M_putRuns 52 = .ok (.iconst 1, 1) := by decide +kernel
theorem d_M_putRuns_53 : decode c_M_putRuns 53 = .ok (.iload 4, 2) := by decide +kernel
theorem d_M_putRuns_55 : decode c_M_putRuns 55 = .ok (.isub, 1) := by decide +kernel
theorem d_M_putRuns_56 : decode c_M_putRuns 56 = .ok (.istore 4, 2) := by decide +kernel
theorem d_M_putRuns_58 : decode c_M_putRuns 58 = .ok (.iconst 0, 1) := by decide +kernel
theorem d_M_putRuns_59 : decode c_M_putRuns 59 = .ok (.istore 5, 2) := by decide +kernel
theorem d_M_putRuns_61 : decode c_M_putRuns 61 = .ok (.iinc 5 1, 3) := by decide +kernel
theorem d_M_putRuns_64 : decode c_M_putRuns 64 = .ok (.iinc 6 1, 3) := by decide +kernel
theorem d_M_putRuns_67 : decode c_M_putRuns 67 = .ok (.goto (-56), 3) := by decide +kernel
theorem d_M_putRuns_70 : decode c_M_putRuns 70 = .ok (.aload_n 0, 1) := by decide +kernel
theorem d_M_putRuns_71 : decode c_M_putRuns 71 = .ok (.iload_n 3, 1) := by decide +kernel
theorem d_M_putRuns_72 : decode c_M_putRuns 72 = .ok (.invokevirtual 89, 3) := by decide +kernel
theorem d_M_putRuns_75 : decode c_M_putRuns 75 = .ok (.iconst 0, 1) := by decide +kernel
theorem d_M_putRuns_76 : decode c_M_putRuns 76 = .ok (.istore 6, 2) := by decide +kernel
theorem d_M_putRuns_78 : decode c_M_putRuns 78 = .ok (.iload 6, 2) := by decide +kernel
theorem d_M_putRuns_80 : decode c_M_putRuns 80 = .ok (.iload_n 3, 1) := by decide +kernel
theorem d_M_putRuns_81 : decode c_M_putRuns 81 = .ok (.if_icmp .ge 36, 3) := by decide +kernel
theorem d_M_putRuns_84 : decode c_M_putRuns 84 = .ok (.aload_n 0, 1) := by decide +kernel
theorem d_M_putRuns_85 : decode c_M_putRuns 85 = .ok (.iload 6, 2) := by decide +kernel
theorem d_M_putRuns_87 : decode c_M_putRuns 87 = .ok (.ifCond .ne 12, 3) := by decide +kernel
theorem d_M_putRuns_90 : decode c_M_putRuns 90 = .ok (.aload_n 0, 1) := by decide +kernel
theorem d_M_putRuns_91 : decode c_M_putRuns 91 = .ok (.getfield 22, 3) := by decide +kernel
theorem d_M_putRuns_94 : decode c_M_putRuns 94 = .ok (.iconst 0, 1) := by decide +kernel
theorem d_M_putRuns_95 : decode c_M_putRuns 95 = .ok (.iaload, 1) := by decide +kernel
theorem d_M_putRuns_96 : decode c_M_putRuns 96 = .ok (.goto 12, 3) := by decide +kernel
theorem d_M_putRuns_99 : decode c_M_putRuns 99 = .ok (.aload_n 0, 1) := by decide +kernel
theorem d_M_putRuns_100 : decode c_M_putRuns 100 = .ok (.getfield 22, 3) := by decide +kernel
theorem d_M_putRuns_103 : decode c_M_putRuns 103 = .ok (.iload 6, 2) := by decide +kernel
theorem d_M_putRuns_105 : decode c_M_putRuns 105 = .ok (.iaload, 1) := by decide +kernel
theorem d_M_putRuns_106 : decode c_M_putRuns 106 = .ok (.iconst 1, 1) := by decide +kernel
theorem d_M_putRuns_107 : decode c_M_putRuns 107 = .ok (.isub, 1) := by decide +kernel
theorem d_M_putRuns_108 : decode c_M_putRuns 108 = .ok (.invokevirtual 89, 3) := by decide +kernel
theorem d_M_putRuns_111 : decode c_M_putRuns 111 = .ok (.iinc 6 1, 3) := by decide +kernel
theorem d_M_putRuns_114 : decode c_M_putRuns 114 = .ok (.goto (-36), 3) := by decide +kernel
theorem d_M_putRuns_117 : decode c_M_putRuns 117 = .ok (.return_, 1) := by decide +kernel
theorem d_M_rowAt_0 : decode c_M_rowAt 0 = .ok (.iload_n 1, 1) := by decide +kernel
theorem d_M_rowAt_1 : decode c_M_rowAt 1 = .ok (.iload_n 2, 1) := by decide +kernel
theorem d_M_rowAt_2 : decode c_M_rowAt 2 = .ok (.ishr, 1) := by decide +kernel
theorem d_M_rowAt_3 : decode c_M_rowAt 3 = .ok (.iconst 1, 1) := by decide +kernel
theorem d_M_rowAt_4 : decode c_M_rowAt 4 = .ok (.iand, 1) := by decide +kernel
theorem d_M_rowAt_5 : decode c_M_rowAt 5 = .ok (.ifCond .eq 18, 3) := by decide +kernel
theorem d_M_rowAt_8 : decode c_M_rowAt 8 = .ok (.iload_n 2, 1) := by decide +kernel
theorem d_M_rowAt_9 : decode c_M_rowAt 9 = .ok (.ifCond .le 16, 3) := by decide +kernel
theorem d_M_rowAt_12 : decode c_M_rowAt 12 = .ok (.iload_n 1, 1) := by decide +kernel
theorem d_M_rowAt_13 : decode c_M_rowAt 13 = .ok (.iload_n 2, 1) := by decide +kernel
theorem d_M_rowAt_14 : decode c_M_rowAt 14 = .ok (.iconst 1, 1) := by decide +kernel
theorem d_M_rowAt_15 : decode c_M_rowAt 15 = .ok (.isub, 1) := by decide +kernel
theorem d_M_rowAt_16 : decode c_M_rowAt 16 = .ok (.ishr, 1) := by decide +kernel
theorem d_M_rowAt_17 : decode c_M_rowAt 17 = .ok (.iconst 1, 1) := by decide +kernel
theorem d_M_rowAt_18 : decode c_M_rowAt 18 = .ok (.iand, 1) := by decide +kernel
theorem d_M_rowAt_19 : decode c_M_rowAt 19 = .ok (.iconst 1, 1) := by decide +kernel
theorem d_M_rowAt_20 : decode c_M_rowAt 20 = .ok (.if_icmp .ne 5, 3) := by decide +kernel
theorem d_M_rowAt_23 : decode c_M_rowAt 23 = .ok (.iconst 0, 1) := by decide +kernel
theorem d_M_rowAt_24 : decode c_M_rowAt 24 = .ok (.ireturn, 1) := by decide +kernel
theorem d_M_rowAt_25 : decode c_M_rowAt 25 = .ok (.iconst 0, 1) := by decide +kernel
theorem d_M_rowAt_26 : decode c_M_rowAt 26 = .ok (.istore_n 3, 1) := by decide +kernel
theorem d_M_rowAt_27 : decode c_M_rowAt 27 = .ok (.iload_n 2, 1) := by decide +kernel
theorem d_M_rowAt_28 : decode c_M_rowAt 28 = .ok (.iload_n 3, 1) := by decide +kernel
theorem d_M_rowAt_29 : decode c_M_rowAt 29 = .ok (.iadd, 1) := by decide +kernel
theorem d_M_rowAt_30 : decode c_M_rowAt 30 = .ok (.aload_n 0, 1) := by decide +kernel
theorem d_M_rowAt_31 : decode c_M_rowAt 31 = .ok (.getfield 56, 3) := by decide +kernel
theorem d_M_rowAt_34 : decode c_M_rowAt 34 = .ok (.if_icmp .ge 20, 3) := by decide +kernel
theorem d_M_rowAt_37 : decode c_M_rowAt 37 = .ok (.iload_n 1, 1) := by decide +kernel
theorem d_M_rowAt_38 : decode c_M_rowAt 38 = .ok (.iload_n 2, 1) := by decide +kernel
theorem d_M_rowAt_39 : decode c_M_rowAt 39 = .ok (.iload_n 3, 1) := by decide +kernel
theorem d_M_rowAt_40 : decode c_M_rowAt 40 = .ok (.iadd, 1) := by decide +kernel
theorem d_M_rowAt_41 : decode c_M_rowAt 41 = .ok (.ishr, 1) := by decide +kernel
theorem d_M_rowAt_42 : decode c_M_rowAt 42 = .ok (.iconst 1, 1) := by decide +kernel
theorem d_M_rowAt_43 : decode c_M_rowAt 43 = .ok (.iand, 1) := by decide +kernel
theorem d_M_rowAt_44 : decode c_M_rowAt 44 = .ok (.iconst 1, 1) := by decide +kernel
theorem d_M_rowAt_45 : decode c_M_rowAt 45 = .ok (.if_icmp .ne 9, 3) := by decide +kernel
theorem d_M_rowAt_48 : decode c_M_rowAt 48 = .ok (.iinc 3 1, 3) := by decide +kernel
theorem d_M_rowAt_51 : decode c_M_rowAt 51 = .ok (.goto (-24), 3) := by decide +kernel
theorem d_M_rowAt_54 : decode c_M_rowAt 54 = .ok (.iload_n 3, 1) := by decide +kernel
theorem d_M_rowAt_55 : decode c_M_rowAt 55 = .ok (.ireturn, 1) := by decide +kernel
theorem d_M_putRest_0 : decode c_M_putRest 0 = .ok (.iload_n 2, 1) := by decide +kernel
theorem d_M_putRest_1 : decode c_M_putRest 1 = .ok (.istore_n 3, 1) := by decide +kernel
theorem d_M_putRest_2 : decode c_M_putRest 2 = .ok (.aload_n 0, 1) := by decide +kernel
theorem d_M_putRest_3 : decode c_M_putRest 3 = .ok (.getfield 92, 3) := by decide +kernel
theorem d_M_putRest_6 : decode c_M_putRest 6 = .ok (.ifCond .le 153, 3) := by decide +kernel
theorem d_M_putRest_9 : decode c_M_putRest 9 = .ok (.iconst 0, 1) := by decide +kernel
theorem d_M_putRest_10 : decode c_M_putRest 10 = .ok (.istore 4, 2) := by decide +kernel
theorem d_M_putRest_12 : decode c_M_putRest 12 = .ok (.iconst 0, 1) := by decide +kernel
theorem d_M_putRest_13 : decode c_M_putRest 13 = .ok (.istore 5, 2) := by decide +kernel
theorem d_M_putRest_15 : decode c_M_putRest 15 = .ok (.iload 5, 2) := by decide +kernel
theorem d_M_putRest_17 : decode c_M_putRest 17 = .ok (.aload_n 0, 1) := by decide +kernel
theorem d_M_putRest_18 : decode c_M_putRest 18 = .ok (.getfield 56, 3) := by decide +kernel
theorem d_M_putRest_21 : decode c_M_putRest 21 = .ok (.if_icmp .ge 33, 3) := by decide +kernel
theorem d_M_putRest_24 : decode c_M_putRest 24 = .ok (.iload 4, 2) := by decide +kernel
theorem d_M_putRest_26 : decode c_M_putRest 26 = .ok (.aload_n 0, 1) := by decide +kernel
theorem d_M_putRest_27 : decode c_M_putRest 27 = .ok (.iload_n 2, 1) := by decide +kernel
theorem d_M_putRest_28 : decode c_M_putRest 28 = .ok (.iload 5, 2) := by decide +kernel
theorem d_M_putRest_30 : decode c_M_putRest 30 = .ok (.invokevirtual 95, 3) := by decide +kernel
theorem d_M_putRest_33 : decode c_M_putRest 33 = .ok (.aload_n 0, 1) := by decide +kernel
theorem d_M_putRest_34 : decode c_M_putRest 34 = .ok (.getfield 92, 3) := by decide +kernel
theorem d_M_putRest_37 : decode c_M_putRest 37 = .ok (.if_icmp .lt 7, 3) := by decide +kernel
theorem d_M_putRest_40 : decode c_M_putRest 40 = .ok (.iconst 1, 1) := by decide +kernel
theorem d_M_putRest_41 : decode c_M_putRest 41 = .ok (.goto 4, 3) := by decide +kernel
theorem d_M_putRest_44 : decode c_M_putRest 44 = .ok (.iconst 0, 1) := by decide +kernel
theorem d_M_putRest_45 : decode c_M_putRest 45 = .ok (.iadd, 1) := by decide +kernel
theorem d_M_putRest_46 : decode c_M_putRest 46 = .ok (.istore 4, 2) := by decide +kernel
theorem d_M_putRest_48 : decode c_M_putRest 48 = .ok (.iinc 5 1, 3) := by decide +kernel
theorem d_M_putRest_51 : decode c_M_putRest 51 = .ok (.goto (-36), 3) := by decide +kernel
theorem d_M_putRest_54 : decode c_M_putRest 54 = .ok (.aload_n 0, 1) := by decide +kernel
theorem d_M_putRest_55 : decode c_M_putRest 55 = .ok (.iload 4, 2) := by decide +kernel
theorem d_M_putRest_57 : decode c_M_putRest 57 = .ok (.invokevirtual 89, 3) := by decide +kernel
theorem d_M_putRest_60 : decode c_M_putRest 60 = .ok (.iconst (-1), 1) := by decide +kernel
theorem d_M_putRest_61 : decode c_M_putRest 61 = .ok (.istore 5, 2) := by decide +kernel
theorem d_M_putRest_63 : decode c_M_putRest 63 = .ok (.iconst 0, 1) := by decide +kernel
theorem d_M_putRest_64 : decode c_M_putRest 64 = .ok (.istore 6, 2) := by decide +kernel
theorem d_M_putRest_66 : decode c_M_putRest 66 = .ok (.iload 6, 2) := by decide +kernel
theorem d_M_putRest_68 : decode c_M_putRest 68 = .ok (.aload_n 0, 1) := by decide +kernel
theorem d_M_putRest_69 : decode c_M_putRest 69 = .ok (.getfield 56, 3) := by decide +kernel
theorem d_M_putRest_72 : decode c_M_putRest 72 = .ok (.if_icmp .ge 87, 3) := by decide +kernel
theorem d_M_putRest_75 : decode c_M_putRest 75 = .ok (.aload_n 0, 1) := by decide +kernel
theorem d_M_putRest_76 : decode c_M_putRest 76 = .ok (.iload_n 2, 1) := by decide +kernel
theorem d_M_putRest_77 : decode c_M_putRest 77 = .ok (.iload 6, 2) := by decide +kernel
theorem d_M_putRest_79 : decode c_M_putRest 79 = .ok (.invokevirtual 95, 3) := by decide +kernel
theorem d_M_putRest_82 : decode c_M_putRest 82 = .ok (.istore 7, 2) := by decide +kernel
theorem d_M_putRest_84 : decode c_M_putRest 84 = .ok (.iload 7, 2) := by decide +kernel
theorem d_M_putRest_86 : decode c_M_putRest 86 = .ok (.aload_n 0, 1) := by decide +kernel
theorem d_M_putRest_87 : decode c_M_putRest 87 = .ok (.getfield 92, 3) := by decide +kernel
theorem d_M_putRest_90 : decode c_M_putRest 90 = .ok (.if_icmp .lt 63, 3) := by decide +kernel
theorem d_M_putRest_93 : decode c_M_putRest 93 = .ok (.aload_n 0, 1) := by decide +kernel
theorem d_M_putRest_94 : decode c_M_putRest 94 = .ok (.iload 5, 2) := by decide +kernel
theorem d_M_putRest_96 : decode c_M_putRest 96 = .ok (.ifCond .ge 13, 3) := by decide +kernel
theorem d_M_putRest_99 : decode c_M_putRest 99 = .ok (.iload 6, 2) := by decide +kernel
theorem d_M_putRest_101 : decode c_M_putRest 101 = .ok (.iload_n 1, 1) := by decide +kernel
theorem d_M_putRest_102 : decode c_M_putRest 102 = .ok (.isub, 1) := by decide +kernel
theorem d_M_putRest_103 : decode c_M_putRest 103 = .ok (.invokestatic 99, 3) := by decide +kernel
theorem d_M_putRest_106 : decode c_M_putRest 106 = .ok (.goto 10, 3) := by decide +kernel
theorem d_M_putRest_109 : decode c_M_putRest 109 = .ok (.iload 6, 2) := by decide +kernel
theorem d_M_putRest_111 : decode c_M_putRest 111 = .ok (.iload 5, 2) := by decide +kernel
theorem d_M_putRest_113 : decode c_M_putRest 113 = .ok (.isub, 1) := by decide +kernel
theorem d_M_putRest_114 : decode c_M_putRest 114 = .ok (.iconst 2, 1) := by decide +kernel
theorem d_M_putRest_115 : decode c_M_putRest 115 = .ok (.isub, 1) := by decide +kernel
theorem d_M_putRest_116 : decode c_M_putRest 116 = .ok (.invokevirtual 89, 3) := by decide +kernel
theorem d_M_putRest_119 : decode c_M_putRest 119 = .ok (.aload_n 0, 1) := by decide +kernel
theorem d_M_putRest_120 : decode c_M_putRest 120 = .ok (.iload 7, 2) := by decide +kernel
theorem d_M_putRest_122 : decode c_M_putRest 122 = .ok (.aload_n 0, 1) := by decide +kernel
theorem d_M_putRest_123 : decode c_M_putRest 123 = .ok (.getfield 92, 3) := by decide +kernel
theorem d_M_putRest_126 : decode c_M_putRest 126 = .ok (.isub, 1) := by decide +kernel
theorem d_M_putRest_127 : decode c_M_putRest 127 = .ok (.invokevirtual 89, 3) := by decide +kernel
theorem d_M_putRest_130 : decode c_M_putRest 130 = .ok (.iload 6, 2) := by decide +kernel
theorem d_M_putRest_132 : decode c_M_putRest 132 = .ok (.iload 7, 2) := by decide +kernel
theorem d_M_putRest_134 : decode c_M_putRest 134 = .ok (.iadd, 1) := by decide +kernel
theorem d_M_putRest_135 : decode c_M_putRest 135 = .ok (.iconst 1, 1) := by decide +kernel
theorem d_M_putRest_136 : decode c_M_putRest 136 = .ok (.isub, 1) := by decide +kernel
theorem d_M_putRest_137 : decode c_M_putRest 137 = .ok (.istore 5, 2) := by decide +kernel
theorem d_M_putRest_139 : decode c_M_putRest 139 = .ok (.iload_n 3, 1) := by decide +kernel
theorem d_M_putRest_140 : decode c_M_putRest 140 = .ok (.iconst 1, 1) := by decide +kernel
theorem d_M_putRest_141 : decode c_M_putRest 141 = .ok (.iload 7, 2) := by decide +kernel
theorem d_M_putRest_143 : decode c_M_putRest 143 = .ok (.ishl, 1) := by decide +kernel
theorem d_M_putRest_144 : decode c_M_putRest 144 = .ok (.iconst 1, 1) := by decide +kernel
theorem d_M_putRest_145 : decode c_M_putRest 145 = .ok (.isub, 1) := by decide +kernel
theorem d_M_putRest_146 : decode c_M_putRest 146 = .ok (.iload 6, 2) := by decide +kernel
theorem d_M_putRest_148 : decode c_M_putRest 148 = .ok (.ishl, 1) := by decide +kernel
theorem d_M_putRest_149 : decode c_M_putRest 149 = .ok (.iconst (-1), 1) := by decide +kernel
theorem d_M_putRest_150 : decode c_M_putRest 150 = .ok (.ixor, 1) := by decide +kernel
theorem d_M_putRest_151 : decode c_M_putRest 151 = .ok (.iand, 1) := by decide +kernel
theorem d_M_putRest_152 : decode c_M_putRest 152 = .ok (.istore_n 3, 1) := by decide +kernel
theorem d_M_putRest_153 : decode c_M_putRest 153 = .ok (.iinc 6 1, 3) := by decide +kernel
theorem d_M_putRest_156 : decode c_M_putRest 156 = .ok (.goto (-90), 3) := by decide +kernel
theorem d_M_putRest_159 : decode c_M_putRest 159 = .ok (.iconst (-1), 1) := by decide +kernel
theorem d_M_putRest_160 : decode c_M_putRest 160 = .ok (.istore 4, 2) := by decide +kernel
theorem d_M_putRest_162 : decode c_M_putRest 162 = .ok (.iconst 0, 1) := by decide +kernel
theorem d_M_putRest_163 : decode c_M_putRest 163 = .ok (.istore 5, 2) := by decide +kernel
theorem d_M_putRest_165 : decode c_M_putRest 165 = .ok (.iload 5, 2) := by decide +kernel
theorem d_M_putRest_167 : decode c_M_putRest 167 = .ok (.aload_n 0, 1) := by decide +kernel
theorem d_M_putRest_168 : decode c_M_putRest 168 = .ok (.getfield 56, 3) := by decide +kernel
theorem d_M_putRest_171 : decode c_M_putRest 171 = .ok (.if_icmp .ge 49, 3) := by decide +kernel
theorem d_M_putRest_174 : decode c_M_putRest 174 = .ok (.iload_n 3, 1) := by decide +kernel
theorem d_M_putRest_175 : decode c_M_putRest 175 = .ok (.iload 5, 2) := by decide +kernel
theorem d_M_putRest_177 : decode c_M_putRest 177 = .ok (.ishr, 1) := by decide +kernel
theorem d_M_putRest_178 : decode c_M_putRest 178 = .ok (.iconst 1, 1) := by decide +kernel
theorem d_M_putRest_179 : decode c_M_putRest 179 = .ok (.iand, 1) := by decide +kernel
theorem d_M_putRest_180 : decode c_M_putRest 180 = .ok (.iconst 1, 1) := by decide +kernel
theorem d_M_putRest_181 : decode c_M_putRest 181 = .ok (.if_icmp .ne 33, 3) := by decide +kernel
theorem d_M_putRest_184 : decode c_M_putRest 184 = .ok (.aload_n 0, 1) := by decide +kernel
theorem d_M_putRest_185 : decode c_M_putRest 185 = .ok (.iload 4, 2) := by decide +kernel
theorem d_M_putRest_187 : decode c_M_putRest 187 = .ok (.ifCond .ge 13, 3) := by decide +kernel
theorem d_M_putRest_190 : decode c_M_putRest 190 = .ok (.iload 5, 2) := by decide +kernel
theorem d_M_putRest_192 : decode c_M_putRest 192 = .ok (.iload_n 1, 1) := by decide +kernel
theorem d_M_putRest_193 : decode c_M_putRest 193 = .ok (.isub, 1) := by decide +kernel
theorem d_M_putRest_194 : decode c_M_putRest 194 = .ok (.invokestatic 99, 3) := by decide +kernel
theorem d_M_putRest_197 : decode c_M_putRest 197 = .ok (.goto 10, 3) := by decide +kernel
theorem d_M_putRest_200 : decode c_M_putRest 200 = .ok (.iload 5, 2) := by decide +kernel
theorem d_M_putRest_202 : decode c_M_putRest 202 = .ok (.iload 4, 2) := by decide +kernel
theorem d_M_putRest_204 : decode c_M_putRest 204 = .ok (.isub, 1) := by decide +kernel
theorem d_M_putRest_205 : decode c_M_putRest 205 = .ok (.iconst 1, 1) := by decide +kernel
theorem d_M_putRest_206 : decode c_M_putRest 206 = .ok (.isub, 1) := by decide +kernel
theorem d_M_putRest_207 : decode c_M_putRest 207 = .ok (.invokevirtual 103, 3) := by decide +kernel
theorem d_M_putRest_210 : decode c_M_putRest 210 = .ok (.iload 5, 2) := by decide +kernel
theorem d_M_putRest_212 : decode c_M_putRest 212 = .ok (.istore 4, 2) := by decide +kernel
theorem d_M_putRest_214 : decode c_M_putRest 214 = .ok (.iinc 5 1, 3) := by decide +kernel
theorem d_M_putRest_217 : decode c_M_putRest 217 = .ok (.goto (-52), 3) := by decide +kernel
theorem d_M_putRest_220 : decode c_M_putRest 220 = .ok (.return_, 1) := by decide +kernel
theorem d_M_putRecord_0 : decode c_M_putRecord 0 = .ok (.aload_n 0, 1) := by decide +kernel
theorem d_M_putRecord_1 : decode c_M_putRecord 1 = .ok (.getfield 7, 3) := by decide +kernel
theorem d_M_putRecord_4 : decode c_M_putRecord 4 = .ok (.iload_n 1, 1) := by decide +kernel
theorem d_M_putRecord_5 : decode c_M_putRecord 5 = .ok (.iaload, 1) := by decide +kernel
theorem d_M_putRecord_6 : decode c_M_putRecord 6 = .ok (.istore_n 3, 1) := by decide +kernel
theorem d_M_putRecord_7 : decode c_M_putRecord 7 = .ok (.aload_n 0, 1) := by decide +kernel
theorem d_M_putRecord_8 : decode c_M_putRecord 8 = .ok (.iload_n 3, 1) := by decide +kernel
theorem d_M_putRecord_9 : decode c_M_putRecord 9 = .ok (.invokestatic 106, 3) := by decide +kernel
theorem d_M_putRecord_12 : decode c_M_putRecord 12 = .ok (.invokevirtual 89, 3) := by decide +kernel
theorem d_M_putRecord_15 : decode c_M_putRecord 15 = .ok (.iload_n 3, 1) := by decide +kernel
theorem d_M_putRecord_16 : decode c_M_putRecord 16 = .ok (.ifCond .ne 4, 3) := by decide +kernel
theorem d_M_putRecord_19 : decode c_M_putRecord 19 = .ok (.return_, 1) := by decide +kernel
theorem d_M_putRecord_20 : decode c_M_putRecord 20 = .ok (.aload_n 0, 1) := by decide +kernel
theorem d_M_putRecord_21 : decode c_M_putRecord 21 = .ok (.getfield 109, 3) := by decide +kernel
theorem d_M_putRecord_24 : decode c_M_putRecord 24 = .ok (.ifCond .le 8, 3) := by decide +kernel
theorem d_M_putRecord_27 : decode c_M_putRecord 27 = .ok (.aload_n 0, 1) := by decide +kernel
theorem d_M_putRecord_28 : decode c_M_putRecord 28 = .ok (.iload_n 2, 1) := by decide +kernel
theorem d_M_putRecord_29 : decode c_M_putRecord 29 = .ok (.invokevirtual 79, 3) := by decide +kernel
theorem d_M_putRecord_32 : decode c_M_putRecord 32 = .ok (.iload_n 3, 1) := by decide +kernel
theorem d_M_putRecord_33 : decode c_M_putRecord 33 = .ok (.istore 4, 2) := by decide +kernel
theorem d_M_putRecord_35 : decode c_M_putRecord 35 = .ok (.iload_n 2, 1) := by decide +kernel
theorem d_M_putRecord_36 : decode c_M_putRecord 36 = .ok (.ifCond .le 30, 3) := by decide +kernel
theorem d_M_putRecord_39 : decode c_M_putRecord 39 = .ok (.aload_n 0, 1) := by decide +kernel
theorem d_M_putRecord_40 : decode c_M_putRecord 40 = .ok (.iload_n 3, 1) := by decide +kernel
theorem d_M_putRecord_41 : decode c_M_putRecord 41 = .ok (.aload_n 0, 1) := by decide +kernel
theorem d_M_putRecord_42 : decode c_M_putRecord 42 = .ok (.getfield 7, 3) := by decide +kernel
theorem d_M_putRecord_45 : decode c_M_putRecord 45 = .ok (.iload_n 1, 1) := by decide +kernel
theorem d_M_putRecord_46 : decode c_M_putRecord 46 = .ok (.iload_n 2, 1) := by decide +kernel
theorem d_M_putRecord_47 : decode c_M_putRecord 47 = .ok (.isub, 1) := by decide +kernel
theorem d_M_putRecord_48 : decode c_M_putRecord 48 = .ok (.iaload, 1) := by decide +kernel
theorem d_M_putRecord_49 : decode c_M_putRecord 49 = .ok (.invokevirtual 112, 3) := by decide +kernel
theorem d_M_putRecord_52 : decode c_M_putRecord 52 = .ok (.iload_n 3, 1) := by decide +kernel
theorem d_M_putRecord_53 : decode c_M_putRecord 53 = .ok (.aload_n 0, 1) := by decide +kernel
theorem d_M_putRecord_54 : decode c_M_putRecord 54 = .ok (.getfield 7, 3) := by decide +kernel
theorem d_M_putRecord_57 : decode c_M_putRecord 57 = .ok (.iload_n 1, 1) := by decide +kernel
theorem d_M_putRecord_58 : decode c_M_putRecord 58 = .ok (.iload_n 2, 1) := by decide +kernel
theorem d_M_putRecord_59 : decode c_M_putRecord 59 = .ok (.isub, 1) := by decide +kernel
theorem d_M_putRecord_60 : decode c_M_putRecord 60 = .ok (.iaload, 1) := by decide +kernel
theorem d_M_putRecord_61 : decode c_M_putRecord 61 = .ok (.iconst (-1), 1) := by decide +kernel
theorem d_M_putRecord_62 : decode c_M_putRecord 62 = .ok (.ixor, 1) := by decide +kernel
theorem d_M_putRecord_63 : decode c_M_putRecord 63 = .ok (.iand, 1) := by decide +kernel
theorem d_M_putRecord_64 : decode c_M_putRecord 64 = .ok (.istore 4, 2) := by decide +kernel
theorem d_M_putRecord_66 : decode c_M_putRecord 66 = .ok (.iload 4, 2) := by decide +kernel
theorem d_M_putRecord_68 : decode c_M_putRecord 68 = .ok (.ifCond .eq 10, 3) := by decide +kernel
theorem d_M_putRecord_71 : decode c_M_putRecord 71 = .ok (.aload_n 0, 1) := by decide +kernel
theorem d_M_putRecord_72 : decode c_M_putRecord 72 = .ok (.iload_n 1, 1) := by decide +kernel
theorem d_M_putRecord_73 : decode c_M_putRecord 73 = .ok (.iload 4, 2) := by decide +kernel
theorem d_M_putRecord_75 : decode c_M_putRecord 75 = .ok (.invokevirtual 115, 3) := by decide +kernel
theorem d_M_putRecord_78 : decode c_M_putRecord 78 = .ok (.return_, 1) := by decide +kernel
theorem d_M_pack_0 : decode c_M_pack 0 = .ok (.iload_n 1, 1) := by decide +kernel
theorem d_M_pack_1 : decode c_M_pack 1 = .ok (.ifCond .lt 40, 3) := by decide +kernel
theorem d_M_pack_4 : decode c_M_pack 4 = .ok (.iload_n 1, 1) := by decide +kernel
theorem d_M_pack_5 : decode c_M_pack 5 = .ok (.bipush 6, 2) := by decide +kernel
theorem d_M_pack_7 : decode c_M_pack 7 = .ok (.if_icmp .gt 34, 3) := by decide +kernel
theorem d_M_pack_10 : decode c_M_pack 10 = .ok (.iload_n 2, 1) := by decide +kernel
theorem d_M_pack_11 : decode c_M_pack 11 = .ok (.ifCond .lt 30, 3) := by decide +kernel
theorem d_M_pack_14 : decode c_M_pack 14 = .ok (.iload_n 2, 1) := by decide +kernel
theorem d_M_pack_15 : decode c_M_pack 15 = .ok (.iconst 3, 1) := by decide +kernel
theorem d_M_pack_16 : decode c_M_pack 16 = .ok (.if_icmp .gt 25, 3) := by decide +kernel
theorem d_M_pack_19 : decode c_M_pack 19 = .ok (.iload_n 3, 1) := by decide +kernel
theorem d_M_pack_20 : decode c_M_pack 20 = .ok (.ifCond .lt 21, 3) := by decide +kernel
theorem d_M_pack_23 : decode c_M_pack 23 = .ok (.iload_n 3, 1) := by decide +kernel
theorem d_M_pack_24 : decode c_M_pack 24 = .ok (.bipush 9, 2) := by decide +kernel
theorem d_M_pack_26 : decode c_M_pack 26 = .ok (.if_icmp .gt 15, 3) := by decide +kernel
theorem d_M_pack_29 : decode c_M_pack 29 = .ok (.iload 4, 2) := by decide +kernel
theorem d_M_pack_31 : decode c_M_pack 31 = .ok (.iconst 1, 1) := by decide +kernel
theorem d_M_pack_32 : decode c_M_pack 32 = .ok (.if_icmp .lt 9, 3) := by decide +kernel
theorem d_M_pack_35 : decode c_M_pack 35 = .ok (.iload 4, 2) := by decide +kernel
theorem d_M_pack_37 : decode c_M_pack 37 = .ok (.iconst 4, 1) := by decide +kernel
theorem d_M_pack_38 : decode c_M_pack 38 = .ok (.if_icmp .le 5, 3) := by decide +kernel
theorem d_M_pack_41 : decode c_M_pack 41 = .ok (.iconst (-1), 1) := by decide +kernel
theorem d_M_pack_42 : decode c_M_pack 42 = .ok (.ireturn, 1) := by decide +kernel
theorem d_M_pack_43 : decode c_M_pack 43 = .ok (.aload_n 0, 1) := by decide +kernel
theorem d_M_pack_44 : decode c_M_pack 44 = .ok (.iload_n 1, 1) := by decide +kernel
theorem d_M_pack_45 : decode c_M_pack 45 = .ok (.putfield 109, 3) := by decide +kernel
theorem d_M_pack_48 : decode c_M_pack 48 = .ok (.aload_n 0, 1) := by decide +kernel
theorem d_M_pack_49 : decode c_M_pack 49 = .ok (.iload_n 2, 1) := by decide +kernel
theorem d_M_pack_50 : decode c_M_pack 50 = .ok (.putfield 118, 3) := by decide +kernel
theorem d_M_pack_53 : decode c_M_pack 53 = .ok (.aload_n 0, 1) := by decide +kernel
theorem d_M_pack_54 : decode c_M_pack 54 = .ok (.iload_n 3, 1) := by decide +kernel
theorem d_M_pack_55 : decode c_M_pack 55 = .ok (.putfield 92, 3) := by decide +kernel
theorem d_M_pack_58 : decode c_M_pack 58 = .ok (.aload_n 0, 1) := by decide +kernel
theorem d_M_pack_59 : decode c_M_pack 59 = .ok (.iload 4, 2) := by decide +kernel
theorem d_M_pack_61 : decode c_M_pack 61 = .ok (.putfield 86, 3) := by decide +kernel
theorem d_M_pack_64 : decode c_M_pack 64 = .ok (.aload_n 0, 1) := by decide +kernel
theorem d_M_pack_65 : decode c_M_pack 65 = .ok (.iconst 0, 1) := by decide +kernel
theorem d_M_pack_66 : decode c_M_pack 66 = .ok (.putfield 72, 3) := by decide +kernel
theorem d_M_pack_69 : decode c_M_pack 69 = .ok (.iconst 0, 1) := by decide +kernel
theorem d_M_pack_70 : decode c_M_pack 70 = .ok (.istore 5, 2) := by decide +kernel
theorem d_M_pack_72 : decode c_M_pack 72 = .ok (.iload 5, 2) := by decide +kernel
theorem d_M_pack_74 : decode c_M_pack 74 = .ok (.aload_n 0, 1) := by decide +kernel
theorem d_M_pack_75 : decode c_M_pack 75 = .ok (.getfield 56, 3) := by decide +kernel
theorem d_M_pack_78 : decode c_M_pack 78 = .ok (.if_icmp .ge 203, 3) := by decide +kernel
theorem d_M_pack_81 : decode c_M_pack 81 = .ok (.aload_n 0, 1) := by decide +kernel
theorem d_M_pack_82 : decode c_M_pack 82 = .ok (.getfield 16, 3) := by decide +kernel
theorem d_M_pack_85 : decode c_M_pack 85 = .ok (.iload 5, 2) := by decide +kernel
theorem d_M_pack_87 : decode c_M_pack 87 = .ok (.aload_n 0, 1) := by decide +kernel
theorem d_M_pack_88 : decode c_M_pack 88 = .ok (.getfield 72, 3) := by decide +kernel
theorem d_M_pack_91 : decode c_M_pack 91 = .ok (.iastore, 1) := by decide +kernel
theorem d_M_pack_92 : decode c_M_pack 92 = .ok (.iconst 0, 1) := by decide +kernel
theorem d_M_pack_93 : decode c_M_pack 93 = .ok (.istore 6, 2) := by decide +kernel
theorem d_M_pack_95 : decode c_M_pack 95 = .ok (.ldc 121, 2) := by decide +kernel
theorem d_M_pack_97 : decode c_M_pack 97 = .ok (.istore 7, 2) := by decide +kernel
theorem d_M_pack_99 : decode c_M_pack 99 = .ok (.iconst 0, 1) := by decide +kernel
theorem d_M_pack_100 : decode c_M_pack 100 = .ok (.istore 8, 2) := by decide +kernel
theorem d_M_pack_102 : decode c_M_pack 102 = .ok (.iload 8, 2) := by decide +kernel
theorem d_M_pack_104 : decode c_M_pack 104 = .ok (.aload_n 0, 1) := by decide +kernel
theorem d_M_pack_105 : decode c_M_pack 105 = .ok (.getfield 109, 3) := by decide +kernel
theorem d_M_pack_108 : decode c_M_pack 108 = .ok (.if_icmp .gt 131, 3) := by decide +kernel
theorem d_M_pack_111 : decode c_M_pack 111 = .ok (.iload 8, 2) := by decide +kernel
theorem d_M_pack_113 : decode c_M_pack 113 = .ok (.iload 5, 2) := by decide +kernel
theorem d_M_pack_115 : decode c_M_pack 115 = .ok (.if_icmp .gt 124, 3) := by decide +kernel
theorem d_M_pack_118 : decode c_M_pack 118 = .ok (.iload 8, 2) := by decide +kernel
theorem d_M_pack_120 : decode c_M_pack 120 = .ok (.ifCond .eq 13, 3) := by decide +kernel
theorem d_M_pack_123 : decode c_M_pack 123 = .ok (.aload_n 0, 1) := by decide +kernel
theorem d_M_pack_124 : decode c_M_pack 124 = .ok (.getfield 7, 3) := by decide +kernel
theorem d_M_pack_127 : decode c_M_pack 127 = .ok (.iload 5, 2) := by decide +kernel
theorem d_M_pack_129 : decode c_M_pack 129 = .ok (.iaload, 1) := by decide +kernel
theorem d_M_pack_130 : decode c_M_pack 130 = .ok (.ifCond .eq 109, 3) := by decide +kernel
theorem d_M_pack_133 : decode c_M_pack 133 = .ok (.iload 8, 2) := by decide +kernel
theorem d_M_pack_135 : decode c_M_pack 135 = .ok (.ifCond .eq 33, 3) := by decide +kernel
theorem d_M_pack_138 : decode c_M_pack 138 = .ok (.aload_n 0, 1) := by decide +kernel
theorem d_M_pack_139 : decode c_M_pack 139 = .ok (.getfield 7, 3) := by decide +kernel
theorem d_M_pack_142 : decode c_M_pack 142 = .ok (.iload 5, 2) := by decide +kernel
theorem d_M_pack_144 : decode c_M_pack 144 = .ok (.iload 8, 2) := by decide +kernel
theorem d_M_pack_146 : decode c_M_pack 146 = .ok (.isub, 1) := by decide +kernel
theorem d_M_pack_147 : decode c_M_pack 147 = .ok (.iaload, 1) := by decide +kernel
theorem d_M_pack_148 : decode c_M_pack 148 = .ok (.ifCond .eq 85, 3) := by decide +kernel
theorem d_M_pack_151 : decode c_M_pack 151 = .ok (.aload_n 0, 1) := by decide +kernel
theorem d_M_pack_152 : decode c_M_pack 152 = .ok (.getfield 19, 3) := by decide +kernel
theorem d_M_pack_155 : decode c_M_pack 155 = .ok (.iload 5, 2) := by decide +kernel
theorem d_M_pack_157 : decode c_M_pack 157 = .ok (.iload 8, 2) := by decide +kernel
theorem d_M_pack_159 : decode c_M_pack 159 = .ok (.isub, 1) := by decide +kernel
theorem d_M_pack_160 : decode c_M_pack 160 = .ok (.iaload, 1) := by decide +kernel
theorem d_M_pack_161 : decode c_M_pack 161 = .ok (.aload_n 0, 1) := by decide +kernel
theorem d_M_pack_162 : decode c_M_pack 162 = .ok (.getfield 118, 3) := by decide +kernel
theorem d_M_pack_165 : decode c_M_pack 165 = .ok (.if_icmp .ge 68, 3) := by decide +kernel
theorem d_M_pack_168 : decode c_M_pack 168 = .ok (.aload_n 0, 1) := by decide +kernel
theorem d_M_pack_169 : decode c_M_pack 169 = .ok (.iload 5, 2) := by decide +kernel
theorem d_M_pack_171 : decode c_M_pack 171 = .ok (.iload 8, 2) := by decide +kernel
theorem d_M_pack_173 : decode c_M_pack 173 = .ok (.invokevirtual 122, 3) := by decide +kernel
theorem d_M_pack_176 : decode c_M_pack 176 = .ok (.aload_n 0, 1) := by decide +kernel
theorem d_M_pack_177 : decode c_M_pack 177 = .ok (.getfield 72, 3) := by decide +kernel
theorem d_M_pack_180 : decode c_M_pack 180 = .ok (.aload_n 0, 1) := by decide +kernel
theorem d_M_pack_181 : decode c_M_pack 181 = .ok (.getfield 16, 3) := by decide +kernel
theorem d_M_pack_184 : decode c_M_pack 184 = .ok (.iload 5, 2) := by decide +kernel
theorem d_M_pack_186 : decode c_M_pack 186 = .ok (.iaload, 1) := by decide +kernel
theorem d_M_pack_187 : decode c_M_pack 187 = .ok (.isub, 1) := by decide +kernel
theorem d_M_pack_188 : decode c_M_pack 188 = .ok (.istore 9, 2) := by decide +kernel
theorem d_M_pack_190 : decode c_M_pack 190 = .ok (.aload_n 0, 1) := by decide +kernel
theorem d_M_pack_191 : decode c_M_pack 191 = .ok (.aload_n 0, 1) := by decide +kernel
theorem d_M_pack_192 : decode c_M_pack 192 = .ok (.getfield 16, 3) := by decide +kernel
theorem d_M_pack_195 : decode c_M_pack 195 = .ok (.iload 5, 2) := by decide +kernel
theorem d_M_pack_197 : decode c_M_pack 197 = .ok (.iaload, 1) := by decide +kernel
theorem d_M_pack_198 : decode c_M_pack 198 = .ok (.putfield 72, 3) := by decide +kernel
theorem d_M_pack_201 : decode c_M_pack 201 = .ok (.iload 9, 2) := by decide +kernel
theorem d_M_pack_203 : decode c_M_pack 203 = .ok (.iload 7, 2) := by decide +kernel
theorem d_M_pack_205 : decode c_M_pack 205 = .ok (.if_icmp .ge 8, 3) := by decide +kernel
theorem d_M_pack_208 : decode c_M_pack 208 = .ok (.iload 8, 2) := by decide +kernel
theorem d_M_pack_210 : decode c_M_pack 210 = .ok (.goto 5, 3) := by decide +kernel
theorem d_M_pack_213 : decode c_M_pack 213 = .ok (.iload 6, 2) := by decide +kernel
theorem d_M_pack_215 : decode c_M_pack 215 = .ok (.istore 6, 2) := by decide +kernel
theorem d_M_pack_217 : decode c_M_pack 217 = .ok (.iload 9, 2) := by decide +kernel
theorem d_M_pack_219 : decode c_M_pack 219 = .ok (.iload 7, 2) := by decide +kernel
theorem d_M_pack_221 : decode c_M_pack 221 = .ok (.if_icmp .ge 8, 3) := by decide +kernel
theorem d_M_pack_224 : decode c_M_pack 224 = .ok (.iload 9, 2) := by decide +kernel
theorem d_M_pack_226 : decode c_M_pack 226 = .ok (.goto 5, 3) := by decide +kernel
theorem d_M_pack_229 : decode c_M_pack 229 = .ok (.iload 7, 2) := by decide +kernel
theorem d_M_pack_231 : decode c_M_pack 231 = .ok (.istore 7, 2) := by decide +kernel
theorem d_M_pack_233 : decode c_M_pack 233 = .ok (.iinc 8 1, 3) := by decide +kernel
theorem d_M_pack_236 : decode c_M_pack 236 = .ok (.goto (-134), 3) := by decide +kernel
theorem d_M_pack_239 : decode c_M_pack 239 = .ok (.aload_n 0, 1) := by decide +kernel
theorem d_M_pack_240 : decode c_M_pack 240 = .ok (.iload 5, 2) := by decide +kernel
theorem d_M_pack_242 : decode c_M_pack 242 = .ok (.iload 6, 2) := by decide +kernel
theorem d_M_pack_244 : decode c_M_pack 244 = .ok (.invokevirtual 122, 3) := by decide +kernel
theorem d_M_pack_247 : decode c_M_pack 247 = .ok (.aload_n 0, 1) := by decide +kernel
theorem d_M_pack_248 : decode c_M_pack 248 = .ok (.getfield 19, 3) := by decide +kernel
theorem d_M_pack_251 : decode c_M_pack 251 = .ok (.iload 5, 2) := by decide +kernel
theorem d_M_pack_253 : decode c_M_pack 253 = .ok (.iload 6, 2) := by decide +kernel
theorem d_M_pack_255 : decode c_M_pack 255 = .ok (.ifCond .le 18, 3) := by decide +kernel
theorem d_M_pack_258 : decode c_M_pack 258 = .ok (.iconst 1, 1) := by decide +kernel
theorem d_M_pack_259 : decode c_M_pack 259 = .ok (.aload_n 0, 1) := by decide +kernel
theorem d_M_pack_260 : decode c_M_pack 260 = .ok (.getfield 19, 3) := by decide +kernel
theorem d_M_pack_263 : decode c_M_pack 263 = .ok (.iload 5, 2) := by decide +kernel
theorem d_M_pack_265 : decode c_M_pack 265 = .ok (.iload 6, 2) := by decide +kernel
theorem d_M_pack_267 : decode c_M_pack 267 = .ok (.isub, 1) := by decide +kernel
theorem d_M_pack_268 : decode c_M_pack 268 = .ok (.iaload, 1) := by decide +kernel
theorem d_M_pack_269 : decode c_M_pack 269 = .ok (.iadd, 1) := by decide +kernel
theorem d_M_pack_270 : decode c_M_pack 270 = .ok (.goto 4, 3) := by decide +kernel
theorem d_M_pack_273 : decode c_M_pack 273 = .ok (.iconst 0, 1) := by decide +kernel
theorem d_M_pack_274 : decode c_M_pack 274 = .ok (.iastore, 1) := by decide +kernel
theorem d_M_pack_275 : decode c_M_pack 275 = .ok (.iinc 5 1, 3) := by decide +kernel
theorem d_M_pack_278 : decode c_M_pack 278 = .ok (.goto (-206), 3) := by decide +kernel
theorem d_M_pack_281 : decode c_M_pack 281 = .ok (.aload_n 0, 1) := by decide +kernel
theorem d_M_pack_282 : decode c_M_pack 282 = .ok (.getfield 16, 3) := by decide +kernel
theorem d_M_pack_285 : decode c_M_pack 285 = .ok (.aload_n 0, 1) := by decide +kernel
theorem d_M_pack_286 : decode c_M_pack 286 = .ok (.getfield 56, 3) := by decide +kernel
theorem d_M_pack_289 : decode c_M_pack 289 = .ok (.aload_n 0, 1) := by decide +kernel
theorem d_M_pack_290 : decode c_M_pack 290 = .ok (.getfield 72, 3) := by decide +kernel
theorem d_M_pack_293 : decode c_M_pack 293 = .ok (.iastore, 1) := by decide +kernel
theorem d_M_pack_294 : decode c_M_pack 294 = .ok (.aload_n 0, 1) := by decide +kernel
theorem d_M_pack_295 : decode c_M_pack 295 = .ok (.getfield 72, 3) := by decide +kernel
theorem d_M_pack_298 : decode c_M_pack 298 = .ok (.ireturn, 1) := by decide +kernel
theorem d_M_offset_0 : decode c_M_offset 0 = .ok (.iload_n 1, 1) := by decide +kernel
theorem d_M_offset_1 : decode c_M_offset 1 = .ok (.ifCond .lt 20, 3) := by decide +kernel
theorem d_M_offset_4 : decode c_M_offset 4 = .ok (.iload_n 1, 1) := by decide +kernel
theorem d_M_offset_5 : decode c_M_offset 5 = .ok (.aload_n 0, 1) := by decide +kernel
theorem d_M_offset_6 : decode c_M_offset 6 = .ok (.getfield 56, 3) := by decide +kernel
theorem d_M_offset_9 : decode c_M_offset 9 = .ok (.if_icmp .gt 12, 3) := by decide +kernel
theorem d_M_offset_12 : decode c_M_offset 12 = .ok (.aload_n 0, 1) := by decide +kernel
theorem d_M_offset_13 : decode c_M_offset 13 = .ok (.getfield 16, 3) := by decide +kernel
theorem d_M_offset_16 : decode c_M_offset 16 = .ok (.iload_n 1, 1) := by decide +kernel
theorem d_M_offset_17 : decode c_M_offset 17 = .ok (.iaload, 1) := by decide +kernel
theorem d_M_offset_18 : decode c_M_offset 18 = .ok (.goto 4, 3) := by decide +kernel
theorem d_M_offset_21 : decode c_M_offset 21 = .ok (.iconst (-1), 1) := by decide +kernel
theorem d_M_offset_22 : decode c_M_offset 22 = .ok (.ireturn, 1) := by decide +kernel
theorem d_M_bit_0 : decode c_M_bit 0 = .ok (.iload_n 1, 1) := by decide +kernel
theorem d_M_bit_1 : decode c_M_bit 1 = .ok (.ifCond .lt 20, 3) := by decide +kernel
theorem d_M_bit_4 : decode c_M_bit 4 = .ok (.iload_n 1, 1) := by decide +kernel
theorem d_M_bit_5 : decode c_M_bit 5 = .ok (.aload_n 0, 1) := by decide +kernel
theorem d_M_bit_6 : decode c_M_bit 6 = .ok (.getfield 72, 3) := by decide +kernel
theorem d_M_bit_9 : decode c_M_bit 9 = .ok (.if_icmp .ge 12, 3) := by decide +kernel
theorem d_M_bit_12 : decode c_M_bit 12 = .ok (.aload_n 0, 1) := by decide +kernel
theorem d_M_bit_13 : decode c_M_bit 13 = .ok (.getfield 13, 3) := by decide +kernel
theorem d_M_bit_16 : decode c_M_bit 16 = .ok (.iload_n 1, 1) := by decide +kernel
theorem d_M_bit_17 : decode c_M_bit 17 = .ok (.iaload, 1) := by decide +kernel
theorem d_M_bit_18 : decode c_M_bit 18 = .ok (.goto 4, 3) := by decide +kernel
theorem d_M_bit_21 : decode c_M_bit 21 = .ok (.iconst (-1), 1) := by decide +kernel
theorem d_M_bit_22 : decode c_M_bit 22 = .ok (.ireturn, 1) := by decide +kernel
theorem d_M_flip_0 : decode c_M_flip 0 = .ok (.iload_n 1, 1) := by decide +kernel
theorem d_M_flip_1 : decode c_M_flip 1 = .ok (.ifCond .lt 11, 3) := by decide +kernel
theorem d_M_flip_4 : decode c_M_flip 4 = .ok (.iload_n 1, 1) := by decide +kernel
theorem d_M_flip_5 : decode c_M_flip 5 = .ok (.aload_n 0, 1) := by decide +kernel
theorem d_M_flip_6 : decode c_M_flip 6 = .ok (.getfield 72, 3) := by decide +kernel
theorem d_M_flip_9 : decode c_M_flip 9 = .ok (.if_icmp .lt 5, 3) := by decide +kernel
theorem d_M_flip_12 : decode c_M_flip 12 = .ok (.iconst 0, 1) := by decide +kernel
theorem d_M_flip_13 : decode c_M_flip 13 = .ok (.ireturn, 1) := by decide +kernel
theorem d_M_flip_14 : decode c_M_flip 14 = .ok (.aload_n 0, 1) := by decide +kernel
theorem d_M_flip_15 : decode c_M_flip 15 = .ok (.getfield 13, 3) := by decide +kernel
theorem d_M_flip_18 : decode c_M_flip 18 = .ok (.iload_n 1, 1) := by decide +kernel
theorem d_M_flip_19 : decode c_M_flip 19 = .ok (.iconst 1, 1) := by decide +kernel
theorem d_M_flip_20 : decode c_M_flip 20 = .ok (.aload_n 0, 1) := by decide +kernel
theorem d_M_flip_21 : decode c_M_flip 21 = .ok (.getfield 13, 3) := by decide +kernel
theorem d_M_flip_24 : decode c_M_flip 24 = .ok (.iload_n 1, 1) := by decide +kernel
theorem d_M_flip_25 : decode c_M_flip 25 = .ok (.iaload, 1) := by decide +kernel
theorem d_M_flip_26 : decode c_M_flip 26 = .ok (.isub, 1) := by decide +kernel
theorem d_M_flip_27 : decode c_M_flip 27 = .ok (.iastore, 1) := by decide +kernel
theorem d_M_flip_28 : decode c_M_flip 28 = .ok (.iconst 1, 1) := by decide +kernel
theorem d_M_flip_29 : decode c_M_flip 29 = .ok (.ireturn, 1) := by decide +kernel
theorem d_M_next_0 : decode c_M_next 0 = .ok (.aload_n 0, 1) := by decide +kernel
theorem d_M_next_1 : decode c_M_next 1 = .ok (.getfield 125, 3) := by decide +kernel
theorem d_M_next_4 : decode c_M_next 4 = .ok (.ifCond .gt 14, 3) := by decide +kernel
theorem d_M_next_7 : decode c_M_next 7 = .ok (.aload_n 0, 1) := by decide +kernel
theorem d_M_next_8 : decode c_M_next 8 = .ok (.getfield 128, 3) := by decide +kernel
theorem d_M_next_11 : decode c_M_next 11 = .ok (.aload_n 0, 1) := by decide +kernel
theorem d_M_next_12 : decode c_M_next 12 = .ok (.getfield 72, 3) := by decide +kernel
theorem d_M_next_15 : decode c_M_next 15 = .ok (.if_icmp .lt 24, 3) := by decide +kernel
theorem d_M_next_18 : decode c_M_next 18 = .ok (.aload_n 0, 1) := by decide +kernel
theorem d_M_next_19 : decode c_M_next 19 = .ok (.aload_n 0, 1) := by decide +kernel
theorem d_M_next_20 : decode c_M_next 20 = .ok (.getfield 125, 3) := by decide +kernel
theorem d_M_next_23 : decode c_M_next 23 = .ok (.ifCond .le 10, 3) := by decide +kernel
theorem d_M_next_26 : decode c_M_next 26 = .ok (.aload_n 0, 1) := by decide +kernel
theorem d_M_next_27 : decode c_M_next 27 = .ok (.getfield 125, 3) := by decide +kernel
theorem d_M_next_30 : decode c_M_next 30 = .ok (.goto 4, 3) := by decide +kernel
theorem d_M_next_33 : decode c_M_next 33 = .ok (.iconst 1, 1) := by decide +kernel
theorem d_M_next_34 : decode c_M_next 34 = .ok (.putfield 125, 3) := by decide +kernel
theorem d_M_next_37 : decode c_M_next 37 = .ok (.iconst 0, 1) := by decide +kernel
theorem d_M_next_38 : decode c_M_next 38 = .ok (.ireturn, 1) := by decide +kernel
theorem d_M_next_39 : decode c_M_next 39 = .ok (.aload_n 0, 1) := by decide +kernel
theorem d_M_next_40 : decode c_M_next 40 = .ok (.dup, 1) := by decide +kernel
theorem d_M_next_41 : decode c_M_next 41 = .ok (.getfield 128, 3) := by decide +kernel
theorem d_M_next_44 : decode c_M_next 44 = .ok (.iconst 1, 1) := by decide +kernel
theorem d_M_next_45 : decode c_M_next 45 = .ok (.iadd, 1) := by decide +kernel
theorem d_M_next_46 : decode c_M_next 46 = .ok (.putfield 128, 3) := by decide +kernel
theorem d_M_next_49 : decode c_M_next 49 = .ok (.aload_n 0, 1) := by decide +kernel
theorem d_M_next_50 : decode c_M_next 50 = .ok (.getfield 13, 3) := by decide +kernel
theorem d_M_next_53 : decode c_M_next 53 = .ok (.aload_n 0, 1) := by decide +kernel
theorem d_M_next_54 : decode c_M_next 54 = .ok (.getfield 128, 3) := by decide +kernel
theorem d_M_next_57 : decode c_M_next 57 = .ok (.iconst 1, 1) := by decide +kernel
theorem d_M_next_58 : decode c_M_next 58 = .ok (.isub, 1) := by decide +kernel
theorem d_M_next_59 : decode c_M_next 59 = .ok (.iaload, 1) := by decide +kernel
theorem d_M_next_60 : decode c_M_next 60 = .ok (.ireturn, 1) := by decide +kernel
theorem d_M_nextUnary_0 : decode c_M_nextUnary 0 = .ok (.iconst 0, 1) := by decide +kernel
theorem d_M_nextUnary_1 : decode c_M_nextUnary 1 = .ok (.istore_n 1, 1) := by decide +kernel
theorem d_M_nextUnary_2 : decode c_M_nextUnary 2 = .ok (.aload_n 0, 1) := by decide +kernel
theorem d_M_nextUnary_3 : decode c_M_nextUnary 3 = .ok (.getfield 125, 3) := by decide +kernel
theorem d_M_nextUnary_6 : decode c_M_nextUnary 6 = .ok (.ifCond .ne 34, 3) := by decide +kernel
theorem d_M_nextUnary_9 : decode c_M_nextUnary 9 = .ok (.aload_n 0, 1) := by decide +kernel
theorem d_M_nextUnary_10 : decode c_M_nextUnary 10 = .ok (.invokevirtual 131, 3) := by decide +kernel
theorem d_M_nextUnary_13 : decode c_M_nextUnary 13 = .ok (.ifCond .ne 27, 3) := by decide +kernel
theorem d_M_nextUnary_16 : decode c_M_nextUnary 16 = .ok (.iinc 1 1, 3) := by decide +kernel
theorem d_M_nextUnary_19 : decode c_M_nextUnary 19 = .ok (.aload_n 0, 1) := by decide +kernel
theorem d_M_nextUnary_20 : decode c_M_nextUnary 20 = .ok (.getfield 125, 3) := by decide +kernel
theorem d_M_nextUnary_23 : decode c_M_nextUnary 23 = .ok (.ifCond .ne (-21), 3) := by decide +kernel
theorem d_M_nextUnary_26 : decode c_M_nextUnary 26 = .ok (.iload_n 1, 1) := by decide +kernel
theorem d_M_nextUnary_27 : decode c_M_nextUnary 27 = .ok (.bipush 7, 2) := by decide +kernel
theorem d_M_nextUnary_29 : decode c_M_nextUnary 29 = .ok (.if_icmp .ne (-27), 3) := by decide +kernel
theorem d_M_nextUnary_32 : decode c_M_nextUnary 32 = .ok (.aload_n 0, 1) := by decide +kernel
theorem d_M_nextUnary_33 : decode c_M_nextUnary 33 = .ok (.iconst 2, 1) := by decide +kernel
theorem d_M_nextUnary_34 : decode c_M_nextUnary 34 = .ok (.putfield 125, 3) := by decide +kernel
theorem d_M_nextUnary_37 : decode c_M_nextUnary 37 = .ok (.goto (-35), 3) := by decide +kernel
theorem d_M_nextUnary_40 : decode c_M_nextUnary 40 = .ok (.aload_n 0, 1) := by decide +kernel
theorem d_M_nextUnary_41 : decode c_M_nextUnary 41 = .ok (.getfield 125, 3) := by decide +kernel
theorem d_M_nextUnary_44 : decode c_M_nextUnary 44 = .ok (.ifCond .le 7, 3) := by decide +kernel
theorem d_M_nextUnary_47 : decode c_M_nextUnary 47 = .ok (.iconst 0, 1) := by decide +kernel
theorem d_M_nextUnary_48 : decode c_M_nextUnary 48 = .ok (.goto 4, 3) := by decide +kernel
theorem d_M_nextUnary_51 : decode c_M_nextUnary 51 = .ok (.iload_n 1, 1) := by decide +kernel
theorem d_M_nextUnary_52 : decode c_M_nextUnary 52 = .ok (.ireturn, 1) := by decide +kernel
theorem d_M_nextNumber_0 : decode c_M_nextNumber 0 = .ok (.iconst 0, 1) := by decide +kernel
theorem d_M_nextNumber_1 : decode c_M_nextNumber 1 = .ok (.istore_n 2, 1) := by decide +kernel
theorem d_M_nextNumber_2 : decode c_M_nextNumber 2 = .ok (.iconst 0, 1) := by decide +kernel
theorem d_M_nextNumber_3 : decode c_M_nextNumber 3 = .ok (.istore_n 3, 1) := by decide +kernel
theorem d_M_nextNumber_4 : decode c_M_nextNumber 4 = .ok (.iload_n 3, 1) := by decide +kernel
theorem d_M_nextNumber_5 : decode c_M_nextNumber 5 = .ok (.iload_n 1, 1) := by decide +kernel
theorem d_M_nextNumber_6 : decode c_M_nextNumber 6 = .ok (.if_icmp .ge 18, 3) := by decide +kernel
theorem d_M_nextNumber_9 : decode c_M_nextNumber 9 = .ok (.iconst 2, 1) := by decide +kernel
theorem d_M_nextNumber_10 : decode c_M_nextNumber 10 = .ok (.iload_n 2, 1) := by decide +kernel
theorem d_M_nextNumber_11 : decode c_M_nextNumber 11 = .ok (.imul, 1) := by decide +kernel
