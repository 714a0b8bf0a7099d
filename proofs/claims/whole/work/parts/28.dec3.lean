theorem d_M_step_109 : decode c_M_step 109 = .ok (.getfield 40, 3) := by decide +kernel
theorem d_M_step_112 : decode c_M_step 112 = .ok (.iload_n 3, 1) := by decide +kernel
theorem d_M_step_113 : decode c_M_step 113 = .ok (.laload, 1) := by decide +kernel
theorem d_M_step_114 : decode c_M_step 114 = .ok (.aload_n 0, 1) := by decide +kernel
theorem d_M_step_115 : decode c_M_step 115 = .ok (.getfield 47, 3) := by decide +kernel
theorem d_M_step_118 : decode c_M_step 118 = .ok (.iload_n 3, 1) := by decide +kernel
theorem d_M_step_119 : decode c_M_step 119 = .ok (.laload, 1) := by decide +kernel
theorem d_M_step_120 : decode c_M_step 120 = .ok (.lsub, 1) := by decide +kernel
theorem d_M_step_121 : decode c_M_step 121 = .ok (.ladd, 1) := by decide +kernel
theorem d_M_step_122 : decode c_M_step 122 = .ok (.putfield 197, 3) := by decide +kernel
theorem d_M_step_125 : decode c_M_step 125 = .ok (.aload_n 0, 1) := by decide +kernel
theorem d_M_step_126 : decode c_M_step 126 = .ok (.getfield 40, 3) := by decide +kernel
theorem d_M_step_129 : decode c_M_step 129 = .ok (.iload_n 3, 1) := by decide +kernel
theorem d_M_step_130 : decode c_M_step 130 = .ok (.aload_n 0, 1) := by decide +kernel
theorem d_M_step_131 : decode c_M_step 131 = .ok (.getfield 47, 3) := by decide +kernel
theorem d_M_step_134 : decode c_M_step 134 = .ok (.iload_n 3, 1) := by decide +kernel
theorem d_M_step_135 : decode c_M_step 135 = .ok (.laload, 1) := by decide +kernel
theorem d_M_step_136 : decode c_M_step 136 = .ok (.lastore, 1) := by decide +kernel
theorem d_M_step_137 : decode c_M_step 137 = .ok (.iinc 3 1, 3) := by decide +kernel
theorem d_M_step_140 : decode c_M_step 140 = .ok (.goto (-77), 3) := by decide +kernel
theorem d_M_step_143 : decode c_M_step 143 = .ok (.aload_n 0, 1) := by decide +kernel
theorem d_M_step_144 : decode c_M_step 144 = .ok (.getfield 197, 3) := by decide +kernel
theorem d_M_step_147 : decode c_M_step 147 = .ok (.lconst 0, 1) := by decide +kernel
theorem d_M_step_148 : decode c_M_step 148 = .ok (.lcmp, 1) := by decide +kernel
theorem d_M_step_149 : decode c_M_step 149 = .ok (.ifCond .ne 7, 3) := by decide +kernel
theorem d_M_step_152 : decode c_M_step 152 = .ok (.iload_n 2, 1) := by decide +kernel
theorem d_M_step_153 : decode c_M_step 153 = .ok (.iconst 1, 1) := by decide +kernel
theorem d_M_step_154 : decode c_M_step 154 = .ok (.iadd, 1) := by decide +kernel
theorem d_M_step_155 : decode c_M_step 155 = .ok (.ireturn, 1) := by decide +kernel
theorem d_M_step_156 : decode c_M_step 156 = .ok (.iinc 2 1, 3) := by decide +kernel
theorem d_M_step_159 : decode c_M_step 159 = .ok (.goto (-141), 3) := by decide +kernel
theorem d_M_step_162 : decode c_M_step 162 = .ok (.iload_n 1, 1) := by decide +kernel
theorem d_M_step_163 : decode c_M_step 163 = .ok (.ireturn, 1) := by decide +kernel
theorem d_M_score_0 : decode c_M_score 0 = .ok (.aload_n 0, 1) := by decide +kernel
theorem d_M_score_1 : decode c_M_score 1 = .ok (.iload_n 1, 1) := by decide +kernel
theorem d_M_score_2 : decode c_M_score 2 = .ok (.invokevirtual 68, 3) := by decide +kernel
theorem d_M_score_5 : decode c_M_score 5 = .ok (.ifCond .eq 12, 3) := by decide +kernel
theorem d_M_score_8 : decode c_M_score 8 = .ok (.aload_n 0, 1) := by decide +kernel
theorem d_M_score_9 : decode c_M_score 9 = .ok (.getfield 40, 3) := by decide +kernel
theorem d_M_score_12 : decode c_M_score 12 = .ok (.iload_n 1, 1) := by decide +kernel
theorem d_M_score_13 : decode c_M_score 13 = .ok (.laload, 1) := by decide +kernel
theorem d_M_score_14 : decode c_M_score 14 = .ok (.goto 6, 3) := by decide +kernel
theorem d_M_score_17 : decode c_M_score 17 = .ok (.ldc2_w 228, 3) := by decide +kernel
theorem d_M_score_20 : decode c_M_score 20 = .ok (.lreturn, 1) := by decide +kernel
theorem d_M_hub_0 : decode c_M_hub 0 = .ok (.aload_n 0, 1) := by decide +kernel
theorem d_M_hub_1 : decode c_M_hub 1 = .ok (.iload_n 1, 1) := by decide +kernel
theorem d_M_hub_2 : decode c_M_hub 2 = .ok (.invokevirtual 68, 3) := by decide +kernel
theorem d_M_hub_5 : decode c_M_hub 5 = .ok (.ifCond .eq 12, 3) := by decide +kernel
theorem d_M_hub_8 : decode c_M_hub 8 = .ok (.aload_n 0, 1) := by decide +kernel
theorem d_M_hub_9 : decode c_M_hub 9 = .ok (.getfield 44, 3) := by decide +kernel
theorem d_M_hub_12 : decode c_M_hub 12 = .ok (.iload_n 1, 1) := by decide +kernel
theorem d_M_hub_13 : decode c_M_hub 13 = .ok (.laload, 1) := by decide +kernel
theorem d_M_hub_14 : decode c_M_hub 14 = .ok (.goto 6, 3) := by decide +kernel
theorem d_M_hub_17 : decode c_M_hub 17 = .ok (.ldc2_w 228, 3) := by decide +kernel
theorem d_M_hub_20 : decode c_M_hub 20 = .ok (.lreturn, 1) := by decide +kernel
theorem d_M_top_0 : decode c_M_top 0 = .ok (.iconst 0, 1) := by decide +kernel
theorem d_M_top_1 : decode c_M_top 1 = .ok (.istore_n 2, 1) := by decide +kernel
theorem d_M_top_2 : decode c_M_top 2 = .ok (.iload_n 2, 1) := by decide +kernel
theorem d_M_top_3 : decode c_M_top 3 = .ok (.aload_n 0, 1) := by decide +kernel
theorem d_M_top_4 : decode c_M_top 4 = .ok (.getfield 56, 3) := by decide +kernel
theorem d_M_top_7 : decode c_M_top 7 = .ok (.if_icmp .ge 84, 3) := by decide +kernel
theorem d_M_top_10 : decode c_M_top 10 = .ok (.iconst 0, 1) := by decide +kernel
theorem d_M_top_11 : decode c_M_top 11 = .ok (.istore_n 3, 1) := by decide +kernel
theorem d_M_top_12 : decode c_M_top 12 = .ok (.iconst 0, 1) := by decide +kernel
theorem d_M_top_13 : decode c_M_top 13 = .ok (.istore 4, 2) := by decide +kernel
theorem d_M_top_15 : decode c_M_top 15 = .ok (.iload 4, 2) := by decide +kernel
theorem d_M_top_17 : decode c_M_top 17 = .ok (.aload_n 0, 1) := by decide +kernel
theorem d_M_top_18 : decode c_M_top 18 = .ok (.getfield 56, 3) := by decide +kernel
theorem d_M_top_21 : decode c_M_top 21 = .ok (.if_icmp .ge 57, 3) := by decide +kernel
theorem d_M_top_24 : decode c_M_top 24 = .ok (.iload_n 3, 1) := by decide +kernel
theorem d_M_top_25 : decode c_M_top 25 = .ok (.aload_n 0, 1) := by decide +kernel
theorem d_M_top_26 : decode c_M_top 26 = .ok (.getfield 40, 3) := by decide +kernel
theorem d_M_top_29 : decode c_M_top 29 = .ok (.iload 4, 2) := by decide +kernel
theorem d_M_top_31 : decode c_M_top 31 = .ok (.laload, 1) := by decide +kernel
theorem d_M_top_32 : decode c_M_top 32 = .ok (.aload_n 0, 1) := by decide +kernel
theorem d_M_top_33 : decode c_M_top 33 = .ok (.getfield 40, 3) := by decide +kernel
theorem d_M_top_36 : decode c_M_top 36 = .ok (.iload_n 2, 1) := by decide +kernel
theorem d_M_top_37 : decode c_M_top 37 = .ok (.laload, 1) := by decide +kernel
theorem d_M_top_38 : decode c_M_top 38 = .ok (.lcmp, 1) := by decide +kernel
theorem d_M_top_39 : decode c_M_top 39 = .ok (.ifCond .gt 26, 3) := by decide +kernel
theorem d_M_top_42 : decode c_M_top 42 = .ok (.aload_n 0, 1) := by decide +kernel
theorem d_M_top_43 : decode c_M_top 43 = .ok (.getfield 40, 3) := by decide +kernel
theorem d_M_top_46 : decode c_M_top 46 = .ok (.iload 4, 2) := by decide +kernel
theorem d_M_top_48 : decode c_M_top 48 = .ok (.laload, 1) := by decide +kernel
theorem d_M_top_49 : decode c_M_top 49 = .ok (.aload_n 0, 1) := by decide +kernel
theorem d_M_top_50 : decode c_M_top 50 = .ok (.getfield 40, 3) := by decide +kernel
theorem d_M_top_53 : decode c_M_top 53 = .ok (.iload_n 2, 1) := by decide +kernel
theorem d_M_top_54 : decode c_M_top 54 = .ok (.laload, 1) := by decide +kernel
theorem d_M_top_55 : decode c_M_top 55 = .ok (.lcmp, 1) := by decide +kernel
theorem d_M_top_56 : decode c_M_top 56 = .ok (.ifCond .ne 13, 3) := by decide +kernel
theorem d_M_top_59 : decode c_M_top 59 = .ok (.iload 4, 2) := by decide +kernel
theorem d_M_top_61 : decode c_M_top 61 = .ok (.iload_n 2, 1) := by decide +kernel
theorem d_M_top_62 : decode c_M_top 62 = .ok (.if_icmp .ge 7, 3) := by decide +kernel
theorem d_M_top_65 : decode c_M_top 65 = .ok (.iconst 1, 1) := by decide +kernel
theorem d_M_top_66 : decode c_M_top 66 = .ok (.goto 4, 3) := by decide +kernel
theorem d_M_top_69 : decode c_M_top 69 = .ok (.iconst 0, 1) := by decide +kernel
theorem d_M_top_70 : decode c_M_top 70 = .ok (.iadd, 1) := by decide +kernel
theorem d_M_top_71 : decode c_M_top 71 = .ok (.istore_n 3, 1) := by decide +kernel
theorem d_M_top_72 : decode c_M_top 72 = .ok (.iinc 4 1, 3) := by decide +kernel
theorem d_M_top_75 : decode c_M_top 75 = .ok (.goto (-60), 3) := by decide +kernel
theorem d_M_top_78 : decode c_M_top 78 = .ok (.iload_n 3, 1) := by decide +kernel
theorem d_M_top_79 : decode c_M_top 79 = .ok (.iload_n 1, 1) := by decide +kernel
theorem d_M_top_80 : decode c_M_top 80 = .ok (.if_icmp .ne 5, 3) := by decide +kernel
theorem d_M_top_83 : decode c_M_top 83 = .ok (.iload_n 2, 1) := by decide +kernel
theorem d_M_top_84 : decode c_M_top 84 = .ok (.ireturn, 1) := by decide +kernel
theorem d_M_top_85 : decode c_M_top 85 = .ok (.iinc 2 1, 3) := by decide +kernel
theorem d_M_top_88 : decode c_M_top 88 = .ok (.goto (-86), 3) := by decide +kernel
theorem d_M_top_91 : decode c_M_top 91 = .ok (.iconst (-1), 1) := by decide +kernel
theorem d_M_top_92 : decode c_M_top 92 = .ok (.ireturn, 1) := by decide +kernel
theorem d_M_change_0 : decode c_M_change 0 = .ok (.aload_n 0, 1) := by decide +kernel
theorem d_M_change_1 : decode c_M_change 1 = .ok (.getfield 197, 3) := by decide +kernel
theorem d_M_change_4 : decode c_M_change 4 = .ok (.lreturn, 1) := by decide +kernel
theorem d_D_init_0 : decode c_D_init 0 = .ok (.aload_n 0, 1) := by decide +kernel
theorem d_D_init_1 : decode c_D_init 1 = .ok (.invokespecial 1, 3) := by decide +kernel
theorem d_D_init_4 : decode c_D_init 4 = .ok (.aload_n 0, 1) := by decide +kernel
theorem d_D_init_5 : decode c_D_init 5 = .ok (.iload_n 1, 1) := by decide +kernel
theorem d_D_init_6 : decode c_D_init 6 = .ok (.putfield 7, 3) := by decide +kernel
theorem d_D_init_9 : decode c_D_init 9 = .ok (.aload_n 0, 1) := by decide +kernel
theorem d_D_init_10 : decode c_D_init 10 = .ok (.aload_n 2, 1) := by decide +kernel
theorem d_D_init_11 : decode c_D_init 11 = .ok (.putfield 13, 3) := by decide +kernel
theorem d_D_init_14 : decode c_D_init 14 = .ok (.aload_n 0, 1) := by decide +kernel
theorem d_D_init_15 : decode c_D_init 15 = .ok (.aload_n 3, 1) := by decide +kernel
theorem d_D_init_16 : decode c_D_init 16 = .ok (.putfield 17, 3) := by decide +kernel
theorem d_D_init_19 : decode c_D_init 19 = .ok (.aload_n 0, 1) := by decide +kernel
theorem d_D_init_20 : decode c_D_init 20 = .ok (.iload_n 1, 1) := by decide +kernel
theorem d_D_init_21 : decode c_D_init 21 = .ok (.newarray .int, 2) := by decide +kernel
theorem d_D_init_23 : decode c_D_init 23 = .ok (.putfield 21, 3) := by decide +kernel
theorem d_D_init_26 : decode c_D_init 26 = .ok (.aload_n 0, 1) := by decide +kernel
theorem d_D_init_27 : decode c_D_init 27 = .ok (.iload_n 1, 1) := by decide +kernel
theorem d_D_init_28 : decode c_D_init 28 = .ok (.newarray .int, 2) := by decide +kernel
theorem d_D_init_30 : decode c_D_init 30 = .ok (.putfield 25, 3) := by decide +kernel
theorem d_D_init_33 : decode c_D_init 33 = .ok (.aload_n 0, 1) := by decide +kernel
theorem d_D_init_34 : decode c_D_init 34 = .ok (.iload_n 1, 1) := by decide +kernel
theorem d_D_init_35 : decode c_D_init 35 = .ok (.newarray .int, 2) := by decide +kernel
theorem d_D_init_37 : decode c_D_init 37 = .ok (.putfield 28, 3) := by decide +kernel
theorem d_D_init_40 : decode c_D_init 40 = .ok (.aload_n 0, 1) := by decide +kernel
theorem d_D_init_41 : decode c_D_init 41 = .ok (.iload_n 1, 1) := by decide +kernel
theorem d_D_init_42 : decode c_D_init 42 = .ok (.newarray .int, 2) := by decide +kernel
theorem d_D_init_44 : decode c_D_init 44 = .ok (.putfield 31, 3) := by decide +kernel
theorem d_D_init_47 : decode c_D_init 47 = .ok (.return_, 1) := by decide +kernel
theorem d_D_readAll_0 : decode c_D_readAll 0 = .ok (.iconst 0, 1) := by decide +kernel
theorem d_D_readAll_1 : decode c_D_readAll 1 = .ok (.istore_n 1, 1) := by decide +kernel
theorem d_D_readAll_2 : decode c_D_readAll 2 = .ok (.iload_n 1, 1) := by decide +kernel
theorem d_D_readAll_3 : decode c_D_readAll 3 = .ok (.aload_n 0, 1) := by decide +kernel
theorem d_D_readAll_4 : decode c_D_readAll 4 = .ok (.getfield 7, 3) := by decide +kernel
theorem d_D_readAll_7 : decode c_D_readAll 7 = .ok (.if_icmp .ge 137, 3) := by decide +kernel
theorem d_D_readAll_10 : decode c_D_readAll 10 = .ok (.aload_n 0, 1) := by decide +kernel
theorem d_D_readAll_11 : decode c_D_readAll 11 = .ok (.iload_n 1, 1) := by decide +kernel
theorem d_D_readAll_12 : decode c_D_readAll 12 = .ok (.putfield 34, 3) := by decide +kernel
theorem d_D_readAll_15 : decode c_D_readAll 15 = .ok (.aload_n 0, 1) := by decide +kernel
theorem d_D_readAll_16 : decode c_D_readAll 16 = .ok (.aload_n 0, 1) := by decide +kernel
theorem d_D_readAll_17 : decode c_D_readAll 17 = .ok (.getfield 13, 3) := by decide +kernel
theorem d_D_readAll_20 : decode c_D_readAll 20 = .ok (.getfield 37, 3) := by decide +kernel
theorem d_D_readAll_23 : decode c_D_readAll 23 = .ok (.iload_n 1, 1) := by decide +kernel
theorem d_D_readAll_24 : decode c_D_readAll 24 = .ok (.iaload, 1) := by decide +kernel
theorem d_D_readAll_25 : decode c_D_readAll 25 = .ok (.putfield 42, 3) := by decide +kernel
theorem d_D_readAll_28 : decode c_D_readAll 28 = .ok (.aload_n 0, 1) := by decide +kernel
theorem d_D_readAll_29 : decode c_D_readAll 29 = .ok (.iconst 0, 1) := by decide +kernel
theorem d_D_readAll_30 : decode c_D_readAll 30 = .ok (.putfield 45, 3) := by decide +kernel
theorem d_D_readAll_33 : decode c_D_readAll 33 = .ok (.aload_n 0, 1) := by decide +kernel
theorem d_D_readAll_34 : decode c_D_readAll 34 = .ok (.iconst 0, 1) := by decide +kernel
theorem d_D_readAll_35 : decode c_D_readAll 35 = .ok (.putfield 48, 3) := by decide +kernel
theorem d_D_readAll_38 : decode c_D_readAll 38 = .ok (.aload_n 0, 1) := by decide +kernel
theorem d_D_readAll_39 : decode c_D_readAll 39 = .ok (.iconst 0, 1) := by decide +kernel
theorem d_D_readAll_40 : decode c_D_readAll 40 = .ok (.putfield 51, 3) := by decide +kernel
theorem d_D_readAll_43 : decode c_D_readAll 43 = .ok (.aload_n 0, 1) := by decide +kernel
theorem d_D_readAll_44 : decode c_D_readAll 44 = .ok (.iconst 0, 1) := by decide +kernel
theorem d_D_readAll_45 : decode c_D_readAll 45 = .ok (.putfield 54, 3) := by decide +kernel
theorem d_D_readAll_48 : decode c_D_readAll 48 = .ok (.aload_n 0, 1) := by decide +kernel
theorem d_D_readAll_49 : decode c_D_readAll 49 = .ok (.invokevirtual 58, 3) := by decide +kernel
theorem d_D_readAll_52 : decode c_D_readAll 52 = .ok (.aload_n 0, 1) := by decide +kernel
theorem d_D_readAll_53 : decode c_D_readAll 53 = .ok (.getfield 25, 3) := by decide +kernel
theorem d_D_readAll_56 : decode c_D_readAll 56 = .ok (.iload_n 1, 1) := by decide +kernel
theorem d_D_readAll_57 : decode c_D_readAll 57 = .ok (.aload_n 0, 1) := by decide +kernel
theorem d_D_readAll_58 : decode c_D_readAll 58 = .ok (.getfield 45, 3) := by decide +kernel
theorem d_D_readAll_61 : decode c_D_readAll 61 = .ok (.iastore, 1) := by decide +kernel
theorem d_D_readAll_62 : decode c_D_readAll 62 = .ok (.aload_n 0, 1) := by decide +kernel
theorem d_D_readAll_63 : decode c_D_readAll 63 = .ok (.getfield 21, 3) := by decide +kernel
theorem d_D_readAll_66 : decode c_D_readAll 66 = .ok (.iload_n 1, 1) := by decide +kernel
theorem d_D_readAll_67 : decode c_D_readAll 67 = .ok (.aload_n 0, 1) := by decide +kernel
theorem d_D_readAll_68 : decode c_D_readAll 68 = .ok (.getfield 45, 3) := by decide +kernel
theorem d_D_readAll_71 : decode c_D_readAll 71 = .ok (.ifCond .ne 10, 3) := by decide +kernel
theorem d_D_readAll_74 : decode c_D_readAll 74 = .ok (.aload_n 0, 1) := by decide +kernel
theorem d_D_readAll_75 : decode c_D_readAll 75 = .ok (.getfield 51, 3) := by decide +kernel
theorem d_D_readAll_78 : decode c_D_readAll 78 = .ok (.goto 4, 3) := by decide +kernel
theorem d_D_readAll_81 : decode c_D_readAll 81 = .ok (.iconst 0, 1) := by decide +kernel
theorem d_D_readAll_82 : decode c_D_readAll 82 = .ok (.iastore, 1) := by decide +kernel
theorem d_D_readAll_83 : decode c_D_readAll 83 = .ok (.aload_n 0, 1) := by decide +kernel
theorem d_D_readAll_84 : decode c_D_readAll 84 = .ok (.getfield 28, 3) := by decide +kernel
theorem d_D_readAll_87 : decode c_D_readAll 87 = .ok (.iload_n 1, 1) := by decide +kernel
theorem d_D_readAll_88 : decode c_D_readAll 88 = .ok (.aload_n 0, 1) := by decide +kernel
theorem d_D_readAll_89 : decode c_D_readAll 89 = .ok (.getfield 45, 3) := by decide +kernel
theorem d_D_readAll_92 : decode c_D_readAll 92 = .ok (.ifCond .ne 10, 3) := by decide +kernel
theorem d_D_readAll_95 : decode c_D_readAll 95 = .ok (.aload_n 0, 1) := by decide +kernel
theorem d_D_readAll_96 : decode c_D_readAll 96 = .ok (.getfield 48, 3) := by decide +kernel
theorem d_D_readAll_99 : decode c_D_readAll 99 = .ok (.goto 4, 3) := by decide +kernel
theorem d_D_readAll_102 : decode c_D_readAll 102 = .ok (.iconst 0, 1) := by decide +kernel
theorem d_D_readAll_103 : decode c_D_readAll 103 = .ok (.iastore, 1) := by decide +kernel
theorem d_D_readAll_104 : decode c_D_readAll 104 = .ok (.aload_n 0, 1) := by decide +kernel
theorem d_D_readAll_105 : decode c_D_readAll 105 = .ok (.getfield 31, 3) := by decide +kernel
theorem d_D_readAll_108 : decode c_D_readAll 108 = .ok (.iload_n 1, 1) := by decide +kernel
theorem d_D_readAll_109 : decode c_D_readAll 109 = .ok (.aload_n 0, 1) := by decide +kernel
theorem d_D_readAll_110 : decode c_D_readAll 110 = .ok (.getfield 28, 3) := by decide +kernel
theorem d_D_readAll_113 : decode c_D_readAll 113 = .ok (.iload_n 1, 1) := by decide +kernel
theorem d_D_readAll_114 : decode c_D_readAll 114 = .ok (.iaload, 1) := by decide +kernel
theorem d_D_readAll_115 : decode c_D_readAll 115 = .ok (.ifCond .ne 7, 3) := by decide +kernel
theorem d_D_readAll_118 : decode c_D_readAll 118 = .ok (.iconst 0, 1) := by decide +kernel
theorem d_D_readAll_119 : decode c_D_readAll 119 = .ok (.goto 18, 3) := by decide +kernel
theorem d_D_readAll_122 : decode c_D_readAll 122 = .ok (.aload_n 0, 1) := by decide +kernel
theorem d_D_readAll_123 : decode c_D_readAll 123 = .ok (.getfield 31, 3) := by decide +kernel
theorem d_D_readAll_126 : decode c_D_readAll 126 = .ok (.iload_n 1, 1) := by decide +kernel
theorem d_D_readAll_127 : decode c_D_readAll 127 = .ok (.aload_n 0, 1) := by decide +kernel
theorem d_D_readAll_128 : decode c_D_readAll 128 = .ok (.getfield 28, 3) := by decide +kernel
theorem d_D_readAll_131 : decode c_D_readAll 131 = .ok (.iload_n 1, 1) := by decide +kernel
theorem d_D_readAll_132 : decode c_D_readAll 132 = .ok (.iaload, 1) := by decide +kernel
theorem d_D_readAll_133 : decode c_D_readAll 133 = .ok (.isub, 1) := by decide +kernel
theorem d_D_readAll_134 : decode c_D_readAll 134 = .ok (.iaload, 1) := by decide +kernel
theorem d_D_readAll_135 : decode c_D_readAll 135 = .ok (.iconst 1, 1) := by decide +kernel
theorem d_D_readAll_136 : decode c_D_readAll 136 = .ok (.iadd, 1) := by decide +kernel
theorem d_D_readAll_137 : decode c_D_readAll 137 = .ok (.iastore, 1) := by decide +kernel
theorem d_D_readAll_138 : decode c_D_readAll 138 = .ok (.iinc 1 1, 3) := by decide +kernel
theorem d_D_readAll_141 : decode c_D_readAll 141 = .ok (.goto (-139), 3) := by decide +kernel
theorem d_D_readAll_144 : decode c_D_readAll 144 = .ok (.return_, 1) := by decide +kernel
theorem d_D_readRecord_0 : decode c_D_readRecord 0 = .ok (.aload_n 0, 1) := by decide +kernel
theorem d_D_readRecord_1 : decode c_D_readRecord 1 = .ok (.aload_n 0, 1) := by decide +kernel
theorem d_D_readRecord_2 : decode c_D_readRecord 2 = .ok (.invokevirtual 61, 3) := by decide +kernel
theorem d_D_readRecord_5 : decode c_D_readRecord 5 = .ok (.putfield 65, 3) := by decide +kernel
theorem d_D_readRecord_8 : decode c_D_readRecord 8 = .ok (.aload_n 0, 1) := by decide +kernel
theorem d_D_readRecord_9 : decode c_D_readRecord 9 = .ok (.aload_n 0, 1) := by decide +kernel
theorem d_D_readRecord_10 : decode c_D_readRecord 10 = .ok (.getfield 65, 3) := by decide +kernel
theorem d_D_readRecord_13 : decode c_D_readRecord 13 = .ok (.aload_n 0, 1) := by decide +kernel
theorem d_D_readRecord_14 : decode c_D_readRecord 14 = .ok (.getfield 7, 3) := by decide +kernel
theorem d_D_readRecord_17 : decode c_D_readRecord 17 = .ok (.if_icmp .le 7, 3) := by decide +kernel
theorem d_D_readRecord_20 : decode c_D_readRecord 20 = .ok (.iconst 1, 1) := by decide +kernel
theorem d_D_readRecord_21 : decode c_D_readRecord 21 = .ok (.goto 4, 3) := by decide +kernel
theorem d_D_readRecord_24 : decode c_D_readRecord 24 = .ok (.iconst 0, 1) := by decide +kernel
theorem d_D_readRecord_25 : decode c_D_readRecord 25 = .ok (.iconst 3, 1) := by decide +kernel
theorem d_D_readRecord_26 : decode c_D_readRecord 26 = .ok (.invokevirtual 68, 3) := by decide +kernel
theorem d_D_readRecord_29 : decode c_D_readRecord 29 = .ok (.aload_n 0, 1) := by decide +kernel
theorem d_D_readRecord_30 : decode c_D_readRecord 30 = .ok (.invokevirtual 72, 3) := by decide +kernel
theorem d_D_readRecord_33 : decode c_D_readRecord 33 = .ok (.ifCond .eq 17, 3) := by decide +kernel
theorem d_D_readRecord_36 : decode c_D_readRecord 36 = .ok (.aload_n 0, 1) := by decide +kernel
theorem d_D_readRecord_37 : decode c_D_readRecord 37 = .ok (.getfield 13, 3) := by decide +kernel
theorem d_D_readRecord_40 : decode c_D_readRecord 40 = .ok (.getfield 76, 3) := by decide +kernel
theorem d_D_readRecord_43 : decode c_D_readRecord 43 = .ok (.ifCond .le 7, 3) := by decide +kernel
theorem d_D_readRecord_46 : decode c_D_readRecord 46 = .ok (.aload_n 0, 1) := by decide +kernel
theorem d_D_readRecord_47 : decode c_D_readRecord 47 = .ok (.invokevirtual 79, 3) := by decide +kernel
theorem d_D_readRecord_50 : decode c_D_readRecord 50 = .ok (.aload_n 0, 1) := by decide +kernel
theorem d_D_readRecord_51 : decode c_D_readRecord 51 = .ok (.invokevirtual 72, 3) := by decide +kernel
theorem d_D_readRecord_54 : decode c_D_readRecord 54 = .ok (.ifCond .eq 28, 3) := by decide +kernel
theorem d_D_readRecord_57 : decode c_D_readRecord 57 = .ok (.aload_n 0, 1) := by decide +kernel
theorem d_D_readRecord_58 : decode c_D_readRecord 58 = .ok (.getfield 48, 3) := by decide +kernel
theorem d_D_readRecord_61 : decode c_D_readRecord 61 = .ok (.ifCond .le 21, 3) := by decide +kernel
theorem d_D_readRecord_64 : decode c_D_readRecord 64 = .ok (.aload_n 0, 1) := by decide +kernel
theorem d_D_readRecord_65 : decode c_D_readRecord 65 = .ok (.aload_n 0, 1) := by decide +kernel
theorem d_D_readRecord_66 : decode c_D_readRecord 66 = .ok (.getfield 21, 3) := by decide +kernel
theorem d_D_readRecord_69 : decode c_D_readRecord 69 = .ok (.aload_n 0, 1) := by decide +kernel
theorem d_D_readRecord_70 : decode c_D_readRecord 70 = .ok (.getfield 34, 3) := by decide +kernel
theorem d_D_readRecord_73 : decode c_D_readRecord 73 = .ok (.aload_n 0, 1) := by decide +kernel
theorem d_D_readRecord_74 : decode c_D_readRecord 74 = .ok (.getfield 48, 3) := by decide +kernel
theorem d_D_readRecord_77 : decode c_D_readRecord 77 = .ok (.isub, 1) := by decide +kernel
theorem d_D_readRecord_78 : decode c_D_readRecord 78 = .ok (.iaload, 1) := by decide +kernel
theorem d_D_readRecord_79 : decode c_D_readRecord 79 = .ok (.invokevirtual 82, 3) := by decide +kernel
theorem d_D_readRecord_82 : decode c_D_readRecord 82 = .ok (.aload_n 0, 1) := by decide +kernel
theorem d_D_readRecord_83 : decode c_D_readRecord 83 = .ok (.invokevirtual 72, 3) := by decide +kernel
theorem d_D_readRecord_86 : decode c_D_readRecord 86 = .ok (.ifCond .eq 17, 3) := by decide +kernel
theorem d_D_readRecord_89 : decode c_D_readRecord 89 = .ok (.aload_n 0, 1) := by decide +kernel
theorem d_D_readRecord_90 : decode c_D_readRecord 90 = .ok (.getfield 13, 3) := by decide +kernel
theorem d_D_readRecord_93 : decode c_D_readRecord 93 = .ok (.getfield 86, 3) := by decide +kernel
theorem d_D_readRecord_96 : decode c_D_readRecord 96 = .ok (.ifCond .le 7, 3) := by decide +kernel
theorem d_D_readRecord_99 : decode c_D_readRecord 99 = .ok (.aload_n 0, 1) := by decide +kernel
theorem d_D_readRecord_100 : decode c_D_readRecord 100 = .ok (.invokevirtual 89, 3) := by decide +kernel
theorem d_D_readRecord_103 : decode c_D_readRecord 103 = .ok (.aload_n 0, 1) := by decide +kernel
theorem d_D_readRecord_104 : decode c_D_readRecord 104 = .ok (.invokevirtual 72, 3) := by decide +kernel
theorem d_D_readRecord_107 : decode c_D_readRecord 107 = .ok (.ifCond .eq 7, 3) := by decide +kernel
theorem d_D_readRecord_110 : decode c_D_readRecord 110 = .ok (.aload_n 0, 1) := by decide +kernel
theorem d_D_readRecord_111 : decode c_D_readRecord 111 = .ok (.invokevirtual 92, 3) := by decide +kernel
theorem d_D_readRecord_114 : decode c_D_readRecord 114 = .ok (.aload_n 0, 1) := by decide +kernel
theorem d_D_readRecord_115 : decode c_D_readRecord 115 = .ok (.aload_n 0, 1) := by decide +kernel
theorem d_D_readRecord_116 : decode c_D_readRecord 116 = .ok (.getfield 54, 3) := by decide +kernel
theorem d_D_readRecord_119 : decode c_D_readRecord 119 = .ok (.bipush 9, 2) := by decide +kernel
theorem d_D_readRecord_121 : decode c_D_readRecord 121 = .ok (.invokevirtual 68, 3) := by decide +kernel
theorem d_D_readRecord_124 : decode c_D_readRecord 124 = .ok (.aload_n 0, 1) := by decide +kernel
theorem d_D_readRecord_125 : decode c_D_readRecord 125 = .ok (.aload_n 0, 1) := by decide +kernel
theorem d_D_readRecord_126 : decode c_D_readRecord 126 = .ok (.getfield 42, 3) := by decide +kernel
theorem d_D_readRecord_129 : decode c_D_readRecord 129 = .ok (.aload_n 0, 1) := by decide +kernel
theorem d_D_readRecord_130 : decode c_D_readRecord 130 = .ok (.getfield 13, 3) := by decide +kernel
theorem d_D_readRecord_133 : decode c_D_readRecord 133 = .ok (.getfield 37, 3) := by decide +kernel
theorem d_D_readRecord_136 : decode c_D_readRecord 136 = .ok (.aload_n 0, 1) := by decide +kernel
theorem d_D_readRecord_137 : decode c_D_readRecord 137 = .ok (.getfield 34, 3) := by decide +kernel
theorem d_D_readRecord_140 : decode c_D_readRecord 140 = .ok (.iconst 1, 1) := by decide +kernel
theorem d_D_readRecord_141 : decode c_D_readRecord 141 = .ok (.iadd, 1) := by decide +kernel
theorem d_D_readRecord_142 : decode c_D_readRecord 142 = .ok (.iaload, 1) := by decide +kernel
theorem d_D_readRecord_143 : decode c_D_readRecord 143 = .ok (.if_icmp .eq 7, 3) := by decide +kernel
theorem d_D_readRecord_146 : decode c_D_readRecord 146 = .ok (.iconst 1, 1) := by decide +kernel
theorem d_D_readRecord_147 : decode c_D_readRecord 147 = .ok (.goto 4, 3) := by decide +kernel
theorem d_D_readRecord_150 : decode c_D_readRecord 150 = .ok (.iconst 0, 1) := by decide +kernel
theorem d_D_readRecord_151 : decode c_D_readRecord 151 = .ok (.bipush 10, 2) := by decide +kernel
theorem d_D_readRecord_153 : decode c_D_readRecord 153 = .ok (.invokevirtual 68, 3) := by decide +kernel
theorem d_D_readRecord_156 : decode c_D_readRecord 156 = .ok (.return_, 1) := by decide +kernel
theorem d_D_goesOn_0 : decode c_D_goesOn 0 = .ok (.aload_n 0, 1) := by decide +kernel
theorem d_D_goesOn_1 : decode c_D_goesOn 1 = .ok (.getfield 45, 3) := by decide +kernel
theorem d_D_goesOn_4 : decode c_D_goesOn 4 = .ok (.ifCond .ne 14, 3) := by decide +kernel
theorem d_D_goesOn_7 : decode c_D_goesOn 7 = .ok (.aload_n 0, 1) := by decide +kernel
theorem d_D_goesOn_8 : decode c_D_goesOn 8 = .ok (.getfield 65, 3) := by decide +kernel
theorem d_D_goesOn_11 : decode c_D_goesOn 11 = .ok (.ifCond .le 7, 3) := by decide +kernel
theorem d_D_goesOn_14 : decode c_D_goesOn 14 = .ok (.iconst 1, 1) := by decide +kernel
theorem d_D_goesOn_15 : decode c_D_goesOn 15 = .ok (.goto 4, 3) := by decide +kernel
theorem d_D_goesOn_18 : decode c_D_goesOn 18 = .ok (.iconst 0, 1) := by decide +kernel
theorem d_D_goesOn_19 : decode c_D_goesOn 19 = .ok (.ireturn, 1) := by decide +kernel
theorem d_D_failIf_0 : decode c_D_failIf 0 = .ok (.iload_n 1, 1) := by decide +kernel
theorem d_D_failIf_1 : decode c_D_failIf 1 = .ok (.ifCond .eq 15, 3) := by decide +kernel
theorem d_D_failIf_4 : decode c_D_failIf 4 = .ok (.aload_n 0, 1) := by decide +kernel
theorem d_D_failIf_5 : decode c_D_failIf 5 = .ok (.getfield 45, 3) := by decide +kernel
theorem d_D_failIf_8 : decode c_D_failIf 8 = .ok (.ifCond .ne 8, 3) := by decide +kernel
theorem d_D_failIf_11 : decode c_D_failIf 11 = .ok (.aload_n 0, 1) := by decide +kernel
theorem d_D_failIf_12 : decode c_D_failIf 12 = .ok (.iload_n 2, 1) := by decide +kernel
theorem d_D_failIf_13 : decode c_D_failIf 13 = .ok (.putfield 45, 3) := by decide +kernel
theorem d_D_failIf_16 : decode c_D_failIf 16 = .ok (.return_, 1) := by decide +kernel
theorem d_D_readReference_0 : decode c_D_readReference 0 = .ok (.aload_n 0, 1) := by decide +kernel
theorem d_D_readReference_1 : decode c_D_readReference 1 = .ok (.aload_n 0, 1) := by decide +kernel
theorem d_D_readReference_2 : decode c_D_readReference 2 = .ok (.invokevirtual 95, 3) := by decide +kernel
theorem d_D_readReference_5 : decode c_D_readReference 5 = .ok (.putfield 48, 3) := by decide +kernel
theorem d_D_readReference_8 : decode c_D_readReference 8 = .ok (.aload_n 0, 1) := by decide +kernel
theorem d_D_readReference_9 : decode c_D_readReference 9 = .ok (.aload_n 0, 1) := by decide +kernel
theorem d_D_readReference_10 : decode c_D_readReference 10 = .ok (.getfield 48, 3) := by decide +kernel
theorem d_D_readReference_13 : decode c_D_readReference 13 = .ok (.aload_n 0, 1) := by decide +kernel
theorem d_D_readReference_14 : decode c_D_readReference 14 = .ok (.getfield 13, 3) := by decide +kernel
theorem d_D_readReference_17 : decode c_D_readReference 17 = .ok (.getfield 76, 3) := by decide +kernel
theorem d_D_readReference_20 : decode c_D_readReference 20 = .ok (.if_icmp .gt 14, 3) := by decide +kernel
theorem d_D_readReference_23 : decode c_D_readReference 23 = .ok (.aload_n 0, 1) := by decide +kernel
theorem d_D_readReference_24 : decode c_D_readReference 24 = .ok (.getfield 48, 3) := by decide +kernel
theorem d_D_readReference_27 : decode c_D_readReference 27 = .ok (.aload_n 0, 1) := by decide +kernel
theorem d_D_readReference_28 : decode c_D_readReference 28 = .ok (.getfield 34, 3) := by decide +kernel
theorem d_D_readReference_31 : decode c_D_readReference 31 = .ok (.if_icmp .le 7, 3) := by decide +kernel
theorem d_D_readReference_34 : decode c_D_readReference 34 = .ok (.iconst 1, 1) := by decide +kernel
theorem d_D_readReference_35 : decode c_D_readReference 35 = .ok (.goto 4, 3) := by decide +kernel
theorem d_D_readReference_38 : decode c_D_readReference 38 = .ok (.iconst 0, 1) := by decide +kernel
theorem d_D_readReference_39 : decode c_D_readReference 39 = .ok (.iconst 4, 1) := by decide +kernel
theorem d_D_readReference_40 : decode c_D_readReference 40 = .ok (.invokevirtual 68, 3) := by decide +kernel
theorem d_D_readReference_43 : decode c_D_readReference 43 = .ok (.aload_n 0, 1) := by decide +kernel
theorem d_D_readReference_44 : decode c_D_readReference 44 = .ok (.getfield 45, 3) := by decide +kernel
theorem d_D_readReference_47 : decode c_D_readReference 47 = .ok (.ifCond .ne 55, 3) := by decide +kernel
theorem d_D_readReference_50 : decode c_D_readReference 50 = .ok (.aload_n 0, 1) := by decide +kernel
theorem d_D_readReference_51 : decode c_D_readReference 51 = .ok (.getfield 48, 3) := by decide +kernel
theorem d_D_readReference_54 : decode c_D_readReference 54 = .ok (.ifCond .le 48, 3) := by decide +kernel
theorem d_D_readReference_57 : decode c_D_readReference 57 = .ok (.aload_n 0, 1) := by decide +kernel
theorem d_D_readReference_58 : decode c_D_readReference 58 = .ok (.getfield 34, 3) := by decide +kernel
theorem d_D_readReference_61 : decode c_D_readReference 61 = .ok (.aload_n 0, 1) := by decide +kernel
theorem d_D_readReference_62 : decode c_D_readReference 62 = .ok (.getfield 48, 3) := by decide +kernel
theorem d_D_readReference_65 : decode c_D_readReference 65 = .ok (.isub, 1) := by decide +kernel
theorem d_D_readReference_66 : decode c_D_readReference 66 = .ok (.istore_n 1, 1) := by decide +kernel
theorem d_D_readReference_67 : decode c_D_readReference 67 = .ok (.aload_n 0, 1) := by decide +kernel
theorem d_D_readReference_68 : decode c_D_readReference 68 = .ok (.aload_n 0, 1) := by decide +kernel
theorem d_D_readReference_69 : decode c_D_readReference 69 = .ok (.getfield 25, 3) := by decide +kernel
theorem d_D_readReference_72 : decode c_D_readReference 72 = .ok (.iload_n 1, 1) := by decide +kernel
theorem d_D_readReference_73 : decode c_D_readReference 73 = .ok (.iaload, 1) := by decide +kernel
theorem d_D_readReference_74 : decode c_D_readReference 74 = .ok (.ifCond .ne 19, 3) := by decide +kernel
theorem d_D_readReference_77 : decode c_D_readReference 77 = .ok (.aload_n 0, 1) := by decide +kernel
theorem d_D_readReference_78 : decode c_D_readReference 78 = .ok (.getfield 31, 3) := by decide +kernel
theorem d_D_readReference_81 : decode c_D_readReference 81 = .ok (.iload_n 1, 1) := by decide +kernel
theorem d_D_readReference_82 : decode c_D_readReference 82 = .ok (.iaload, 1) := by decide +kernel
theorem d_D_readReference_83 : decode c_D_readReference 83 = .ok (.aload_n 0, 1) := by decide +kernel
theorem d_D_readReference_84 : decode c_D_readReference 84 = .ok (.getfield 13, 3) := by decide +kernel
theorem d_D_readReference_87 : decode c_D_readReference 87 = .ok (.getfield 98, 3) := by decide +kernel
theorem d_D_readReference_90 : decode c_D_readReference 90 = .ok (.if_icmp .lt 7, 3) := by decide +kernel
theorem d_D_readReference_93 : decode c_D_readReference 93 = .ok (.iconst 1, 1) := by decide +kernel
theorem d_D_readReference_94 : decode c_D_readReference 94 = .ok (.goto 4, 3) := by decide +kernel
theorem d_D_readReference_97 : decode c_D_readReference 97 = .ok (.iconst 0, 1) := by decide +kernel
theorem d_D_readReference_98 : decode c_D_readReference 98 = .ok (.iconst 5, 1) := by decide +kernel
theorem d_D_readReference_99 : decode c_D_readReference 99 = .ok (.invokevirtual 68, 3) := by decide +kernel
theorem d_D_readReference_102 : decode c_D_readReference 102 = .ok (.return_, 1) := by decide +kernel
theorem d_D_readRuns_0 : decode c_D_readRuns 0 = .ok (.iconst 0, 1) := by decide +kernel
theorem d_D_readRuns_1 : decode c_D_readRuns 1 = .ok (.istore_n 2, 1) := by decide +kernel
theorem d_D_readRuns_2 : decode c_D_readRuns 2 = .ok (.iload_n 1, 1) := by decide +kernel
theorem d_D_readRuns_3 : decode c_D_readRuns 3 = .ok (.istore_n 3, 1) := by decide +kernel
theorem d_D_readRuns_4 : decode c_D_readRuns 4 = .ok (.aload_n 0, 1) := by decide +kernel
theorem d_D_readRuns_5 : decode c_D_readRuns 5 = .ok (.invokevirtual 61, 3) := by decide +kernel
theorem d_D_readRuns_8 : decode c_D_readRuns 8 = .ok (.istore 4, 2) := by decide +kernel
theorem d_D_readRuns_10 : decode c_D_readRuns 10 = .ok (.iconst 0, 1) := by decide +kernel
theorem d_D_readRuns_11 : decode c_D_readRuns 11 = .ok (.istore 5, 2) := by decide +kernel
theorem d_D_readRuns_13 : decode c_D_readRuns 13 = .ok (.iload 5, 2) := by decide +kernel
theorem d_D_readRuns_15 : decode c_D_readRuns 15 = .ok (.iload 4, 2) := by decide +kernel
theorem d_D_readRuns_17 : decode c_D_readRuns 17 = .ok (.if_icmp .ge 83, 3) := by decide +kernel
theorem d_D_readRuns_20 : decode c_D_readRuns 20 = .ok (.aload_n 0, 1) := by decide +kernel
theorem d_D_readRuns_21 : decode c_D_readRuns 21 = .ok (.getfield 45, 3) := by decide +kernel
theorem d_D_readRuns_24 : decode c_D_readRuns 24 = .ok (.ifCond .ne 76, 3) := by decide +kernel
theorem d_D_readRuns_27 : decode c_D_readRuns 27 = .ok (.iload 5, 2) := by decide +kernel
theorem d_D_readRuns_29 : decode c_D_readRuns 29 = .ok (.ifCond .ne 10, 3) := by decide +kernel
theorem d_D_readRuns_32 : decode c_D_readRuns 32 = .ok (.aload_n 0, 1) := by decide +kernel
theorem d_D_readRuns_33 : decode c_D_readRuns 33 = .ok (.invokevirtual 61, 3) := by decide +kernel
theorem d_D_readRuns_36 : decode c_D_readRuns 36 = .ok (.goto 9, 3) := by decide +kernel
theorem d_D_readRuns_39 : decode c_D_readRuns 39 = .ok (.aload_n 0, 1) := by decide +kernel
theorem d_D_readRuns_40 : decode c_D_readRuns 40 = .ok (.invokevirtual 61, 3) := by decide +kernel
theorem d_D_readRuns_43 : decode c_D_readRuns 43 = .ok (.iconst 1, 1) := by decide +kernel
theorem d_D_readRuns_44 : decode c_D_readRuns 44 = .ok (.iadd, 1) := by decide +kernel
theorem d_D_readRuns_45 : decode c_D_readRuns 45 = .ok (.istore 6, 2) := by decide +kernel
theorem d_D_readRuns_47 : decode c_D_readRuns 47 = .ok (.aload_n 0, 1) := by decide +kernel
theorem d_D_readRuns_48 : decode c_D_readRuns 48 = .ok (.iload 6, 2) := by decide +kernel
theorem d_D_readRuns_50 : decode c_D_readRuns 50 = .ok (.iload_n 3, 1) := by decide +kernel
theorem d_D_readRuns_51 : decode c_D_readRuns 51 = .ok (.invokestatic 101, 3) := by decide +kernel
theorem d_D_readRuns_54 : decode c_D_readRuns 54 = .ok (.if_icmp .le 7, 3) := by decide +kernel
theorem d_D_readRuns_57 : decode c_D_readRuns 57 = .ok (.iconst 1, 1) := by decide +kernel
theorem d_D_readRuns_58 : decode c_D_readRuns 58 = .ok (.goto 4, 3) := by decide +kernel
theorem d_D_readRuns_61 : decode c_D_readRuns 61 = .ok (.iconst 0, 1) := by decide +kernel
theorem d_D_readRuns_62 : decode c_D_readRuns 62 = .ok (.bipush 6, 2) := by decide +kernel
theorem d_D_readRuns_64 : decode c_D_readRuns 64 = .ok (.invokevirtual 68, 3) := by decide +kernel
theorem d_D_readRuns_67 : decode c_D_readRuns 67 = .ok (.iload_n 3, 1) := by decide +kernel
theorem d_D_readRuns_68 : decode c_D_readRuns 68 = .ok (.iload 6, 2) := by decide +kernel
theorem d_D_readRuns_70 : decode c_D_readRuns 70 = .ok (.invokestatic 107, 3) := by decide +kernel
theorem d_D_readRuns_73 : decode c_D_readRuns 73 = .ok (.istore 7, 2) := by decide +kernel
theorem d_D_readRuns_75 : decode c_D_readRuns 75 = .ok (.iload_n 3, 1) := by decide +kernel
theorem d_D_readRuns_76 : decode c_D_readRuns 76 = .ok (.iload 7, 2) := by decide +kernel
theorem d_D_readRuns_78 : decode c_D_readRuns 78 = .ok (.iconst (-1), 1) := by decide +kernel
theorem d_D_readRuns_79 : decode c_D_readRuns 79 = .ok (.ixor, 1) := by decide +kernel
theorem d_D_readRuns_80 : decode c_D_readRuns 80 = .ok (.iand, 1) := by decide +kernel
theorem d_D_readRuns_81 : decode c_D_readRuns 81 = .ok (.istore_n 3, 1) := by decide +kernel
theorem d_D_readRuns_82 : decode c_D_readRuns 82 = .ok (.iload 5, 2) := by decide +kernel
theorem d_D_readRuns_84 : decode c_D_readRuns 84 = .ok (.iconst 2, 1) := by decide +kernel
theorem d_D_readRuns_85 : decode c_D_readRuns 85 = .ok (.irem, 1) := by decide +kernel
theorem d_D_readRuns_86 : decode c_D_readRuns 86 = .ok (.ifCond .ne 8, 3) := by decide +kernel
theorem d_D_readRuns_89 : decode c_D_readRuns 89 = .ok (.iload_n 2, 1) := by decide +kernel
theorem d_D_readRuns_90 : decode c_D_readRuns 90 = .ok (.iload 7, 2) := by decide +kernel
theorem d_D_readRuns_92 : decode c_D_readRuns 92 = .ok (.ior, 1) := by decide +kernel
theorem d_D_readRuns_93 : decode c_D_readRuns 93 = .ok (.istore_n 2, 1) := by decide +kernel
theorem d_D_readRuns_94 : decode c_D_readRuns 94 = .ok (.iinc 5 1, 3) := by decide +kernel
theorem d_D_readRuns_97 : decode c_D_readRuns 97 = .ok (.goto (-84), 3) := by decide +kernel
theorem d_D_readRuns_100 : decode c_D_readRuns 100 = .ok (.iload 4, 2) := by decide +kernel
theorem d_D_readRuns_102 : decode c_D_readRuns 102 = .ok (.iconst 2, 1) := by decide +kernel
theorem d_D_readRuns_103 : decode c_D_readRuns 103 = .ok (.irem, 1) := by decide +kernel
theorem d_D_readRuns_104 : decode c_D_readRuns 104 = .ok (.ifCond .ne 7, 3) := by decide +kernel
theorem d_D_readRuns_107 : decode c_D_readRuns 107 = .ok (.iload_n 2, 1) := by decide +kernel
theorem d_D_readRuns_108 : decode c_D_readRuns 108 = .ok (.iload_n 3, 1) := by decide +kernel
theorem d_D_readRuns_109 : decode c_D_readRuns 109 = .ok (.ior, 1) := by decide +kernel
theorem d_D_readRuns_110 : decode c_D_readRuns 110 = .ok (.istore_n 2, 1) := by decide +kernel
theorem d_D_readRuns_111 : decode c_D_readRuns 111 = .ok (.aload_n 0, 1) := by decide +kernel
theorem d_D_readRuns_112 : decode c_D_readRuns 112 = .ok (.iload_n 2, 1) := by decide +kernel
theorem d_D_readRuns_113 : decode c_D_readRuns 113 = .ok (.invokestatic 101, 3) := by decide +kernel
theorem d_D_readRuns_116 : decode c_D_readRuns 116 = .ok (.aload_n 0, 1) := by decide +kernel
theorem d_D_readRuns_117 : decode c_D_readRuns 117 = .ok (.getfield 65, 3) := by decide +kernel
theorem d_D_readRuns_120 : decode c_D_readRuns 120 = .ok (.if_icmp .le 7, 3) := by decide +kernel
theorem d_D_readRuns_123 : decode c_D_readRuns 123 = .ok (.iconst 1, 1) := by decide +kernel
theorem d_D_readRuns_124 : decode c_D_readRuns 124 = .ok (.goto 4, 3) := by decide +kernel
theorem d_D_readRuns_127 : decode c_D_readRuns 127 = .ok (.iconst 0, 1) := by decide +kernel
theorem d_D_readRuns_128 : decode c_D_readRuns 128 = .ok (.bipush 6, 2) := by decide +kernel
theorem d_D_readRuns_130 : decode c_D_readRuns 130 = .ok (.invokevirtual 68, 3) := by decide +kernel
theorem d_D_readRuns_133 : decode c_D_readRuns 133 = .ok (.aload_n 0, 1) := by decide +kernel
theorem d_D_readRuns_134 : decode c_D_readRuns 134 = .ok (.iload_n 2, 1) := by decide +kernel
theorem d_D_readRuns_135 : decode c_D_readRuns 135 = .ok (.invokevirtual 111, 3) := by decide +kernel
theorem d_D_readRuns_138 : decode c_D_readRuns 138 = .ok (.return_, 1) := by decide +kernel
theorem d_D_lowest_0 : decode c_D_lowest 0 = .ok (.iload_n 0, 1) := by decide +kernel
theorem d_D_lowest_1 : decode c_D_lowest 1 = .ok (.istore_n 2, 1) := by decide +kernel
theorem d_D_lowest_2 : decode c_D_lowest 2 = .ok (.iconst 0, 1) := by decide +kernel
theorem d_D_lowest_3 : decode c_D_lowest 3 = .ok (.istore_n 3, 1) := by decide +kernel
theorem d_D_lowest_4 : decode c_D_lowest 4 = .ok (.iload_n 3, 1) := by decide +kernel
theorem d_D_lowest_5 : decode c_D_lowest 5 = .ok (.iload_n 1, 1) := by decide +kernel
theorem d_D_lowest_6 : decode c_D_lowest 6 = .ok (.if_icmp .ge 19, 3) := by decide +kernel
theorem d_D_lowest_9 : decode c_D_lowest 9 = .ok (.iload_n 2, 1) := by decide +kernel
theorem d_D_lowest_10 : decode c_D_lowest 10 = .ok (.ifCond .eq 15, 3) := by decide +kernel
theorem d_D_lowest_13 : decode c_D_lowest 13 = .ok (.iload_n 2, 1) := by decide +kernel
theorem d_D_lowest_14 : decode c_D_lowest 14 = .ok (.iload_n 2, 1) := by decide +kernel
theorem d_D_lowest_15 : decode c_D_lowest 15 = .ok (.iconst 1, 1) := by decide +kernel
theorem d_D_lowest_16 : decode c_D_lowest 16 = .ok (.isub, 1) := by decide +kernel
theorem d_D_lowest_17 : decode c_D_lowest 17 = .ok (.iand, 1) := by decide +kernel
theorem d_D_lowest_18 : decode c_D_lowest 18 = .ok (.istore_n 2, 1) := by decide +kernel
theorem d_D_lowest_19 : decode c_D_lowest 19 = .ok (.iinc 3 1, 3) := by decide +kernel
theorem d_D_lowest_22 : decode c_D_lowest 22 = .ok (.goto (-18), 3) := by decide +kernel
theorem d_D_lowest_25 : decode c_D_lowest 25 = .ok (.iload_n 0, 1) := by decide +kernel
theorem d_D_lowest_26 : decode c_D_lowest 26 = .ok (.iload_n 2, 1) := by decide +kernel
theorem d_D_lowest_27 : decode c_D_lowest 27 = .ok (.iconst (-1), 1) := by decide +kernel
theorem d_D_lowest_28 : decode c_D_lowest 28 = .ok (.ixor, 1) := by decide +kernel
theorem d_D_lowest_29 : decode c_D_lowest 29 = .ok (.iand, 1) := by decide +kernel
theorem d_D_lowest_30 : decode c_D_lowest 30 = .ok (.ireturn, 1) := by decide +kernel
theorem d_D_readIntervals_0 : decode c_D_readIntervals 0 = .ok (.aload_n 0, 1) := by decide +kernel
theorem d_D_readIntervals_1 : decode c_D_readIntervals 1 = .ok (.invokevirtual 61, 3) := by decide +kernel
theorem d_D_readIntervals_4 : decode c_D_readIntervals 4 = .ok (.istore_n 1, 1) := by decide +kernel
theorem d_D_readIntervals_5 : decode c_D_readIntervals 5 = .ok (.iconst 0, 1) := by decide +kernel
theorem d_D_readIntervals_6 : decode c_D_readIntervals 6 = .ok (.istore_n 2, 1) := by decide +kernel
theorem d_D_readIntervals_7 : decode c_D_readIntervals 7 = .ok (.iconst 0, 1) := by decide +kernel
theorem d_D_readIntervals_8 : decode c_D_readIntervals 8 = .ok (.istore_n 3, 1) := by decide +kernel
theorem d_D_readIntervals_9 : decode c_D_readIntervals 9 = .ok (.iload_n 3, 1) := by decide +kernel
theorem d_D_readIntervals_10 : decode c_D_readIntervals 10 = .ok (.iload_n 1, 1) := by decide +kernel
theorem d_D_readIntervals_11 : decode c_D_readIntervals 11 = .ok (.if_icmp .ge 143, 3) := by decide +kernel
theorem d_D_readIntervals_14 : decode c_D_readIntervals 14 = .ok (.aload_n 0, 1) := by decide +kernel
theorem d_D_readIntervals_15 : decode c_D_readIntervals 15 = .ok (.getfield 45, 3) := by decide +kernel
theorem d_D_readIntervals_18 : decode c_D_readIntervals 18 = .ok (.ifCond .ne 136, 3) := by decide +kernel
theorem d_D_readIntervals_21 : decode c_D_readIntervals 21 = .ok (.iload_n 3, 1) := by decide +kernel
theorem d_D_readIntervals_22 : decode c_D_readIntervals 22 = .ok (.ifCond .ne 18, 3) := by decide +kernel
theorem d_D_readIntervals_25 : decode c_D_readIntervals 25 = .ok (.aload_n 0, 1) := by decide +kernel
theorem d_D_readIntervals_26 : decode c_D_readIntervals 26 = .ok (.getfield 34, 3) := by decide +kernel
theorem d_D_readIntervals_29 : decode c_D_readIntervals 29 = .ok (.aload_n 0, 1) := by decide +kernel
theorem d_D_readIntervals_30 : decode c_D_readIntervals 30 = .ok (.invokevirtual 61, 3) := by decide +kernel
theorem d_D_readIntervals_33 : decode c_D_readIntervals 33 = .ok (.invokestatic 114, 3) := by decide +kernel
theorem d_D_readIntervals_36 : decode c_D_readIntervals 36 = .ok (.iadd, 1) := by decide +kernel
theorem d_D_readIntervals_37 : decode c_D_readIntervals 37 = .ok (.goto 11, 3) := by decide +kernel
theorem d_D_readIntervals_40 : decode c_D_readIntervals 40 = .ok (.iload_n 2, 1) := by decide +kernel
theorem d_D_readIntervals_41 : decode c_D_readIntervals 41 = .ok (.iconst 2, 1) := by decide +kernel
theorem d_D_readIntervals_42 : decode c_D_readIntervals 42 = .ok (.iadd, 1) := by decide +kernel
theorem d_D_readIntervals_43 : decode c_D_readIntervals 43 = .ok (.aload_n 0, 1) := by decide +kernel
theorem d_D_readIntervals_44 : decode c_D_readIntervals 44 = .ok (.invokevirtual 61, 3) := by decide +kernel
theorem d_D_readIntervals_47 : decode c_D_readIntervals 47 = .ok (.iadd, 1) := by decide +kernel
theorem d_D_readIntervals_48 : decode c_D_readIntervals 48 = .ok (.istore 4, 2) := by decide +kernel
theorem d_D_readIntervals_50 : decode c_D_readIntervals 50 = .ok (.aload_n 0, 1) := by decide +kernel
theorem d_D_readIntervals_51 : decode c_D_readIntervals 51 = .ok (.iload 4, 2) := by decide +kernel
theorem d_D_readIntervals_53 : decode c_D_readIntervals 53 = .ok (.iconst 0, 1) := by decide +kernel
theorem d_D_readIntervals_54 : decode c_D_readIntervals 54 = .ok (.aload_n 0, 1) := by decide +kernel
theorem d_D_readIntervals_55 : decode c_D_readIntervals 55 = .ok (.getfield 7, 3) := by decide +kernel
theorem d_D_readIntervals_58 : decode c_D_readIntervals 58 = .ok (.iconst 1, 1) := by decide +kernel
theorem d_D_readIntervals_59 : decode c_D_readIntervals 59 = .ok (.isub, 1) := by decide +kernel
theorem d_D_readIntervals_60 : decode c_D_readIntervals 60 = .ok (.invokestatic 119, 3) := by decide +kernel
theorem d_D_readIntervals_63 : decode c_D_readIntervals 63 = .ok (.ifCond .ne 7, 3) := by decide +kernel
theorem d_D_readIntervals_66 : decode c_D_readIntervals 66 = .ok (.iconst 1, 1) := by decide +kernel
theorem d_D_readIntervals_67 : decode c_D_readIntervals 67 = .ok (.goto 4, 3) := by decide +kernel
theorem d_D_readIntervals_70 : decode c_D_readIntervals 70 = .ok (.iconst 0, 1) := by decide +kernel
theorem d_D_readIntervals_71 : decode c_D_readIntervals 71 = .ok (.bipush 7, 2) := by decide +kernel
theorem d_D_readIntervals_73 : decode c_D_readIntervals 73 = .ok (.invokevirtual 68, 3) := by decide +kernel
theorem d_D_readIntervals_76 : decode c_D_readIntervals 76 = .ok (.aload_n 0, 1) := by decide +kernel
theorem d_D_readIntervals_77 : decode c_D_readIntervals 77 = .ok (.invokevirtual 61, 3) := by decide +kernel
theorem d_D_readIntervals_80 : decode c_D_readIntervals 80 = .ok (.aload_n 0, 1) := by decide +kernel
theorem d_D_readIntervals_81 : decode c_D_readIntervals 81 = .ok (.getfield 13, 3) := by decide +kernel
theorem d_D_readIntervals_84 : decode c_D_readIntervals 84 = .ok (.getfield 86, 3) := by decide +kernel
theorem d_D_readIntervals_87 : decode c_D_readIntervals 87 = .ok (.iadd, 1) := by decide +kernel
theorem d_D_readIntervals_88 : decode c_D_readIntervals 88 = .ok (.istore 5, 2) := by decide +kernel
theorem d_D_readIntervals_90 : decode c_D_readIntervals 90 = .ok (.iload 4, 2) := by decide +kernel
theorem d_D_readIntervals_92 : decode c_D_readIntervals 92 = .ok (.iload 5, 2) := by decide +kernel
theorem d_D_readIntervals_94 : decode c_D_readIntervals 94 = .ok (.iadd, 1) := by decide +kernel
theorem d_D_readIntervals_95 : decode c_D_readIntervals 95 = .ok (.iconst 1, 1) := by decide +kernel
theorem d_D_readIntervals_96 : decode c_D_readIntervals 96 = .ok (.isub, 1) := by decide +kernel
theorem d_D_readIntervals_97 : decode c_D_readIntervals 97 = .ok (.istore_n 2, 1) := by decide +kernel
theorem d_D_readIntervals_98 : decode c_D_readIntervals 98 = .ok (.aload_n 0, 1) := by decide +kernel
theorem d_D_readIntervals_99 : decode c_D_readIntervals 99 = .ok (.iload_n 2, 1) := by decide +kernel
theorem d_D_readIntervals_100 : decode c_D_readIntervals 100 = .ok (.aload_n 0, 1) := by decide +kernel
theorem d_D_readIntervals_101 : decode c_D_readIntervals 101 = .ok (.getfield 7, 3) := by decide +kernel
theorem d_D_readIntervals_104 : decode c_D_readIntervals 104 = .ok (.iconst 1, 1) := by decide +kernel
theorem d_D_readIntervals_105 : decode c_D_readIntervals 105 = .ok (.isub, 1) := by decide +kernel
theorem d_D_readIntervals_106 : decode c_D_readIntervals 106 = .ok (.if_icmp .gt 12, 3) := by decide +kernel
theorem d_D_readIntervals_109 : decode c_D_readIntervals 109 = .ok (.iload 5, 2) := by decide +kernel
theorem d_D_readIntervals_111 : decode c_D_readIntervals 111 = .ok (.aload_n 0, 1) := by decide +kernel
theorem d_D_readIntervals_112 : decode c_D_readIntervals 112 = .ok (.getfield 65, 3) := by decide +kernel
theorem d_D_readIntervals_115 : decode c_D_readIntervals 115 = .ok (.if_icmp .le 7, 3) := by decide +kernel
theorem d_D_readIntervals_118 : decode c_D_readIntervals 118 = .ok (.iconst 1, 1) := by decide +kernel
theorem d_D_readIntervals_119 : decode c_D_readIntervals 119 = .ok (.goto 4, 3) := by decide +kernel
theorem d_D_readIntervals_122 : decode c_D_readIntervals 122 = .ok (.iconst 0, 1) := by decide +kernel
theorem d_D_readIntervals_123 : decode c_D_readIntervals 123 = .ok (.bipush 7, 2) := by decide +kernel
theorem d_D_readIntervals_125 : decode c_D_readIntervals 125 = .ok (.invokevirtual 68, 3) := by decide +kernel
theorem d_D_readIntervals_128 : decode c_D_readIntervals 128 = .ok (.aload_n 0, 1) := by decide +kernel
theorem d_D_readIntervals_129 : decode c_D_readIntervals 129 = .ok (.getfield 45, 3) := by decide +kernel
theorem d_D_readIntervals_132 : decode c_D_readIntervals 132 = .ok (.ifCond .ne 16, 3) := by decide +kernel
theorem d_D_readIntervals_135 : decode c_D_readIntervals 135 = .ok (.aload_n 0, 1) := by decide +kernel
theorem d_D_readIntervals_136 : decode c_D_readIntervals 136 = .ok (.iconst 1, 1) := by decide +kernel
theorem d_D_readIntervals_137 : decode c_D_readIntervals 137 = .ok (.iload 5, 2) := by decide +kernel
theorem d_D_readIntervals_139 : decode c_D_readIntervals 139 = .ok (.ishl, 1) := by decide +kernel
theorem d_D_readIntervals_140 : decode c_D_readIntervals 140 = .ok (.iconst 1, 1) := by decide +kernel
theorem d_D_readIntervals_141 : decode c_D_readIntervals 141 = .ok (.isub, 1) := by decide +kernel
theorem d_D_readIntervals_142 : decode c_D_readIntervals 142 = .ok (.iload 4, 2) := by decide +kernel
theorem d_D_readIntervals_144 : decode c_D_readIntervals 144 = .ok (.ishl, 1) := by decide +kernel
theorem d_D_readIntervals_145 : decode c_D_readIntervals 145 = .ok (.invokevirtual 111, 3) := by decide +kernel
theorem d_D_readIntervals_148 : decode c_D_readIntervals 148 = .ok (.iinc 3 1, 3) := by decide +kernel
theorem d_D_readIntervals_151 : decode c_D_readIntervals 151 = .ok (.goto (-142), 3) := by decide +kernel
theorem d_D_readIntervals_154 : decode c_D_readIntervals 154 = .ok (.return_, 1) := by decide +kernel
theorem d_D_readSingles_0 : decode c_D_readSingles 0 = .ok (.aload_n 0, 1) := by decide +kernel
theorem d_D_readSingles_1 : decode c_D_readSingles 1 = .ok (.getfield 65, 3) := by decide +kernel
theorem d_D_readSingles_4 : decode c_D_readSingles 4 = .ok (.istore_n 1, 1) := by decide +kernel
theorem d_D_readSingles_5 : decode c_D_readSingles 5 = .ok (.iconst 0, 1) := by decide +kernel
theorem d_D_readSingles_6 : decode c_D_readSingles 6 = .ok (.istore_n 2, 1) := by decide +kernel
theorem d_D_readSingles_7 : decode c_D_readSingles 7 = .ok (.iconst 0, 1) := by decide +kernel
theorem d_D_readSingles_8 : decode c_D_readSingles 8 = .ok (.istore_n 3, 1) := by decide +kernel
theorem d_D_readSingles_9 : decode c_D_readSingles 9 = .ok (.iload_n 3, 1) := by decide +kernel
theorem d_D_readSingles_10 : decode c_D_readSingles 10 = .ok (.iload_n 1, 1) := by decide +kernel
theorem d_D_readSingles_11 : decode c_D_readSingles 11 = .ok (.if_icmp .ge 83, 3) := by decide +kernel
theorem d_D_readSingles_14 : decode c_D_readSingles 14 = .ok (.aload_n 0, 1) := by decide +kernel
theorem d_D_readSingles_15 : decode c_D_readSingles 15 = .ok (.getfield 45, 3) := by decide +kernel
theorem d_D_readSingles_18 : decode c_D_readSingles 18 = .ok (.ifCond .ne 76, 3) := by decide +kernel
theorem d_D_readSingles_21 : decode c_D_readSingles 21 = .ok (.iload_n 3, 1) := by decide +kernel
theorem d_D_readSingles_22 : decode c_D_readSingles 22 = .ok (.ifCond .ne 18, 3) := by decide +kernel
theorem d_D_readSingles_25 : decode c_D_readSingles 25 = .ok (.aload_n 0, 1) := by decide +kernel
theorem d_D_readSingles_26 : decode c_D_readSingles 26 = .ok (.getfield 34, 3) := by decide +kernel
theorem d_D_readSingles_29 : decode c_D_readSingles 29 = .ok (.aload_n 0, 1) := by decide +kernel
theorem d_D_readSingles_30 : decode c_D_readSingles 30 = .ok (.invokevirtual 125, 3) := by decide +kernel
theorem d_D_readSingles_33 : decode c_D_readSingles 33 = .ok (.invokestatic 114, 3) := by decide +kernel
theorem d_D_readSingles_36 : decode c_D_readSingles 36 = .ok (.iadd, 1) := by decide +kernel
theorem d_D_readSingles_37 : decode c_D_readSingles 37 = .ok (.goto 11, 3) := by decide +kernel
theorem d_D_readSingles_40 : decode c_D_readSingles 40 = .ok (.iload_n 2, 1) := by decide +kernel
theorem d_D_readSingles_41 : decode c_D_readSingles 41 = .ok (.iconst 1, 1) := by decide +kernel
theorem d_D_readSingles_42 : decode c_D_readSingles 42 = .ok (.iadd, 1) := by decide +kernel
theorem d_D_readSingles_43 : decode c_D_readSingles 43 = .ok (.aload_n 0, 1) := by decide +kernel
theorem d_D_readSingles_44 : decode c_D_readSingles 44 = .ok (.invokevirtual 125, 3) := by decide +kernel
theorem d_D_readSingles_47 : decode c_D_readSingles 47 = .ok (.iadd, 1) := by decide +kernel
theorem d_D_readSingles_48 : decode c_D_readSingles 48 = .ok (.istore_n 2, 1) := by decide +kernel
theorem d_D_readSingles_49 : decode c_D_readSingles 49 = .ok (.aload_n 0, 1) := by decide +kernel
theorem d_D_readSingles_50 : decode c_D_readSingles 50 = .ok (.iload_n 2, 1) := by decide +kernel
theorem d_D_readSingles_51 : decode c_D_readSingles 51 = .ok (.iconst 0, 1) := by decide +kernel
theorem d_D_readSingles_52 : decode c_D_readSingles 52 = .ok (.aload_n 0, 1) := by decide +kernel
theorem d_D_readSingles_53 : decode c_D_readSingles 53 = .ok (.getfield 7, 3) := by decide +kernel
theorem d_D_readSingles_56 : decode c_D_readSingles 56 = .ok (.iconst 1, 1) := by decide +kernel
theorem d_D_readSingles_57 : decode c_D_readSingles 57 = .ok (.isub, 1) := by decide +kernel
theorem d_D_readSingles_58 : decode c_D_readSingles 58 = .ok (.invokestatic 119, 3) := by decide +kernel
theorem d_D_readSingles_61 : decode c_D_readSingles 61 = .ok (.ifCond .ne 7, 3) := by decide +kernel
theorem d_D_readSingles_64 : decode c_D_readSingles 64 = .ok (.iconst 1, 1) := by decide +kernel
theorem d_D_readSingles_65 : decode c_D_readSingles 65 = .ok (.goto 4, 3) := by decide +kernel
theorem d_D_readSingles_68 : decode c_D_readSingles 68 = .ok (.iconst 0, 1) := by decide +kernel
theorem d_D_readSingles_69 : decode c_D_readSingles 69 = .ok (.bipush 8, 2) := by decide +kernel
theorem d_D_readSingles_71 : decode c_D_readSingles 71 = .ok (.invokevirtual 68, 3) := by decide +kernel
theorem d_D_readSingles_74 : decode c_D_readSingles 74 = .ok (.aload_n 0, 1) := by decide +kernel
theorem d_D_readSingles_75 : decode c_D_readSingles 75 = .ok (.getfield 45, 3) := by decide +kernel
theorem d_D_readSingles_78 : decode c_D_readSingles 78 = .ok (.ifCond .ne 10, 3) := by decide +kernel
theorem d_D_readSingles_81 : decode c_D_readSingles 81 = .ok (.aload_n 0, 1) := by decide +kernel
theorem d_D_readSingles_82 : decode c_D_readSingles 82 = .ok (.iconst 1, 1) := by decide +kernel
theorem d_D_readSingles_83 : decode c_D_readSingles 83 = .ok (.iload_n 2, 1) := by decide +kernel
theorem d_D_readSingles_84 : decode c_D_readSingles 84 = .ok (.ishl, 1) := by decide +kernel
theorem d_D_readSingles_85 : decode c_D_readSingles 85 = .ok (.invokevirtual 111, 3) := by decide +kernel
theorem d_D_readSingles_88 : decode c_D_readSingles 88 = .ok (.iinc 3 1, 3) := by decide +kernel
theorem d_D_readSingles_91 : decode c_D_readSingles 91 = .ok (.goto (-82), 3) := by decide +kernel
theorem d_D_readSingles_94 : decode c_D_readSingles 94 = .ok (.return_, 1) := by decide +kernel
theorem d_D_take_0 : decode c_D_take 0 = .ok (.aload_n 0, 1) := by decide +kernel
theorem d_D_take_1 : decode c_D_take 1 = .ok (.aload_n 0, 1) := by decide +kernel
theorem d_D_take_2 : decode c_D_take 2 = .ok (.getfield 54, 3) := by decide +kernel
theorem d_D_take_5 : decode c_D_take 5 = .ok (.ifCond .ne 12, 3) := by decide +kernel
theorem d_D_take_8 : decode c_D_take 8 = .ok (.aload_n 0, 1) := by decide +kernel
theorem d_D_take_9 : decode c_D_take 9 = .ok (.getfield 51, 3) := by decide +kernel
theorem d_D_take_12 : decode c_D_take 12 = .ok (.iload_n 1, 1) := by decide +kernel
theorem d_D_take_13 : decode c_D_take 13 = .ok (.iand, 1) := by decide +kernel
theorem d_D_take_14 : decode c_D_take 14 = .ok (.ifCond .eq 7, 3) := by decide +kernel
theorem d_D_take_17 : decode c_D_take 17 = .ok (.iconst 1, 1) := by decide +kernel
theorem d_D_take_18 : decode c_D_take 18 = .ok (.goto 4, 3) := by decide +kernel
theorem d_D_take_21 : decode c_D_take 21 = .ok (.iconst 0, 1) := by decide +kernel
theorem d_D_take_22 : decode c_D_take 22 = .ok (.putfield 54, 3) := by decide +kernel
theorem d_D_take_25 : decode c_D_take 25 = .ok (.aload_n 0, 1) := by decide +kernel
theorem d_D_take_26 : decode c_D_take 26 = .ok (.dup, 1) := by decide +kernel
theorem d_D_take_27 : decode c_D_take 27 = .ok (.getfield 51, 3) := by decide +kernel
theorem d_D_take_30 : decode c_D_take 30 = .ok (.iload_n 1, 1) := by decide +kernel
theorem d_D_take_31 : decode c_D_take 31 = .ok (.ior, 1) := by decide +kernel
theorem d_D_take_32 : decode c_D_take 32 = .ok (.putfield 51, 3) := by decide +kernel
theorem d_D_take_35 : decode c_D_take 35 = .ok (.aload_n 0, 1) := by decide +kernel
theorem d_D_take_36 : decode c_D_take 36 = .ok (.dup, 1) := by decide +kernel
theorem d_D_take_37 : decode c_D_take 37 = .ok (.getfield 65, 3) := by decide +kernel
theorem d_D_take_40 : decode c_D_take 40 = .ok (.iload_n 1, 1) := by decide +kernel
theorem d_D_take_41 : decode c_D_take 41 = .ok (.invokestatic 101, 3) := by decide +kernel
theorem d_D_take_44 : decode c_D_take 44 = .ok (.isub, 1) := by decide +kernel
theorem d_D_take_45 : decode c_D_take 45 = .ok (.putfield 65, 3) := by decide +kernel
theorem d_D_take_48 : decode c_D_take 48 = .ok (.return_, 1) := by decide +kernel
theorem d_D_nextBit_0 : decode c_D_nextBit 0 = .ok (.aload_n 0, 1) := by decide +kernel
theorem d_D_nextBit_1 : decode c_D_nextBit 1 = .ok (.getfield 45, 3) := by decide +kernel
theorem d_D_nextBit_4 : decode c_D_nextBit 4 = .ok (.ifCond .ne 22, 3) := by decide +kernel
theorem d_D_nextBit_7 : decode c_D_nextBit 7 = .ok (.aload_n 0, 1) := by decide +kernel
theorem d_D_nextBit_8 : decode c_D_nextBit 8 = .ok (.getfield 42, 3) := by decide +kernel
theorem d_D_nextBit_11 : decode c_D_nextBit 11 = .ok (.aload_n 0, 1) := by decide +kernel
theorem d_D_nextBit_12 : decode c_D_nextBit 12 = .ok (.getfield 17, 3) := by decide +kernel
theorem d_D_nextBit_15 : decode c_D_nextBit 15 = .ok (.getfield 128, 3) := by decide +kernel
theorem d_D_nextBit_18 : decode c_D_nextBit 18 = .ok (.if_icmp .lt 8, 3) := by decide +kernel
theorem d_D_nextBit_21 : decode c_D_nextBit 21 = .ok (.aload_n 0, 1) := by decide +kernel
theorem d_D_nextBit_22 : decode c_D_nextBit 22 = .ok (.iconst 1, 1) := by decide +kernel
theorem d_D_nextBit_23 : decode c_D_nextBit 23 = .ok (.putfield 45, 3) := by decide +kernel
theorem d_D_nextBit_26 : decode c_D_nextBit 26 = .ok (.aload_n 0, 1) := by decide +kernel
theorem d_D_nextBit_27 : decode c_D_nextBit 27 = .ok (.getfield 45, 3) := by decide +kernel
theorem d_D_nextBit_30 : decode c_D_nextBit 30 = .ok (.ifCond .eq 5, 3) := by decide +kernel
theorem d_D_nextBit_33 : decode c_D_nextBit 33 = .ok (.iconst 1, 1) := by decide +kernel
theorem d_D_nextBit_34 : decode c_D_nextBit 34 = .ok (.ireturn, 1) := by decide +kernel
theorem d_D_nextBit_35 : decode c_D_nextBit 35 = .ok (.aload_n 0, 1) := by decide +kernel
theorem d_D_nextBit_36 : decode c_D_nextBit 36 = .ok (.dup, 1) := by decide +kernel
theorem d_D_nextBit_37 : decode c_D_nextBit 37 = .ok (.getfield 42, 3) := by decide +kernel
theorem d_D_nextBit_40 : decode c_D_nextBit 40 = .ok (.iconst 1, 1) := by decide +kernel
theorem d_D_nextBit_41 : decode c_D_nextBit 41 = .ok (.iadd, 1) := by decide +kernel
theorem d_D_nextBit_42 : decode c_D_nextBit 42 = .ok (.putfield 42, 3) := by decide +kernel
theorem d_D_nextBit_45 : decode c_D_nextBit 45 = .ok (.aload_n 0, 1) := by decide +kernel
theorem d_D_nextBit_46 : decode c_D_nextBit 46 = .ok (.getfield 17, 3) := by decide +kernel
theorem d_D_nextBit_49 : decode c_D_nextBit 49 = .ok (.getfield 131, 3) := by decide +kernel
theorem d_D_nextBit_52 : decode c_D_nextBit 52 = .ok (.aload_n 0, 1) := by decide +kernel
theorem d_D_nextBit_53 : decode c_D_nextBit 53 = .ok (.getfield 42, 3) := by decide +kernel
theorem d_D_nextBit_56 : decode c_D_nextBit 56 = .ok (.iconst 1, 1) := by decide +kernel
theorem d_D_nextBit_57 : decode c_D_nextBit 57 = .ok (.isub, 1) := by decide +kernel
theorem d_D_nextBit_58 : decode c_D_nextBit 58 = .ok (.baload, 1) := by decide +kernel
theorem d_D_nextBit_59 : decode c_D_nextBit 59 = .ok (.ireturn, 1) := by decide +kernel
theorem d_D_nextUnary_0 : decode c_D_nextUnary 0 = .ok (.iconst 0, 1) := by decide +kernel
theorem d_D_nextUnary_1 : decode c_D_nextUnary 1 = .ok (.istore_n 1, 1) := by decide +kernel
theorem d_D_nextUnary_2 : decode c_D_nextUnary 2 = .ok (.iload_n 1, 1) := by decide +kernel
theorem d_D_nextUnary_3 : decode c_D_nextUnary 3 = .ok (.bipush 7, 2) := by decide +kernel
theorem d_D_nextUnary_5 : decode c_D_nextUnary 5 = .ok (.if_icmp .ge 19, 3) := by decide +kernel
theorem d_D_nextUnary_8 : decode c_D_nextUnary 8 = .ok (.aload_n 0, 1) := by decide +kernel
theorem d_D_nextUnary_9 : decode c_D_nextUnary 9 = .ok (.invokevirtual 135, 3) := by decide +kernel
theorem d_D_nextUnary_12 : decode c_D_nextUnary 12 = .ok (.iconst 1, 1) := by decide +kernel
theorem d_D_nextUnary_13 : decode c_D_nextUnary 13 = .ok (.if_icmp .ne 5, 3) := by decide +kernel
theorem d_D_nextUnary_16 : decode c_D_nextUnary 16 = .ok (.iload_n 1, 1) := by decide +kernel
theorem d_D_nextUnary_17 : decode c_D_nextUnary 17 = .ok (.ireturn, 1) := by decide +kernel
theorem d_D_nextUnary_18 : decode c_D_nextUnary 18 = .ok (.iinc 1 1, 3) := by decide +kernel
theorem d_D_nextUnary_21 : decode c_D_nextUnary 21 = .ok (.goto (-19), 3) := by decide +kernel
theorem d_D_nextUnary_24 : decode c_D_nextUnary 24 = .ok (.aload_n 0, 1) := by decide +kernel
theorem d_D_nextUnary_25 : decode c_D_nextUnary 25 = .ok (.iconst 1, 1) := by decide +kernel
theorem d_D_nextUnary_26 : decode c_D_nextUnary 26 = .ok (.iconst 2, 1) := by decide +kernel
theorem d_D_nextUnary_27 : decode c_D_nextUnary 27 = .ok (.invokevirtual 68, 3) := by decide +kernel
theorem d_D_nextUnary_30 : decode c_D_nextUnary 30 = .ok (.iconst 0, 1) := by decide +kernel
theorem d_D_nextUnary_31 : decode c_D_nextUnary 31 = .ok (.ireturn, 1) := by decide +kernel
theorem d_D_nextNumber_0 : decode c_D_nextNumber 0 = .ok (.iload_n 1, 1) := by decide +kernel
theorem d_D_nextNumber_1 : decode c_D_nextNumber 1 = .ok (.istore_n 3, 1) := by decide +kernel
theorem d_D_nextNumber_2 : decode c_D_nextNumber 2 = .ok (.iconst 0, 1) := by decide +kernel
theorem d_D_nextNumber_3 : decode c_D_nextNumber 3 = .ok (.istore 4, 2) := by decide +kernel
theorem d_D_nextNumber_5 : decode c_D_nextNumber 5 = .ok (.iload 4, 2) := by decide +kernel
theorem d_D_nextNumber_7 : decode c_D_nextNumber 7 = .ok (.iload_n 2, 1) := by decide +kernel
theorem d_D_nextNumber_8 : decode c_D_nextNumber 8 = .ok (.if_icmp .ge 18, 3) := by decide +kernel
theorem d_D_nextNumber_11 : decode c_D_nextNumber 11 = .ok (.iconst 2, 1) := by decide +kernel
theorem d_D_nextNumber_12 : decode c_D_nextNumber 12 = .ok (.iload_n 3, 1) := by decide +kernel
theorem d_D_nextNumber_13 : decode c_D_nextNumber 13 = .ok (.imul, 1) := by decide +kernel
theorem d_D_nextNumber_14 : decode c_D_nextNumber 14 = .ok (.aload_n 0, 1) := by decide +kernel
theorem d_D_nextNumber_15 : decode c_D_nextNumber 15 = .ok (.invokevirtual 135, 3) := by decide +kernel
theorem d_D_nextNumber_18 : decode c_D_nextNumber 18 = .ok (.iadd, 1) := by decide +kernel
theorem d_D_nextNumber_19 : decode c_D_nextNumber 19 = .ok (.istore_n 3, 1) := by decide +kernel
theorem d_D_nextNumber_20 : decode c_D_nextNumber 20 = .ok (.iinc 4 1, 3) := by decide +kernel
theorem d_D_nextNumber_23 : decode c_D_nextNumber 23 = .ok (.goto (-18), 3) := by decide +kernel
theorem d_D_nextNumber_26 : decode c_D_nextNumber 26 = .ok (.iload_n 3, 1) := by decide +kernel
theorem d_D_nextNumber_27 : decode c_D_nextNumber 27 = .ok (.ireturn, 1) := by decide +kernel
theorem d_D_nextGamma_0 : decode c_D_nextGamma 0 = .ok (.aload_n 0, 1) := by decide +kernel
theorem d_D_nextGamma_1 : decode c_D_nextGamma 1 = .ok (.iconst 1, 1) := by decide +kernel
theorem d_D_nextGamma_2 : decode c_D_nextGamma 2 = .ok (.aload_n 0, 1) := by decide +kernel
theorem d_D_nextGamma_3 : decode c_D_nextGamma 3 = .ok (.invokevirtual 95, 3) := by decide +kernel
theorem d_D_nextGamma_6 : decode c_D_nextGamma 6 = .ok (.invokevirtual 138, 3) := by decide +kernel
theorem d_D_nextGamma_9 : decode c_D_nextGamma 9 = .ok (.iconst 1, 1) := by decide +kernel
theorem d_D_nextGamma_10 : decode c_D_nextGamma 10 = .ok (.isub, 1) := by decide +kernel
theorem d_D_nextGamma_11 : decode c_D_nextGamma 11 = .ok (.ireturn, 1) := by decide +kernel
theorem d_D_nextZeta_0 : decode c_D_nextZeta 0 = .ok (.aload_n 0, 1) := by decide +kernel
theorem d_D_nextZeta_1 : decode c_D_nextZeta 1 = .ok (.invokevirtual 95, 3) := by decide +kernel
theorem d_D_nextZeta_4 : decode c_D_nextZeta 4 = .ok (.istore_n 1, 1) := by decide +kernel
theorem d_D_nextZeta_5 : decode c_D_nextZeta 5 = .ok (.iconst 1, 1) := by decide +kernel
theorem d_D_nextZeta_6 : decode c_D_nextZeta 6 = .ok (.iload_n 1, 1) := by decide +kernel
theorem d_D_nextZeta_7 : decode c_D_nextZeta 7 = .ok (.aload_n 0, 1) := by decide +kernel
theorem d_D_nextZeta_8 : decode c_D_nextZeta 8 = .ok (.getfield 13, 3) := by decide +kernel
theorem d_D_nextZeta_11 : decode c_D_nextZeta 11 = .ok (.getfield 141, 3) := by decide +kernel
theorem d_D_nextZeta_14 : decode c_D_nextZeta 14 = .ok (.imul, 1) := by decide +kernel
theorem d_D_nextZeta_15 : decode c_D_nextZeta 15 = .ok (.ishl, 1) := by decide +kernel
theorem d_D_nextZeta_16 : decode c_D_nextZeta 16 = .ok (.istore_n 2, 1) := by decide +kernel
theorem d_D_nextZeta_17 : decode c_D_nextZeta 17 = .ok (.aload_n 0, 1) := by decide +kernel
theorem d_D_nextZeta_18 : decode c_D_nextZeta 18 = .ok (.iconst 0, 1) := by decide +kernel
theorem d_D_nextZeta_19 : decode c_D_nextZeta 19 = .ok (.iload_n 1, 1) := by decide +kernel
theorem d_D_nextZeta_20 : decode c_D_nextZeta 20 = .ok (.aload_n 0, 1) := by decide +kernel
theorem d_D_nextZeta_21 : decode c_D_nextZeta 21 = .ok (.getfield 13, 3) := by decide +kernel
theorem d_D_nextZeta_24 : decode c_D_nextZeta 24 = .ok (.getfield 141, 3) := by decide +kernel
theorem d_D_nextZeta_27 : decode c_D_nextZeta 27 = .ok (.imul, 1) := by decide +kernel
theorem d_D_nextZeta_28 : decode c_D_nextZeta 28 = .ok (.aload_n 0, 1) := by decide +kernel
theorem d_D_nextZeta_29 : decode c_D_nextZeta 29 = .ok (.getfield 13, 3) := by decide +kernel
theorem d_D_nextZeta_32 : decode c_D_nextZeta 32 = .ok (.getfield 141, 3) := by decide +kernel
theorem d_D_nextZeta_35 : decode c_D_nextZeta 35 = .ok (.iadd, 1) := by decide +kernel
theorem d_D_nextZeta_36 : decode c_D_nextZeta 36 = .ok (.iconst 1, 1) := by decide +kernel
theorem d_D_nextZeta_37 : decode c_D_nextZeta 37 = .ok (.isub, 1) := by decide +kernel
theorem d_D_nextZeta_38 : decode c_D_nextZeta 38 = .ok (.invokevirtual 138, 3) := by decide +kernel
theorem d_D_nextZeta_41 : decode c_D_nextZeta 41 = .ok (.istore_n 3, 1) := by decide +kernel
theorem d_D_nextZeta_42 : decode c_D_nextZeta 42 = .ok (.iload_n 3, 1) := by decide +kernel
theorem d_D_nextZeta_43 : decode c_D_nextZeta 43 = .ok (.iload_n 2, 1) := by decide +kernel
theorem d_D_nextZeta_44 : decode c_D_nextZeta 44 = .ok (.if_icmp .ge 11, 3) := by decide +kernel
theorem d_D_nextZeta_47 : decode c_D_nextZeta 47 = .ok (.iload_n 3, 1) := by decide +kernel
theorem d_D_nextZeta_48 : decode c_D_nextZeta 48 = .ok (.iload_n 2, 1) := by decide +kernel
theorem d_D_nextZeta_49 : decode c_D_nextZeta 49 = .ok (.iadd, 1) := by decide +kernel
theorem d_D_nextZeta_50 : decode c_D_nextZeta 50 = .ok (.iconst 1, 1) := by decide +kernel
theorem d_D_nextZeta_51 : decode c_D_nextZeta 51 = .ok (.isub, 1) := by decide +kernel
theorem d_D_nextZeta_52 : decode c_D_nextZeta 52 = .ok (.goto 11, 3) := by decide +kernel
theorem d_D_nextZeta_55 : decode c_D_nextZeta 55 = .ok (.aload_n 0, 1) := by decide +kernel
theorem d_D_nextZeta_56 : decode c_D_nextZeta 56 = .ok (.iload_n 3, 1) := by decide +kernel
theorem d_D_nextZeta_57 : decode c_D_nextZeta 57 = .ok (.iconst 1, 1) := by decide +kernel
theorem d_D_nextZeta_58 : decode c_D_nextZeta 58 = .ok (.invokevirtual 138, 3) := by decide +kernel
theorem d_D_nextZeta_61 : decode c_D_nextZeta 61 = .ok (.iconst 1, 1) := by decide +kernel
theorem d_D_nextZeta_62 : decode c_D_nextZeta 62 = .ok (.isub, 1) := by decide +kernel
theorem d_D_nextZeta_63 : decode c_D_nextZeta 63 = .ok (.ireturn, 1) := by decide +kernel
theorem d_J_bitCount_0 : decode c_J_bitCount 0 = .ok (.iload_n 0, 1) := by decide +kernel
theorem d_J_bitCount_1 : decode c_J_bitCount 1 = .ok (.iload_n 0, 1) := by decide +kernel
theorem d_J_bitCount_2 : decode c_J_bitCount 2 = .ok (.iconst 1, 1) := by decide +kernel
theorem d_J_bitCount_3 : decode c_J_bitCount 3 = .ok (.iushr, 1) := by decide +kernel
theorem d_J_bitCount_4 : decode c_J_bitCount 4 = .ok (.ldc_w 265, 3) := by decide +kernel
theorem d_J_bitCount_7 : decode c_J_bitCount 7 = .ok (.iand, 1) := by decide +kernel
theorem d_J_bitCount_8 : decode c_J_bitCount 8 = .ok (.isub, 1) := by decide +kernel
theorem d_J_bitCount_9 : decode c_J_bitCount 9 = .ok (.istore_n 0, 1) := by decide +kernel
theorem d_J_bitCount_10 : decode c_J_bitCount 10 = .ok (.iload_n 0, 1) := by decide +kernel
theorem d_J_bitCount_11 : decode c_J_bitCount 11 = .ok (.ldc_w 266, 3) := by decide +kernel
theorem d_J_bitCount_14 : decode c_J_bitCount 14 = .ok (.iand, 1) := by decide +kernel
theorem d_J_bitCount_15 : decode c_J_bitCount 15 = .ok (.iload_n 0, 1) := by decide +kernel
theorem d_J_bitCount_16 : decode c_J_bitCount 16 = .ok (.iconst 2, 1) := by decide +kernel
theorem d_J_bitCount_17 : decode c_J_bitCount 17 = .ok (.iushr, 1) := by decide +kernel
theorem d_J_bitCount_18 : decode c_J_bitCount 18 = .ok (.ldc_w 266, 3) := by decide +kernel
theorem d_J_bitCount_21 : decode c_J_bitCount 21 = .ok (.iand, 1) := by decide +kernel
theorem d_J_bitCount_22 : decode c_J_bitCount 22 = .ok (.iadd, 1) := by decide +kernel
theorem d_J_bitCount_23 : decode c_J_bitCount 23 = .ok (.istore_n 0, 1) := by decide +kernel
theorem d_J_bitCount_24 : decode c_J_bitCount 24 = .ok (.iload_n 0, 1) := by decide +kernel
theorem d_J_bitCount_25 : decode c_J_bitCount 25 = .ok (.iload_n 0, 1) := by decide +kernel
theorem d_J_bitCount_26 : decode c_J_bitCount 26 = .ok (.iconst 4, 1) := by decide +kernel
theorem d_J_bitCount_27 : decode c_J_bitCount 27 = .ok (.iushr, 1) := by decide +kernel
theorem d_J_bitCount_28 : decode c_J_bitCount 28 = .ok (.iadd, 1) := by decide +kernel
theorem d_J_bitCount_29 : decode c_J_bitCount 29 = .ok (.ldc_w 267, 3) := by decide +kernel
theorem d_J_bitCount_32 : decode c_J_bitCount 32 = .ok (.iand, 1) := by decide +kernel
theorem d_J_bitCount_33 : decode c_J_bitCount 33 = .ok (.istore_n 0, 1) := by decide +kernel
theorem d_J_bitCount_34 : decode c_J_bitCount 34 = .ok (.iload_n 0, 1) := by decide +kernel
theorem d_J_bitCount_35 : decode c_J_bitCount 35 = .ok (.iload_n 0, 1) := by decide +kernel
theorem d_J_bitCount_36 : decode c_J_bitCount 36 = .ok (.bipush 8, 2) := by decide +kernel
theorem d_J_bitCount_38 : decode c_J_bitCount 38 = .ok (.iushr, 1) := by decide +kernel
theorem d_J_bitCount_39 : decode c_J_bitCount 39 = .ok (.iadd, 1) := by decide +kernel
theorem d_J_bitCount_40 : decode c_J_bitCount 40 = .ok (.istore_n 0, 1) := by decide +kernel
theorem d_J_bitCount_41 : decode c_J_bitCount 41 = .ok (.iload_n 0, 1) := by decide +kernel
theorem d_J_bitCount_42 : decode c_J_bitCount 42 = .ok (.iload_n 0, 1) := by decide +kernel
theorem d_J_bitCount_43 : decode c_J_bitCount 43 = .ok (.bipush 16, 2) := by decide +kernel
theorem d_J_bitCount_45 : decode c_J_bitCount 45 = .ok (.iushr, 1) := by decide +kernel
theorem d_J_bitCount_46 : decode c_J_bitCount 46 = .ok (.iadd, 1) := by decide +kernel
theorem d_J_bitCount_47 : decode c_J_bitCount 47 = .ok (.istore_n 0, 1) := by decide +kernel
theorem d_J_bitCount_48 : decode c_J_bitCount 48 = .ok (.iload_n 0, 1) := by decide +kernel
theorem d_J_bitCount_49 : decode c_J_bitCount 49 = .ok (.bipush 63, 2) := by decide +kernel
theorem d_J_bitCount_51 : decode c_J_bitCount 51 = .ok (.iand, 1) := by decide +kernel
theorem d_J_bitCount_52 : decode c_J_bitCount 52 = .ok (.ireturn, 1) := by decide +kernel
