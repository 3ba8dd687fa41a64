theorem dL_cell_0 : decode cL_cell 0 = .ok (.iload_n 1, 1) := by decide +kernel
theorem dL_cell_1 : decode cL_cell 1 = .ok (.aload_n 0, 1) := by decide +kernel
theorem dL_cell_2 : decode cL_cell 2 = .ok (.arraylength, 1) := by decide +kernel
theorem dL_cell_3 : decode cL_cell 3 = .ok (.if_icmp .ge 9, 3) := by decide +kernel
theorem dL_cell_6 : decode cL_cell 6 = .ok (.aload_n 0, 1) := by decide +kernel
theorem dL_cell_7 : decode cL_cell 7 = .ok (.iload_n 1, 1) := by decide +kernel
theorem dL_cell_8 : decode cL_cell 8 = .ok (.iaload, 1) := by decide +kernel
theorem dL_cell_9 : decode cL_cell 9 = .ok (.goto 15, 3) := by decide +kernel
theorem dL_cell_12 : decode cL_cell 12 = .ok (.sipush 7919, 3) := by decide +kernel
theorem dL_cell_15 : decode cL_cell 15 = .ok (.iload_n 1, 1) := by decide +kernel
theorem dL_cell_16 : decode cL_cell 16 = .ok (.iconst 3, 1) := by decide +kernel
theorem dL_cell_17 : decode cL_cell 17 = .ok (.iadd, 1) := by decide +kernel
theorem dL_cell_18 : decode cL_cell 18 = .ok (.imul, 1) := by decide +kernel
theorem dL_cell_19 : decode cL_cell 19 = .ok (.iload_n 1, 1) := by decide +kernel
theorem dL_cell_20 : decode cL_cell 20 = .ok (.bipush 11, 2) := by decide +kernel
theorem dL_cell_22 : decode cL_cell 22 = .ok (.iadd, 1) := by decide +kernel
theorem dL_cell_23 : decode cL_cell 23 = .ok (.imul, 1) := by decide +kernel
theorem dL_cell_24 : decode cL_cell 24 = .ok (.ireturn, 1) := by decide +kernel
theorem dL_low_0 : decode cL_low 0 = .ok (.iload_n 0, 1) := by decide +kernel
theorem dL_low_1 : decode cL_low 1 = .ok (.ldc 7, 2) := by decide +kernel
theorem dL_low_3 : decode cL_low 3 = .ok (.iand, 1) := by decide +kernel
theorem dL_low_4 : decode cL_low 4 = .ok (.iload_n 1, 1) := by decide +kernel
theorem dL_low_5 : decode cL_low 5 = .ok (.irem, 1) := by decide +kernel
theorem dL_low_6 : decode cL_low 6 = .ok (.ireturn, 1) := by decide +kernel
theorem dL_told_0 : decode cL_told 0 = .ok (.ldc2_w 8, 3) := by decide +kernel
theorem dL_told_3 : decode cL_told 3 = .ok (.lstore_n 1, 1) := by decide +kernel
theorem dL_told_4 : decode cL_told 4 = .ok (.iconst 0, 1) := by decide +kernel
theorem dL_told_5 : decode cL_told 5 = .ok (.istore_n 3, 1) := by decide +kernel
theorem dL_told_6 : decode cL_told 6 = .ok (.iload_n 3, 1) := by decide +kernel
theorem dL_told_7 : decode cL_told 7 = .ok (.bipush 7, 2) := by decide +kernel
theorem dL_told_9 : decode cL_told 9 = .ok (.if_icmp .ge 22, 3) := by decide +kernel
theorem dL_told_12 : decode cL_told 12 = .ok (.ldc2_w 10, 3) := by decide +kernel
theorem dL_told_15 : decode cL_told 15 = .ok (.lload_n 1, 1) := by decide +kernel
theorem dL_told_16 : decode cL_told 16 = .ok (.lmul, 1) := by decide +kernel
theorem dL_told_17 : decode cL_told 17 = .ok (.aload_n 0, 1) := by decide +kernel
theorem dL_told_18 : decode cL_told 18 = .ok (.iload_n 3, 1) := by decide +kernel
theorem dL_told_19 : decode cL_told 19 = .ok (.invokevirtual 12, 3) := by decide +kernel
theorem dL_told_22 : decode cL_told 22 = .ok (.i2l, 1) := by decide +kernel
theorem dL_told_23 : decode cL_told 23 = .ok (.ladd, 1) := by decide +kernel
theorem dL_told_24 : decode cL_told 24 = .ok (.lstore_n 1, 1) := by decide +kernel
theorem dL_told_25 : decode cL_told 25 = .ok (.iinc 3 1, 3) := by decide +kernel
theorem dL_told_28 : decode cL_told 28 = .ok (.goto (-22), 3) := by decide +kernel
theorem dL_told_31 : decode cL_told 31 = .ok (.iconst 0, 1) := by decide +kernel
theorem dL_told_32 : decode cL_told 32 = .ok (.istore_n 3, 1) := by decide +kernel
theorem dL_told_33 : decode cL_told 33 = .ok (.iload_n 3, 1) := by decide +kernel
theorem dL_told_34 : decode cL_told 34 = .ok (.iconst 5, 1) := by decide +kernel
theorem dL_told_35 : decode cL_told 35 = .ok (.if_icmp .ge 23, 3) := by decide +kernel
theorem dL_told_38 : decode cL_told 38 = .ok (.ldc2_w 10, 3) := by decide +kernel
theorem dL_told_41 : decode cL_told 41 = .ok (.lload_n 1, 1) := by decide +kernel
theorem dL_told_42 : decode cL_told 42 = .ok (.lmul, 1) := by decide +kernel
theorem dL_told_43 : decode cL_told 43 = .ok (.aload_n 0, 1) := by decide +kernel
theorem dL_told_44 : decode cL_told 44 = .ok (.iload_n 3, 1) := by decide +kernel
theorem dL_told_45 : decode cL_told 45 = .ok (.iconst 3, 1) := by decide +kernel
theorem dL_told_46 : decode cL_told 46 = .ok (.invokevirtual 18, 3) := by decide +kernel
theorem dL_told_49 : decode cL_told 49 = .ok (.i2l, 1) := by decide +kernel
theorem dL_told_50 : decode cL_told 50 = .ok (.ladd, 1) := by decide +kernel
theorem dL_told_51 : decode cL_told 51 = .ok (.lstore_n 1, 1) := by decide +kernel
theorem dL_told_52 : decode cL_told 52 = .ok (.iinc 3 1, 3) := by decide +kernel
theorem dL_told_55 : decode cL_told 55 = .ok (.goto (-22), 3) := by decide +kernel
theorem dL_told_58 : decode cL_told 58 = .ok (.iconst 0, 1) := by decide +kernel
theorem dL_told_59 : decode cL_told 59 = .ok (.istore_n 3, 1) := by decide +kernel
theorem dL_told_60 : decode cL_told 60 = .ok (.iload_n 3, 1) := by decide +kernel
theorem dL_told_61 : decode cL_told 61 = .ok (.bipush 9, 2) := by decide +kernel
theorem dL_told_63 : decode cL_told 63 = .ok (.if_icmp .ge 21, 3) := by decide +kernel
theorem dL_told_66 : decode cL_told 66 = .ok (.ldc2_w 10, 3) := by decide +kernel
theorem dL_told_69 : decode cL_told 69 = .ok (.lload_n 1, 1) := by decide +kernel
theorem dL_told_70 : decode cL_told 70 = .ok (.lmul, 1) := by decide +kernel
theorem dL_told_71 : decode cL_told 71 = .ok (.aload_n 0, 1) := by decide +kernel
theorem dL_told_72 : decode cL_told 72 = .ok (.iload_n 3, 1) := by decide +kernel
theorem dL_told_73 : decode cL_told 73 = .ok (.invokevirtual 22, 3) := by decide +kernel
theorem dL_told_76 : decode cL_told 76 = .ok (.ladd, 1) := by decide +kernel
theorem dL_told_77 : decode cL_told 77 = .ok (.lstore_n 1, 1) := by decide +kernel
theorem dL_told_78 : decode cL_told 78 = .ok (.iinc 3 1, 3) := by decide +kernel
theorem dL_told_81 : decode cL_told 81 = .ok (.goto (-21), 3) := by decide +kernel
theorem dL_told_84 : decode cL_told 84 = .ok (.lload_n 1, 1) := by decide +kernel
theorem dL_told_85 : decode cL_told 85 = .ok (.lreturn, 1) := by decide +kernel
theorem dL_act_0 : decode cL_act 0 = .ok (.iload_n 1, 1) := by decide +kernel
theorem dL_act_1 : decode cL_act 1 = .ok (.iconst 4, 1) := by decide +kernel
theorem dL_act_2 : decode cL_act 2 = .ok (.ishr, 1) := by decide +kernel
theorem dL_act_3 : decode cL_act 3 = .ok (.iconst 5, 1) := by decide +kernel
theorem dL_act_4 : decode cL_act 4 = .ok (.invokestatic 26, 3) := by decide +kernel
theorem dL_act_7 : decode cL_act 7 = .ok (.istore_n 3, 1) := by decide +kernel
theorem dL_act_8 : decode cL_act 8 = .ok (.iload_n 1, 1) := by decide +kernel
theorem dL_act_9 : decode cL_act 9 = .ok (.bipush 15, 2) := by decide +kernel
theorem dL_act_11 : decode cL_act 11 = .ok (.iand, 1) := by decide +kernel
theorem dL_act_12 : decode cL_act 12 = .ok (.tableswitch 150 0 13 #[72, 72, 72, 72, 72, 72, 93, 104, 104, 104, 117, 117, 117, 131], 72) := by decide +kernel
theorem dL_act_84 : decode cL_act 84 = .ok (.aload_n 0, 1) := by decide +kernel
theorem dL_act_85 : decode cL_act 85 = .ok (.iload_n 3, 1) := by decide +kernel
theorem dL_act_86 : decode cL_act 86 = .ok (.iload_n 2, 1) := by decide +kernel
theorem dL_act_87 : decode cL_act 87 = .ok (.bipush 9, 2) := by decide +kernel
theorem dL_act_89 : decode cL_act 89 = .ok (.invokestatic 26, 3) := by decide +kernel
theorem dL_act_92 : decode cL_act 92 = .ok (.iload_n 2, 1) := by decide +kernel
theorem dL_act_93 : decode cL_act 93 = .ok (.iconst 4, 1) := by decide +kernel
theorem dL_act_94 : decode cL_act 94 = .ok (.ishr, 1) := by decide +kernel
theorem dL_act_95 : decode cL_act 95 = .ok (.iconst 3, 1) := by decide +kernel
theorem dL_act_96 : decode cL_act 96 = .ok (.invokestatic 26, 3) := by decide +kernel
theorem dL_act_99 : decode cL_act 99 = .ok (.iconst 1, 1) := by decide +kernel
theorem dL_act_100 : decode cL_act 100 = .ok (.isub, 1) := by decide +kernel
theorem dL_act_101 : decode cL_act 101 = .ok (.invokevirtual 31, 3) := by decide +kernel
theorem dL_act_104 : decode cL_act 104 = .ok (.ireturn, 1) := by decide +kernel
theorem dL_act_105 : decode cL_act 105 = .ok (.aload_n 0, 1) := by decide +kernel
theorem dL_act_106 : decode cL_act 106 = .ok (.iload_n 3, 1) := by decide +kernel
theorem dL_act_107 : decode cL_act 107 = .ok (.iload_n 2, 1) := by decide +kernel
theorem dL_act_108 : decode cL_act 108 = .ok (.iconst 5, 1) := by decide +kernel
theorem dL_act_109 : decode cL_act 109 = .ok (.invokestatic 26, 3) := by decide +kernel
theorem dL_act_112 : decode cL_act 112 = .ok (.invokevirtual 35, 3) := by decide +kernel
theorem dL_act_115 : decode cL_act 115 = .ok (.ireturn, 1) := by decide +kernel
theorem dL_act_116 : decode cL_act 116 = .ok (.aload_n 0, 1) := by decide +kernel
theorem dL_act_117 : decode cL_act 117 = .ok (.iload_n 3, 1) := by decide +kernel
theorem dL_act_118 : decode cL_act 118 = .ok (.iload_n 2, 1) := by decide +kernel
theorem dL_act_119 : decode cL_act 119 = .ok (.iconst 3, 1) := by decide +kernel
theorem dL_act_120 : decode cL_act 120 = .ok (.invokestatic 26, 3) := by decide +kernel
theorem dL_act_123 : decode cL_act 123 = .ok (.iconst 1, 1) := by decide +kernel
theorem dL_act_124 : decode cL_act 124 = .ok (.isub, 1) := by decide +kernel
theorem dL_act_125 : decode cL_act 125 = .ok (.invokevirtual 38, 3) := by decide +kernel
theorem dL_act_128 : decode cL_act 128 = .ok (.ireturn, 1) := by decide +kernel
theorem dL_act_129 : decode cL_act 129 = .ok (.aload_n 0, 1) := by decide +kernel
theorem dL_act_130 : decode cL_act 130 = .ok (.iload_n 2, 1) := by decide +kernel
theorem dL_act_131 : decode cL_act 131 = .ok (.bipush 19, 2) := by decide +kernel
theorem dL_act_133 : decode cL_act 133 = .ok (.invokestatic 26, 3) := by decide +kernel
theorem dL_act_136 : decode cL_act 136 = .ok (.bipush 9, 2) := by decide +kernel
theorem dL_act_138 : decode cL_act 138 = .ok (.isub, 1) := by decide +kernel
theorem dL_act_139 : decode cL_act 139 = .ok (.invokevirtual 41, 3) := by decide +kernel
theorem dL_act_142 : decode cL_act 142 = .ok (.ireturn, 1) := by decide +kernel
theorem dL_act_143 : decode cL_act 143 = .ok (.iload_n 2, 1) := by decide +kernel
theorem dL_act_144 : decode cL_act 144 = .ok (.iconst 1, 1) := by decide +kernel
theorem dL_act_145 : decode cL_act 145 = .ok (.iand, 1) := by decide +kernel
theorem dL_act_146 : decode cL_act 146 = .ok (.ifCond .ne 10, 3) := by decide +kernel
theorem dL_act_149 : decode cL_act 149 = .ok (.aload_n 0, 1) := by decide +kernel
theorem dL_act_150 : decode cL_act 150 = .ok (.invokevirtual 44, 3) := by decide +kernel
theorem dL_act_153 : decode cL_act 153 = .ok (.goto 8, 3) := by decide +kernel
theorem dL_act_156 : decode cL_act 156 = .ok (.aload_n 0, 1) := by decide +kernel
theorem dL_act_157 : decode cL_act 157 = .ok (.iconst 0, 1) := by decide +kernel
theorem dL_act_158 : decode cL_act 158 = .ok (.invokevirtual 48, 3) := by decide +kernel
theorem dL_act_161 : decode cL_act 161 = .ok (.ireturn, 1) := by decide +kernel
theorem dL_act_162 : decode cL_act 162 = .ok (.aload_n 0, 1) := by decide +kernel
theorem dL_act_163 : decode cL_act 163 = .ok (.iload_n 3, 1) := by decide +kernel
theorem dL_act_164 : decode cL_act 164 = .ok (.invokevirtual 51, 3) := by decide +kernel
theorem dL_act_167 : decode cL_act 167 = .ok (.ireturn, 1) := by decide +kernel
theorem dL_holds_0 : decode cL_holds 0 = .ok (.iconst 0, 1) := by decide +kernel
theorem dL_holds_1 : decode cL_holds 1 = .ok (.istore_n 3, 1) := by decide +kernel
theorem dL_holds_2 : decode cL_holds 2 = .ok (.iconst (-1), 1) := by decide +kernel
theorem dL_holds_3 : decode cL_holds 3 = .ok (.istore 4, 2) := by decide +kernel
theorem dL_holds_5 : decode cL_holds 5 = .ok (.iload 4, 2) := by decide +kernel
theorem dL_holds_7 : decode cL_holds 7 = .ok (.iconst 2, 1) := by decide +kernel
theorem dL_holds_8 : decode cL_holds 8 = .ok (.if_icmp .ge 121, 3) := by decide +kernel
theorem dL_holds_11 : decode cL_holds 11 = .ok (.aload_n 0, 1) := by decide +kernel
theorem dL_holds_12 : decode cL_holds 12 = .ok (.iload_n 1, 1) := by decide +kernel
theorem dL_holds_13 : decode cL_holds 13 = .ok (.iload 4, 2) := by decide +kernel
theorem dL_holds_15 : decode cL_holds 15 = .ok (.iconst 0, 1) := by decide +kernel
theorem dL_holds_16 : decode cL_holds 16 = .ok (.invokevirtual 54, 3) := by decide +kernel
theorem dL_holds_19 : decode cL_holds 19 = .ok (.istore 5, 2) := by decide +kernel
theorem dL_holds_21 : decode cL_holds 21 = .ok (.aload_n 0, 1) := by decide +kernel
theorem dL_holds_22 : decode cL_holds 22 = .ok (.iload_n 1, 1) := by decide +kernel
theorem dL_holds_23 : decode cL_holds 23 = .ok (.iload 4, 2) := by decide +kernel
theorem dL_holds_25 : decode cL_holds 25 = .ok (.invokevirtual 57, 3) := by decide +kernel
theorem dL_holds_28 : decode cL_holds 28 = .ok (.iconst 1, 1) := by decide +kernel
theorem dL_holds_29 : decode cL_holds 29 = .ok (.if_icmp .ne 7, 3) := by decide +kernel
theorem dL_holds_32 : decode cL_holds 32 = .ok (.iconst 1, 1) := by decide +kernel
theorem dL_holds_33 : decode cL_holds 33 = .ok (.goto 4, 3) := by decide +kernel
theorem dL_holds_36 : decode cL_holds 36 = .ok (.iconst 0, 1) := by decide +kernel
theorem dL_holds_37 : decode cL_holds 37 = .ok (.istore 6, 2) := by decide +kernel
theorem dL_holds_39 : decode cL_holds 39 = .ok (.iload_n 3, 1) := by decide +kernel
theorem dL_holds_40 : decode cL_holds 40 = .ok (.iload 4, 2) := by decide +kernel
theorem dL_holds_42 : decode cL_holds 42 = .ok (.ifCond .ge 7, 3) := by decide +kernel
theorem dL_holds_45 : decode cL_holds 45 = .ok (.iconst 0, 1) := by decide +kernel
theorem dL_holds_46 : decode cL_holds 46 = .ok (.goto 5, 3) := by decide +kernel
theorem dL_holds_49 : decode cL_holds 49 = .ok (.iload 5, 2) := by decide +kernel
theorem dL_holds_51 : decode cL_holds 51 = .ok (.iadd, 1) := by decide +kernel
theorem dL_holds_52 : decode cL_holds 52 = .ok (.istore_n 3, 1) := by decide +kernel
theorem dL_holds_53 : decode cL_holds 53 = .ok (.iload 5, 2) := by decide +kernel
theorem dL_holds_55 : decode cL_holds 55 = .ok (.aload_n 0, 1) := by decide +kernel
theorem dL_holds_56 : decode cL_holds 56 = .ok (.iload_n 1, 1) := by decide +kernel
theorem dL_holds_57 : decode cL_holds 57 = .ok (.iload 4, 2) := by decide +kernel
theorem dL_holds_59 : decode cL_holds 59 = .ok (.iconst 1, 1) := by decide +kernel
theorem dL_holds_60 : decode cL_holds 60 = .ok (.invokevirtual 54, 3) := by decide +kernel
theorem dL_holds_63 : decode cL_holds 63 = .ok (.if_icmp .ne 58, 3) := by decide +kernel
theorem dL_holds_66 : decode cL_holds 66 = .ok (.iload 6, 2) := by decide +kernel
theorem dL_holds_68 : decode cL_holds 68 = .ok (.iload 5, 2) := by decide +kernel
theorem dL_holds_70 : decode cL_holds 70 = .ok (.ifCond .le 7, 3) := by decide +kernel
theorem dL_holds_73 : decode cL_holds 73 = .ok (.iconst 1, 1) := by decide +kernel
theorem dL_holds_74 : decode cL_holds 74 = .ok (.goto 4, 3) := by decide +kernel
theorem dL_holds_77 : decode cL_holds 77 = .ok (.iconst 0, 1) := by decide +kernel
theorem dL_holds_78 : decode cL_holds 78 = .ok (.if_icmp .ne 43, 3) := by decide +kernel
theorem dL_holds_81 : decode cL_holds 81 = .ok (.iload 6, 2) := by decide +kernel
theorem dL_holds_83 : decode cL_holds 83 = .ok (.aload_n 0, 1) := by decide +kernel
theorem dL_holds_84 : decode cL_holds 84 = .ok (.iload_n 1, 1) := by decide +kernel
theorem dL_holds_85 : decode cL_holds 85 = .ok (.iload 4, 2) := by decide +kernel
theorem dL_holds_87 : decode cL_holds 87 = .ok (.invokevirtual 60, 3) := by decide +kernel
theorem dL_holds_90 : decode cL_holds 90 = .ok (.ifCond .le 7, 3) := by decide +kernel
theorem dL_holds_93 : decode cL_holds 93 = .ok (.iconst 1, 1) := by decide +kernel
theorem dL_holds_94 : decode cL_holds 94 = .ok (.goto 4, 3) := by decide +kernel
theorem dL_holds_97 : decode cL_holds 97 = .ok (.iconst 0, 1) := by decide +kernel
theorem dL_holds_98 : decode cL_holds 98 = .ok (.if_icmp .ne 23, 3) := by decide +kernel
theorem dL_holds_101 : decode cL_holds 101 = .ok (.iload 6, 2) := by decide +kernel
theorem dL_holds_103 : decode cL_holds 103 = .ok (.aload_n 0, 1) := by decide +kernel
theorem dL_holds_104 : decode cL_holds 104 = .ok (.iload_n 1, 1) := by decide +kernel
theorem dL_holds_105 : decode cL_holds 105 = .ok (.iload 4, 2) := by decide +kernel
theorem dL_holds_107 : decode cL_holds 107 = .ok (.invokevirtual 63, 3) := by decide +kernel
theorem dL_holds_110 : decode cL_holds 110 = .ok (.ifCond .lt 7, 3) := by decide +kernel
theorem dL_holds_113 : decode cL_holds 113 = .ok (.iconst 1, 1) := by decide +kernel
theorem dL_holds_114 : decode cL_holds 114 = .ok (.goto 4, 3) := by decide +kernel
theorem dL_holds_117 : decode cL_holds 117 = .ok (.iconst 0, 1) := by decide +kernel
theorem dL_holds_118 : decode cL_holds 118 = .ok (.if_icmp .eq 5, 3) := by decide +kernel
theorem dL_holds_121 : decode cL_holds 121 = .ok (.iconst 0, 1) := by decide +kernel
theorem dL_holds_122 : decode cL_holds 122 = .ok (.ireturn, 1) := by decide +kernel
theorem dL_holds_123 : decode cL_holds 123 = .ok (.iinc 4 1, 3) := by decide +kernel
theorem dL_holds_126 : decode cL_holds 126 = .ok (.goto (-121), 3) := by decide +kernel
theorem dL_holds_129 : decode cL_holds 129 = .ok (.aload_n 0, 1) := by decide +kernel
theorem dL_holds_130 : decode cL_holds 130 = .ok (.iload_n 1, 1) := by decide +kernel
theorem dL_holds_131 : decode cL_holds 131 = .ok (.iconst 0, 1) := by decide +kernel
theorem dL_holds_132 : decode cL_holds 132 = .ok (.invokevirtual 18, 3) := by decide +kernel
theorem dL_holds_135 : decode cL_holds 135 = .ok (.istore 4, 2) := by decide +kernel
theorem dL_holds_137 : decode cL_holds 137 = .ok (.aload_n 0, 1) := by decide +kernel
theorem dL_holds_138 : decode cL_holds 138 = .ok (.iload_n 1, 1) := by decide +kernel
theorem dL_holds_139 : decode cL_holds 139 = .ok (.iload_n 1, 1) := by decide +kernel
theorem dL_holds_140 : decode cL_holds 140 = .ok (.iload_n 1, 1) := by decide +kernel
theorem dL_holds_141 : decode cL_holds 141 = .ok (.iconst 0, 1) := by decide +kernel
theorem dL_holds_142 : decode cL_holds 142 = .ok (.invokevirtual 66, 3) := by decide +kernel
theorem dL_holds_145 : decode cL_holds 145 = .ok (.iconst 1, 1) := by decide +kernel
theorem dL_holds_146 : decode cL_holds 146 = .ok (.if_icmp .ne 64, 3) := by decide +kernel
theorem dL_holds_149 : decode cL_holds 149 = .ok (.aload_n 0, 1) := by decide +kernel
theorem dL_holds_150 : decode cL_holds 150 = .ok (.iload_n 1, 1) := by decide +kernel
theorem dL_holds_151 : decode cL_holds 151 = .ok (.iconst 0, 1) := by decide +kernel
theorem dL_holds_152 : decode cL_holds 152 = .ok (.invokevirtual 60, 3) := by decide +kernel
theorem dL_holds_155 : decode cL_holds 155 = .ok (.iconst 1, 1) := by decide +kernel
theorem dL_holds_156 : decode cL_holds 156 = .ok (.if_icmp .gt 54, 3) := by decide +kernel
theorem dL_holds_159 : decode cL_holds 159 = .ok (.iload_n 3, 1) := by decide +kernel
theorem dL_holds_160 : decode cL_holds 160 = .ok (.iload 4, 2) := by decide +kernel
theorem dL_holds_162 : decode cL_holds 162 = .ok (.if_icmp .gt 48, 3) := by decide +kernel
theorem dL_holds_165 : decode cL_holds 165 = .ok (.aload_n 0, 1) := by decide +kernel
theorem dL_holds_166 : decode cL_holds 166 = .ok (.iload_n 1, 1) := by decide +kernel
theorem dL_holds_167 : decode cL_holds 167 = .ok (.iconst 2, 1) := by decide +kernel
theorem dL_holds_168 : decode cL_holds 168 = .ok (.invokevirtual 18, 3) := by decide +kernel
theorem dL_holds_171 : decode cL_holds 171 = .ok (.aload_n 0, 1) := by decide +kernel
theorem dL_holds_172 : decode cL_holds 172 = .ok (.iload_n 1, 1) := by decide +kernel
theorem dL_holds_173 : decode cL_holds 173 = .ok (.iconst 1, 1) := by decide +kernel
theorem dL_holds_174 : decode cL_holds 174 = .ok (.iconst 1, 1) := by decide +kernel
theorem dL_holds_175 : decode cL_holds 175 = .ok (.invokevirtual 54, 3) := by decide +kernel
theorem dL_holds_178 : decode cL_holds 178 = .ok (.if_icmp .ne 32, 3) := by decide +kernel
theorem dL_holds_181 : decode cL_holds 181 = .ok (.aload_n 0, 1) := by decide +kernel
theorem dL_holds_182 : decode cL_holds 182 = .ok (.iload_n 1, 1) := by decide +kernel
theorem dL_holds_183 : decode cL_holds 183 = .ok (.iconst 2, 1) := by decide +kernel
theorem dL_holds_184 : decode cL_holds 184 = .ok (.invokevirtual 18, 3) := by decide +kernel
theorem dL_holds_187 : decode cL_holds 187 = .ok (.aload_n 0, 1) := by decide +kernel
theorem dL_holds_188 : decode cL_holds 188 = .ok (.iload_n 1, 1) := by decide +kernel
theorem dL_holds_189 : decode cL_holds 189 = .ok (.iconst 1, 1) := by decide +kernel
theorem dL_holds_190 : decode cL_holds 190 = .ok (.invokevirtual 18, 3) := by decide +kernel
theorem dL_holds_193 : decode cL_holds 193 = .ok (.if_icmp .ge 17, 3) := by decide +kernel
theorem dL_holds_196 : decode cL_holds 196 = .ok (.aload_n 0, 1) := by decide +kernel
theorem dL_holds_197 : decode cL_holds 197 = .ok (.iload_n 1, 1) := by decide +kernel
theorem dL_holds_198 : decode cL_holds 198 = .ok (.iload 4, 2) := by decide +kernel
theorem dL_holds_200 : decode cL_holds 200 = .ok (.invokevirtual 70, 3) := by decide +kernel
theorem dL_holds_203 : decode cL_holds 203 = .ok (.ifCond .eq 7, 3) := by decide +kernel
theorem dL_holds_206 : decode cL_holds 206 = .ok (.iconst 1, 1) := by decide +kernel
theorem dL_holds_207 : decode cL_holds 207 = .ok (.goto 4, 3) := by decide +kernel
theorem dL_holds_210 : decode cL_holds 210 = .ok (.iconst 0, 1) := by decide +kernel
theorem dL_holds_211 : decode cL_holds 211 = .ok (.istore 5, 2) := by decide +kernel
theorem dL_holds_213 : decode cL_holds 213 = .ok (.iload 4, 2) := by decide +kernel
theorem dL_holds_215 : decode cL_holds 215 = .ok (.iconst 1, 1) := by decide +kernel
theorem dL_holds_216 : decode cL_holds 216 = .ok (.iadd, 1) := by decide +kernel
theorem dL_holds_217 : decode cL_holds 217 = .ok (.istore 6, 2) := by decide +kernel
theorem dL_holds_219 : decode cL_holds 219 = .ok (.iload 6, 2) := by decide +kernel
theorem dL_holds_221 : decode cL_holds 221 = .ok (.bipush 9, 2) := by decide +kernel
theorem dL_holds_223 : decode cL_holds 223 = .ok (.if_icmp .ge 31, 3) := by decide +kernel
theorem dL_holds_226 : decode cL_holds 226 = .ok (.iload 5, 2) := by decide +kernel
theorem dL_holds_228 : decode cL_holds 228 = .ok (.ifCond .eq 17, 3) := by decide +kernel
theorem dL_holds_231 : decode cL_holds 231 = .ok (.aload_n 0, 1) := by decide +kernel
theorem dL_holds_232 : decode cL_holds 232 = .ok (.iload_n 1, 1) := by decide +kernel
theorem dL_holds_233 : decode cL_holds 233 = .ok (.iload 6, 2) := by decide +kernel
theorem dL_holds_235 : decode cL_holds 235 = .ok (.invokevirtual 70, 3) := by decide +kernel
theorem dL_holds_238 : decode cL_holds 238 = .ok (.ifCond .ne 7, 3) := by decide +kernel
theorem dL_holds_241 : decode cL_holds 241 = .ok (.iconst 1, 1) := by decide +kernel
theorem dL_holds_242 : decode cL_holds 242 = .ok (.goto 4, 3) := by decide +kernel
theorem dL_holds_245 : decode cL_holds 245 = .ok (.iconst 0, 1) := by decide +kernel
theorem dL_holds_246 : decode cL_holds 246 = .ok (.istore 5, 2) := by decide +kernel
theorem dL_holds_248 : decode cL_holds 248 = .ok (.iinc 6 1, 3) := by decide +kernel
theorem dL_holds_251 : decode cL_holds 251 = .ok (.goto (-32), 3) := by decide +kernel
theorem dL_holds_254 : decode cL_holds 254 = .ok (.iconst 0, 1) := by decide +kernel
theorem dL_holds_255 : decode cL_holds 255 = .ok (.istore 6, 2) := by decide +kernel
theorem dL_holds_257 : decode cL_holds 257 = .ok (.iload 6, 2) := by decide +kernel
theorem dL_holds_259 : decode cL_holds 259 = .ok (.iconst 2, 1) := by decide +kernel
theorem dL_holds_260 : decode cL_holds 260 = .ok (.if_icmp .ge 107, 3) := by decide +kernel
theorem dL_holds_263 : decode cL_holds 263 = .ok (.iload 5, 2) := by decide +kernel
theorem dL_holds_265 : decode cL_holds 265 = .ok (.ifCond .eq 47, 3) := by decide +kernel
theorem dL_holds_268 : decode cL_holds 268 = .ok (.aload_n 0, 1) := by decide +kernel
theorem dL_holds_269 : decode cL_holds 269 = .ok (.iload_n 1, 1) := by decide +kernel
theorem dL_holds_270 : decode cL_holds 270 = .ok (.iload_n 2, 1) := by decide +kernel
theorem dL_holds_271 : decode cL_holds 271 = .ok (.iload 6, 2) := by decide +kernel
theorem dL_holds_273 : decode cL_holds 273 = .ok (.invokevirtual 73, 3) := by decide +kernel
theorem dL_holds_276 : decode cL_holds 276 = .ok (.aload_n 0, 1) := by decide +kernel
theorem dL_holds_277 : decode cL_holds 277 = .ok (.iload_n 2, 1) := by decide +kernel
theorem dL_holds_278 : decode cL_holds 278 = .ok (.iload_n 1, 1) := by decide +kernel
theorem dL_holds_279 : decode cL_holds 279 = .ok (.iload 6, 2) := by decide +kernel
theorem dL_holds_281 : decode cL_holds 281 = .ok (.invokevirtual 73, 3) := by decide +kernel
theorem dL_holds_284 : decode cL_holds 284 = .ok (.if_icmp .ne 28, 3) := by decide +kernel
theorem dL_holds_287 : decode cL_holds 287 = .ok (.aload_n 0, 1) := by decide +kernel
theorem dL_holds_288 : decode cL_holds 288 = .ok (.iconst 0, 1) := by decide +kernel
theorem dL_holds_289 : decode cL_holds 289 = .ok (.iload_n 1, 1) := by decide +kernel
theorem dL_holds_290 : decode cL_holds 290 = .ok (.iload_n 2, 1) := by decide +kernel
theorem dL_holds_291 : decode cL_holds 291 = .ok (.iload 6, 2) := by decide +kernel
theorem dL_holds_293 : decode cL_holds 293 = .ok (.invokevirtual 66, 3) := by decide +kernel
theorem dL_holds_296 : decode cL_holds 296 = .ok (.aload_n 0, 1) := by decide +kernel
theorem dL_holds_297 : decode cL_holds 297 = .ok (.iconst 0, 1) := by decide +kernel
theorem dL_holds_298 : decode cL_holds 298 = .ok (.iload_n 2, 1) := by decide +kernel
theorem dL_holds_299 : decode cL_holds 299 = .ok (.iload_n 1, 1) := by decide +kernel
theorem dL_holds_300 : decode cL_holds 300 = .ok (.iload 6, 2) := by decide +kernel
theorem dL_holds_302 : decode cL_holds 302 = .ok (.invokevirtual 66, 3) := by decide +kernel
theorem dL_holds_305 : decode cL_holds 305 = .ok (.if_icmp .ne 7, 3) := by decide +kernel
theorem dL_holds_308 : decode cL_holds 308 = .ok (.iconst 1, 1) := by decide +kernel
theorem dL_holds_309 : decode cL_holds 309 = .ok (.goto 4, 3) := by decide +kernel
theorem dL_holds_312 : decode cL_holds 312 = .ok (.iconst 0, 1) := by decide +kernel
theorem dL_holds_313 : decode cL_holds 313 = .ok (.istore 5, 2) := by decide +kernel
theorem dL_holds_315 : decode cL_holds 315 = .ok (.iload 5, 2) := by decide +kernel
theorem dL_holds_317 : decode cL_holds 317 = .ok (.ifCond .eq 41, 3) := by decide +kernel
theorem dL_holds_320 : decode cL_holds 320 = .ok (.iload 6, 2) := by decide +kernel
theorem dL_holds_322 : decode cL_holds 322 = .ok (.ifCond .eq 32, 3) := by decide +kernel
theorem dL_holds_325 : decode cL_holds 325 = .ok (.aload_n 0, 1) := by decide +kernel
theorem dL_holds_326 : decode cL_holds 326 = .ok (.iconst 0, 1) := by decide +kernel
theorem dL_holds_327 : decode cL_holds 327 = .ok (.iload_n 1, 1) := by decide +kernel
theorem dL_holds_328 : decode cL_holds 328 = .ok (.iload_n 2, 1) := by decide +kernel
theorem dL_holds_329 : decode cL_holds 329 = .ok (.iconst 1, 1) := by decide +kernel
theorem dL_holds_330 : decode cL_holds 330 = .ok (.invokevirtual 66, 3) := by decide +kernel
theorem dL_holds_333 : decode cL_holds 333 = .ok (.ifCond .eq 21, 3) := by decide +kernel
theorem dL_holds_336 : decode cL_holds 336 = .ok (.aload_n 0, 1) := by decide +kernel
theorem dL_holds_337 : decode cL_holds 337 = .ok (.iconst 0, 1) := by decide +kernel
theorem dL_holds_338 : decode cL_holds 338 = .ok (.iconst 0, 1) := by decide +kernel
theorem dL_holds_339 : decode cL_holds 339 = .ok (.invokevirtual 18, 3) := by decide +kernel
theorem dL_holds_342 : decode cL_holds 342 = .ok (.iload 4, 2) := by decide +kernel
theorem dL_holds_344 : decode cL_holds 344 = .ok (.aload_n 0, 1) := by decide +kernel
theorem dL_holds_345 : decode cL_holds 345 = .ok (.iload_n 2, 1) := by decide +kernel
theorem dL_holds_346 : decode cL_holds 346 = .ok (.iconst 0, 1) := by decide +kernel
theorem dL_holds_347 : decode cL_holds 347 = .ok (.invokevirtual 18, 3) := by decide +kernel
theorem dL_holds_350 : decode cL_holds 350 = .ok (.iadd, 1) := by decide +kernel
theorem dL_holds_351 : decode cL_holds 351 = .ok (.if_icmp .ne 7, 3) := by decide +kernel
theorem dL_holds_354 : decode cL_holds 354 = .ok (.iconst 1, 1) := by decide +kernel
theorem dL_holds_355 : decode cL_holds 355 = .ok (.goto 4, 3) := by decide +kernel
theorem dL_holds_358 : decode cL_holds 358 = .ok (.iconst 0, 1) := by decide +kernel
theorem dL_holds_359 : decode cL_holds 359 = .ok (.istore 5, 2) := by decide +kernel
theorem dL_holds_361 : decode cL_holds 361 = .ok (.iinc 6 1, 3) := by decide +kernel
theorem dL_holds_364 : decode cL_holds 364 = .ok (.goto (-107), 3) := by decide +kernel
theorem dL_holds_367 : decode cL_holds 367 = .ok (.aload_n 0, 1) := by decide +kernel
theorem dL_holds_368 : decode cL_holds 368 = .ok (.iconst 0, 1) := by decide +kernel
theorem dL_holds_369 : decode cL_holds 369 = .ok (.invokevirtual 12, 3) := by decide +kernel
theorem dL_holds_372 : decode cL_holds 372 = .ok (.istore 6, 2) := by decide +kernel
theorem dL_holds_374 : decode cL_holds 374 = .ok (.aload_n 0, 1) := by decide +kernel
theorem dL_holds_375 : decode cL_holds 375 = .ok (.iload 6, 2) := by decide +kernel
theorem dL_holds_377 : decode cL_holds 377 = .ok (.invokevirtual 22, 3) := by decide +kernel
theorem dL_holds_380 : decode cL_holds 380 = .ok (.lstore 7, 2) := by decide +kernel
theorem dL_holds_382 : decode cL_holds 382 = .ok (.iload 5, 2) := by decide +kernel
theorem dL_holds_384 : decode cL_holds 384 = .ok (.ifCond .eq 46, 3) := by decide +kernel
theorem dL_holds_387 : decode cL_holds 387 = .ok (.iload 6, 2) := by decide +kernel
theorem dL_holds_389 : decode cL_holds 389 = .ok (.aload_n 0, 1) := by decide +kernel
theorem dL_holds_390 : decode cL_holds 390 = .ok (.iconst 1, 1) := by decide +kernel
theorem dL_holds_391 : decode cL_holds 391 = .ok (.invokevirtual 12, 3) := by decide +kernel
theorem dL_holds_394 : decode cL_holds 394 = .ok (.aload_n 0, 1) := by decide +kernel
theorem dL_holds_395 : decode cL_holds 395 = .ok (.iconst 2, 1) := by decide +kernel
theorem dL_holds_396 : decode cL_holds 396 = .ok (.invokevirtual 12, 3) := by decide +kernel
theorem dL_holds_399 : decode cL_holds 399 = .ok (.iadd, 1) := by decide +kernel
theorem dL_holds_400 : decode cL_holds 400 = .ok (.aload_n 0, 1) := by decide +kernel
theorem dL_holds_401 : decode cL_holds 401 = .ok (.iconst 3, 1) := by decide +kernel
theorem dL_holds_402 : decode cL_holds 402 = .ok (.invokevirtual 12, 3) := by decide +kernel
theorem dL_holds_405 : decode cL_holds 405 = .ok (.iadd, 1) := by decide +kernel
theorem dL_holds_406 : decode cL_holds 406 = .ok (.if_icmp .ne 24, 3) := by decide +kernel
theorem dL_holds_409 : decode cL_holds 409 = .ok (.lload 7, 2) := by decide +kernel
theorem dL_holds_411 : decode cL_holds 411 = .ok (.lconst 1, 1) := by decide +kernel
theorem dL_holds_412 : decode cL_holds 412 = .ok (.lcmp, 1) := by decide +kernel
theorem dL_holds_413 : decode cL_holds 413 = .ok (.ifCond .ne 17, 3) := by decide +kernel
theorem dL_holds_416 : decode cL_holds 416 = .ok (.aload_n 0, 1) := by decide +kernel
theorem dL_holds_417 : decode cL_holds 417 = .ok (.iload_n 1, 1) := by decide +kernel
theorem dL_holds_418 : decode cL_holds 418 = .ok (.invokevirtual 76, 3) := by decide +kernel
theorem dL_holds_421 : decode cL_holds 421 = .ok (.dconst 0, 1) := by decide +kernel
theorem dL_holds_422 : decode cL_holds 422 = .ok (.dcmp .l, 1) := by decide +kernel
theorem dL_holds_423 : decode cL_holds 423 = .ok (.ifCond .lt 7, 3) := by decide +kernel
theorem dL_holds_426 : decode cL_holds 426 = .ok (.iconst 1, 1) := by decide +kernel
theorem dL_holds_427 : decode cL_holds 427 = .ok (.goto 4, 3) := by decide +kernel
theorem dL_holds_430 : decode cL_holds 430 = .ok (.iconst 0, 1) := by decide +kernel
theorem dL_holds_431 : decode cL_holds 431 = .ok (.ireturn, 1) := by decide +kernel
theorem dL_law_0 : decode cL_law 0 = .ok (.new 13, 3) := by decide +kernel
theorem dL_law_3 : decode cL_law 3 = .ok (.dup, 1) := by decide +kernel
theorem dL_law_4 : decode cL_law 4 = .ok (.invokespecial 80, 3) := by decide +kernel
theorem dL_law_7 : decode cL_law 7 = .ok (.astore_n 1, 1) := by decide +kernel
theorem dL_law_8 : decode cL_law 8 = .ok (.aload_n 1, 1) := by decide +kernel
theorem dL_law_9 : decode cL_law 9 = .ok (.iconst 0, 1) := by decide +kernel
theorem dL_law_10 : decode cL_law 10 = .ok (.invokevirtual 81, 3) := by decide +kernel
theorem dL_law_13 : decode cL_law 13 = .ok (.ifCond .ne 23, 3) := by decide +kernel
theorem dL_law_16 : decode cL_law 16 = .ok (.aload_n 1, 1) := by decide +kernel
theorem dL_law_17 : decode cL_law 17 = .ok (.iconst 0, 1) := by decide +kernel
theorem dL_law_18 : decode cL_law 18 = .ok (.invokevirtual 76, 3) := by decide +kernel
theorem dL_law_21 : decode cL_law 21 = .ok (.dconst 1, 1) := by decide +kernel
theorem dL_law_22 : decode cL_law 22 = .ok (.dcmp .l, 1) := by decide +kernel
theorem dL_law_23 : decode cL_law 23 = .ok (.ifCond .ne 13, 3) := by decide +kernel
theorem dL_law_26 : decode cL_law 26 = .ok (.aload_n 1, 1) := by decide +kernel
theorem dL_law_27 : decode cL_law 27 = .ok (.iconst 0, 1) := by decide +kernel
theorem dL_law_28 : decode cL_law 28 = .ok (.invokevirtual 22, 3) := by decide +kernel
theorem dL_law_31 : decode cL_law 31 = .ok (.lconst 1, 1) := by decide +kernel
theorem dL_law_32 : decode cL_law 32 = .ok (.lcmp, 1) := by decide +kernel
theorem dL_law_33 : decode cL_law 33 = .ok (.ifCond .eq 5, 3) := by decide +kernel
theorem dL_law_36 : decode cL_law 36 = .ok (.iconst 0, 1) := by decide +kernel
theorem dL_law_37 : decode cL_law 37 = .ok (.ireturn, 1) := by decide +kernel
theorem dL_law_38 : decode cL_law 38 = .ok (.iconst 0, 1) := by decide +kernel
theorem dL_law_39 : decode cL_law 39 = .ok (.istore_n 2, 1) := by decide +kernel
theorem dL_law_40 : decode cL_law 40 = .ok (.iload_n 2, 1) := by decide +kernel
theorem dL_law_41 : decode cL_law 41 = .ok (.bipush 40, 2) := by decide +kernel
theorem dL_law_43 : decode cL_law 43 = .ok (.if_icmp .ge 217, 3) := by decide +kernel
theorem dL_law_46 : decode cL_law 46 = .ok (.aload_n 0, 1) := by decide +kernel
theorem dL_law_47 : decode cL_law 47 = .ok (.iconst 2, 1) := by decide +kernel
theorem dL_law_48 : decode cL_law 48 = .ok (.iload_n 2, 1) := by decide +kernel
theorem dL_law_49 : decode cL_law 49 = .ok (.imul, 1) := by decide +kernel
theorem dL_law_50 : decode cL_law 50 = .ok (.invokestatic 84, 3) := by decide +kernel
theorem dL_law_53 : decode cL_law 53 = .ok (.istore_n 3, 1) := by decide +kernel
theorem dL_law_54 : decode cL_law 54 = .ok (.aload_n 0, 1) := by decide +kernel
theorem dL_law_55 : decode cL_law 55 = .ok (.iconst 2, 1) := by decide +kernel
theorem dL_law_56 : decode cL_law 56 = .ok (.iload_n 2, 1) := by decide +kernel
theorem dL_law_57 : decode cL_law 57 = .ok (.imul, 1) := by decide +kernel
theorem dL_law_58 : decode cL_law 58 = .ok (.iconst 1, 1) := by decide +kernel
theorem dL_law_59 : decode cL_law 59 = .ok (.iadd, 1) := by decide +kernel
theorem dL_law_60 : decode cL_law 60 = .ok (.invokestatic 84, 3) := by decide +kernel
theorem dL_law_63 : decode cL_law 63 = .ok (.istore 4, 2) := by decide +kernel
theorem dL_law_65 : decode cL_law 65 = .ok (.aload_n 1, 1) := by decide +kernel
theorem dL_law_66 : decode cL_law 66 = .ok (.bipush 7, 2) := by decide +kernel
theorem dL_law_68 : decode cL_law 68 = .ok (.invokevirtual 12, 3) := by decide +kernel
theorem dL_law_71 : decode cL_law 71 = .ok (.bipush 6, 2) := by decide +kernel
theorem dL_law_73 : decode cL_law 73 = .ok (.if_icmp .ne 13, 3) := by decide +kernel
theorem dL_law_76 : decode cL_law 76 = .ok (.aload_n 1, 1) := by decide +kernel
theorem dL_law_77 : decode cL_law 77 = .ok (.invokevirtual 88, 3) := by decide +kernel
theorem dL_law_80 : decode cL_law 80 = .ok (.pop, 1) := by decide +kernel
theorem dL_law_81 : decode cL_law 81 = .ok (.aload_n 1, 1) := by decide +kernel
theorem dL_law_82 : decode cL_law 82 = .ok (.invokevirtual 88, 3) := by decide +kernel
theorem dL_law_85 : decode cL_law 85 = .ok (.pop, 1) := by decide +kernel
theorem dL_law_86 : decode cL_law 86 = .ok (.aload_n 1, 1) := by decide +kernel
theorem dL_law_87 : decode cL_law 87 = .ok (.bipush 7, 2) := by decide +kernel
theorem dL_law_89 : decode cL_law 89 = .ok (.invokevirtual 12, 3) := by decide +kernel
theorem dL_law_92 : decode cL_law 92 = .ok (.istore 5, 2) := by decide +kernel
theorem dL_law_94 : decode cL_law 94 = .ok (.aload_n 1, 1) := by decide +kernel
theorem dL_law_95 : decode cL_law 95 = .ok (.iconst 4, 1) := by decide +kernel
theorem dL_law_96 : decode cL_law 96 = .ok (.invokevirtual 12, 3) := by decide +kernel
theorem dL_law_99 : decode cL_law 99 = .ok (.istore 6, 2) := by decide +kernel
theorem dL_law_101 : decode cL_law 101 = .ok (.aload_n 1, 1) := by decide +kernel
theorem dL_law_102 : decode cL_law 102 = .ok (.invokestatic 91, 3) := by decide +kernel
theorem dL_law_105 : decode cL_law 105 = .ok (.lstore 7, 2) := by decide +kernel
theorem dL_law_107 : decode cL_law 107 = .ok (.aload_n 1, 1) := by decide +kernel
theorem dL_law_108 : decode cL_law 108 = .ok (.iload_n 3, 1) := by decide +kernel
theorem dL_law_109 : decode cL_law 109 = .ok (.iload 4, 2) := by decide +kernel
theorem dL_law_111 : decode cL_law 111 = .ok (.invokestatic 95, 3) := by decide +kernel
theorem dL_law_114 : decode cL_law 114 = .ok (.istore 9, 2) := by decide +kernel
theorem dL_law_116 : decode cL_law 116 = .ok (.aload_n 1, 1) := by decide +kernel
theorem dL_law_117 : decode cL_law 117 = .ok (.invokestatic 91, 3) := by decide +kernel
theorem dL_law_120 : decode cL_law 120 = .ok (.lstore 10, 2) := by decide +kernel
theorem dL_law_122 : decode cL_law 122 = .ok (.aload_n 1, 1) := by decide +kernel
theorem dL_law_123 : decode cL_law 123 = .ok (.bipush 7, 2) := by decide +kernel
theorem dL_law_125 : decode cL_law 125 = .ok (.invokevirtual 12, 3) := by decide +kernel
theorem dL_law_128 : decode cL_law 128 = .ok (.iload 5, 2) := by decide +kernel
theorem dL_law_130 : decode cL_law 130 = .ok (.iconst 1, 1) := by decide +kernel
theorem dL_law_131 : decode cL_law 131 = .ok (.iadd, 1) := by decide +kernel
theorem dL_law_132 : decode cL_law 132 = .ok (.if_icmp .ne 44, 3) := by decide +kernel
theorem dL_law_135 : decode cL_law 135 = .ok (.iload_n 3, 1) := by decide +kernel
theorem dL_law_136 : decode cL_law 136 = .ok (.bipush 15, 2) := by decide +kernel
theorem dL_law_138 : decode cL_law 138 = .ok (.iand, 1) := by decide +kernel
theorem dL_law_139 : decode cL_law 139 = .ok (.bipush 6, 2) := by decide +kernel
theorem dL_law_141 : decode cL_law 141 = .ok (.if_icmp .le 37, 3) := by decide +kernel
theorem dL_law_144 : decode cL_law 144 = .ok (.iload_n 3, 1) := by decide +kernel
theorem dL_law_145 : decode cL_law 145 = .ok (.bipush 15, 2) := by decide +kernel
theorem dL_law_147 : decode cL_law 147 = .ok (.iand, 1) := by decide +kernel
theorem dL_law_148 : decode cL_law 148 = .ok (.bipush 10, 2) := by decide +kernel
theorem dL_law_150 : decode cL_law 150 = .ok (.if_icmp .ge 28, 3) := by decide +kernel
theorem dL_law_153 : decode cL_law 153 = .ok (.aload_n 1, 1) := by decide +kernel
theorem dL_law_154 : decode cL_law 154 = .ok (.iconst 4, 1) := by decide +kernel
theorem dL_law_155 : decode cL_law 155 = .ok (.invokevirtual 12, 3) := by decide +kernel
theorem dL_law_158 : decode cL_law 158 = .ok (.iload 6, 2) := by decide +kernel
theorem dL_law_160 : decode cL_law 160 = .ok (.iload 9, 2) := by decide +kernel
theorem dL_law_162 : decode cL_law 162 = .ok (.bipush (-9), 2) := by decide +kernel
theorem dL_law_164 : decode cL_law 164 = .ok (.if_icmp .ne 7, 3) := by decide +kernel
theorem dL_law_167 : decode cL_law 167 = .ok (.iconst 0, 1) := by decide +kernel
theorem dL_law_168 : decode cL_law 168 = .ok (.goto 4, 3) := by decide +kernel
theorem dL_law_171 : decode cL_law 171 = .ok (.iconst 1, 1) := by decide +kernel
theorem dL_law_172 : decode cL_law 172 = .ok (.iadd, 1) := by decide +kernel
theorem dL_law_173 : decode cL_law 173 = .ok (.if_icmp .eq 5, 3) := by decide +kernel
theorem dL_law_176 : decode cL_law 176 = .ok (.iconst 0, 1) := by decide +kernel
theorem dL_law_177 : decode cL_law 177 = .ok (.ireturn, 1) := by decide +kernel
theorem dL_law_178 : decode cL_law 178 = .ok (.iload_n 3, 1) := by decide +kernel
theorem dL_law_179 : decode cL_law 179 = .ok (.bipush 10, 2) := by decide +kernel
theorem dL_law_181 : decode cL_law 181 = .ok (.ishr, 1) := by decide +kernel
theorem dL_law_182 : decode cL_law 182 = .ok (.iconst 1, 1) := by decide +kernel
theorem dL_law_183 : decode cL_law 183 = .ok (.iand, 1) := by decide +kernel
theorem dL_law_184 : decode cL_law 184 = .ok (.ifCond .ne 46, 3) := by decide +kernel
theorem dL_law_187 : decode cL_law 187 = .ok (.aload_n 1, 1) := by decide +kernel
theorem dL_law_188 : decode cL_law 188 = .ok (.invokevirtual 88, 3) := by decide +kernel
theorem dL_law_191 : decode cL_law 191 = .ok (.iload 5, 2) := by decide +kernel
theorem dL_law_193 : decode cL_law 193 = .ok (.if_icmp .ne 35, 3) := by decide +kernel
theorem dL_law_196 : decode cL_law 196 = .ok (.aload_n 1, 1) := by decide +kernel
theorem dL_law_197 : decode cL_law 197 = .ok (.invokestatic 91, 3) := by decide +kernel
theorem dL_law_200 : decode cL_law 200 = .ok (.lload 7, 2) := by decide +kernel
theorem dL_law_202 : decode cL_law 202 = .ok (.lcmp, 1) := by decide +kernel
theorem dL_law_203 : decode cL_law 203 = .ok (.ifCond .ne 25, 3) := by decide +kernel
theorem dL_law_206 : decode cL_law 206 = .ok (.aload_n 1, 1) := by decide +kernel
theorem dL_law_207 : decode cL_law 207 = .ok (.iload_n 3, 1) := by decide +kernel
theorem dL_law_208 : decode cL_law 208 = .ok (.iload 4, 2) := by decide +kernel
theorem dL_law_210 : decode cL_law 210 = .ok (.invokestatic 95, 3) := by decide +kernel
theorem dL_law_213 : decode cL_law 213 = .ok (.iload 9, 2) := by decide +kernel
theorem dL_law_215 : decode cL_law 215 = .ok (.if_icmp .ne 13, 3) := by decide +kernel
theorem dL_law_218 : decode cL_law 218 = .ok (.aload_n 1, 1) := by decide +kernel
theorem dL_law_219 : decode cL_law 219 = .ok (.invokestatic 91, 3) := by decide +kernel
theorem dL_law_222 : decode cL_law 222 = .ok (.lload 10, 2) := by decide +kernel
theorem dL_law_224 : decode cL_law 224 = .ok (.lcmp, 1) := by decide +kernel
theorem dL_law_225 : decode cL_law 225 = .ok (.ifCond .eq 5, 3) := by decide +kernel
theorem dL_law_228 : decode cL_law 228 = .ok (.iconst 0, 1) := by decide +kernel
theorem dL_law_229 : decode cL_law 229 = .ok (.ireturn, 1) := by decide +kernel
theorem dL_law_230 : decode cL_law 230 = .ok (.aload_n 1, 1) := by decide +kernel
theorem dL_law_231 : decode cL_law 231 = .ok (.iload_n 3, 1) := by decide +kernel
theorem dL_law_232 : decode cL_law 232 = .ok (.iconst 4, 1) := by decide +kernel
theorem dL_law_233 : decode cL_law 233 = .ok (.ishr, 1) := by decide +kernel
theorem dL_law_234 : decode cL_law 234 = .ok (.iconst 5, 1) := by decide +kernel
theorem dL_law_235 : decode cL_law 235 = .ok (.invokestatic 26, 3) := by decide +kernel
theorem dL_law_238 : decode cL_law 238 = .ok (.iload 4, 2) := by decide +kernel
theorem dL_law_240 : decode cL_law 240 = .ok (.iconst 5, 1) := by decide +kernel
theorem dL_law_241 : decode cL_law 241 = .ok (.ishr, 1) := by decide +kernel
theorem dL_law_242 : decode cL_law 242 = .ok (.iconst 5, 1) := by decide +kernel
theorem dL_law_243 : decode cL_law 243 = .ok (.invokestatic 26, 3) := by decide +kernel
theorem dL_law_246 : decode cL_law 246 = .ok (.invokestatic 99, 3) := by decide +kernel
theorem dL_law_249 : decode cL_law 249 = .ok (.ifCond .ne 5, 3) := by decide +kernel
theorem dL_law_252 : decode cL_law 252 = .ok (.iconst 0, 1) := by decide +kernel
theorem dL_law_253 : decode cL_law 253 = .ok (.ireturn, 1) := by decide +kernel
theorem dL_law_254 : decode cL_law 254 = .ok (.iinc 2 1, 3) := by decide +kernel
theorem dL_law_257 : decode cL_law 257 = .ok (.goto (-217), 3) := by decide +kernel
theorem dL_law_260 : decode cL_law 260 = .ok (.iconst 1, 1) := by decide +kernel
theorem dL_law_261 : decode cL_law 261 = .ok (.ireturn, 1) := by decide +kernel
