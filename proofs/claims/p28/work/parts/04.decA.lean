theorem dX0_init_0 : decode cX0_init 0 = .ok (.aload_n 0, 1) := by decide +kernel
theorem dX0_init_1 : decode cX0_init 1 = .ok (.invokespecial 3, 3) := by decide +kernel
theorem dX0_init_4 : decode cX0_init 4 = .ok (.aload_n 0, 1) := by decide +kernel
theorem dX0_init_5 : decode cX0_init 5 = .ok (.bipush 9, 2) := by decide +kernel
theorem dX0_init_7 : decode cX0_init 7 = .ok (.newarray .int, 2) := by decide +kernel
theorem dX0_init_9 : decode cX0_init 9 = .ok (.putfield 9, 3) := by decide +kernel
theorem dX0_init_12 : decode cX0_init 12 = .ok (.aload_n 0, 1) := by decide +kernel
theorem dX0_init_13 : decode cX0_init 13 = .ok (.bipush 9, 2) := by decide +kernel
theorem dX0_init_15 : decode cX0_init 15 = .ok (.newarray .int, 2) := by decide +kernel
theorem dX0_init_17 : decode cX0_init 17 = .ok (.putfield 15, 3) := by decide +kernel
theorem dX0_init_20 : decode cX0_init 20 = .ok (.aload_n 0, 1) := by decide +kernel
theorem dX0_init_21 : decode cX0_init 21 = .ok (.bipush 9, 2) := by decide +kernel
theorem dX0_init_23 : decode cX0_init 23 = .ok (.newarray .int, 2) := by decide +kernel
theorem dX0_init_25 : decode cX0_init 25 = .ok (.putfield 18, 3) := by decide +kernel
theorem dX0_init_28 : decode cX0_init 28 = .ok (.aload_n 0, 1) := by decide +kernel
theorem dX0_init_29 : decode cX0_init 29 = .ok (.iconst 0, 1) := by decide +kernel
theorem dX0_init_30 : decode cX0_init 30 = .ok (.putfield 21, 3) := by decide +kernel
theorem dX0_init_33 : decode cX0_init 33 = .ok (.aload_n 0, 1) := by decide +kernel
theorem dX0_init_34 : decode cX0_init 34 = .ok (.iconst (-1), 1) := by decide +kernel
theorem dX0_init_35 : decode cX0_init 35 = .ok (.putfield 25, 3) := by decide +kernel
theorem dX0_init_38 : decode cX0_init 38 = .ok (.aload_n 0, 1) := by decide +kernel
theorem dX0_init_39 : decode cX0_init 39 = .ok (.iconst (-1), 1) := by decide +kernel
theorem dX0_init_40 : decode cX0_init 40 = .ok (.putfield 28, 3) := by decide +kernel
theorem dX0_init_43 : decode cX0_init 43 = .ok (.return_, 1) := by decide +kernel
theorem dX0_start_0 : decode cX0_start 0 = .ok (.iconst 0, 1) := by decide +kernel
theorem dX0_start_1 : decode cX0_start 1 = .ok (.istore_n 3, 1) := by decide +kernel
theorem dX0_start_2 : decode cX0_start 2 = .ok (.iload_n 3, 1) := by decide +kernel
theorem dX0_start_3 : decode cX0_start 3 = .ok (.bipush 9, 2) := by decide +kernel
theorem dX0_start_5 : decode cX0_start 5 = .ok (.if_icmp .ge 25, 3) := by decide +kernel
theorem dX0_start_8 : decode cX0_start 8 = .ok (.aload_n 0, 1) := by decide +kernel
theorem dX0_start_9 : decode cX0_start 9 = .ok (.getfield 9, 3) := by decide +kernel
theorem dX0_start_12 : decode cX0_start 12 = .ok (.iload_n 3, 1) := by decide +kernel
theorem dX0_start_13 : decode cX0_start 13 = .ok (.aload_n 1, 1) := by decide +kernel
theorem dX0_start_14 : decode cX0_start 14 = .ok (.iload_n 3, 1) := by decide +kernel
theorem dX0_start_15 : decode cX0_start 15 = .ok (.iaload, 1) := by decide +kernel
theorem dX0_start_16 : decode cX0_start 16 = .ok (.iastore, 1) := by decide +kernel
theorem dX0_start_17 : decode cX0_start 17 = .ok (.aload_n 0, 1) := by decide +kernel
theorem dX0_start_18 : decode cX0_start 18 = .ok (.getfield 15, 3) := by decide +kernel
theorem dX0_start_21 : decode cX0_start 21 = .ok (.iload_n 3, 1) := by decide +kernel
theorem dX0_start_22 : decode cX0_start 22 = .ok (.iconst 0, 1) := by decide +kernel
theorem dX0_start_23 : decode cX0_start 23 = .ok (.iastore, 1) := by decide +kernel
theorem dX0_start_24 : decode cX0_start 24 = .ok (.iinc 3 1, 3) := by decide +kernel
theorem dX0_start_27 : decode cX0_start 27 = .ok (.goto (-25), 3) := by decide +kernel
theorem dX0_start_30 : decode cX0_start 30 = .ok (.aload_n 0, 1) := by decide +kernel
theorem dX0_start_31 : decode cX0_start 31 = .ok (.iload_n 2, 1) := by decide +kernel
theorem dX0_start_32 : decode cX0_start 32 = .ok (.putfield 21, 3) := by decide +kernel
theorem dX0_start_35 : decode cX0_start 35 = .ok (.aload_n 0, 1) := by decide +kernel
theorem dX0_start_36 : decode cX0_start 36 = .ok (.aload_n 1, 1) := by decide +kernel
theorem dX0_start_37 : decode cX0_start 37 = .ok (.invokestatic 31, 3) := by decide +kernel
theorem dX0_start_40 : decode cX0_start 40 = .ok (.iconst 1, 1) := by decide +kernel
theorem dX0_start_41 : decode cX0_start 41 = .ok (.isub, 1) := by decide +kernel
theorem dX0_start_42 : decode cX0_start 42 = .ok (.putfield 25, 3) := by decide +kernel
theorem dX0_start_45 : decode cX0_start 45 = .ok (.aload_n 0, 1) := by decide +kernel
theorem dX0_start_46 : decode cX0_start 46 = .ok (.aload_n 0, 1) := by decide +kernel
theorem dX0_start_47 : decode cX0_start 47 = .ok (.getfield 25, 3) := by decide +kernel
theorem dX0_start_50 : decode cX0_start 50 = .ok (.ifCond .ge 7, 3) := by decide +kernel
theorem dX0_start_53 : decode cX0_start 53 = .ok (.iconst (-1), 1) := by decide +kernel
theorem dX0_start_54 : decode cX0_start 54 = .ok (.goto 4, 3) := by decide +kernel
theorem dX0_start_57 : decode cX0_start 57 = .ok (.iconst 0, 1) := by decide +kernel
theorem dX0_start_58 : decode cX0_start 58 = .ok (.putfield 28, 3) := by decide +kernel
theorem dX0_start_61 : decode cX0_start 61 = .ok (.aload_n 0, 1) := by decide +kernel
theorem dX0_start_62 : decode cX0_start 62 = .ok (.getfield 15, 3) := by decide +kernel
theorem dX0_start_65 : decode cX0_start 65 = .ok (.iconst 0, 1) := by decide +kernel
theorem dX0_start_66 : decode cX0_start 66 = .ok (.aload_n 0, 1) := by decide +kernel
theorem dX0_start_67 : decode cX0_start 67 = .ok (.getfield 25, 3) := by decide +kernel
theorem dX0_start_70 : decode cX0_start 70 = .ok (.ifCond .ge 7, 3) := by decide +kernel
theorem dX0_start_73 : decode cX0_start 73 = .ok (.iconst 0, 1) := by decide +kernel
theorem dX0_start_74 : decode cX0_start 74 = .ok (.goto 5, 3) := by decide +kernel
theorem dX0_start_77 : decode cX0_start 77 = .ok (.bipush (-2), 2) := by decide +kernel
theorem dX0_start_79 : decode cX0_start 79 = .ok (.iastore, 1) := by decide +kernel
theorem dX0_start_80 : decode cX0_start 80 = .ok (.return_, 1) := by decide +kernel
theorem dX0_advance_0 : decode cX0_advance 0 = .ok (.iconst 0, 1) := by decide +kernel
theorem dX0_advance_1 : decode cX0_advance 1 = .ok (.istore_n 1, 1) := by decide +kernel
theorem dX0_advance_2 : decode cX0_advance 2 = .ok (.iload_n 1, 1) := by decide +kernel
theorem dX0_advance_3 : decode cX0_advance 3 = .ok (.ldc 35, 2) := by decide +kernel
theorem dX0_advance_5 : decode cX0_advance 5 = .ok (.if_icmp .ge 134, 3) := by decide +kernel
theorem dX0_advance_8 : decode cX0_advance 8 = .ok (.aload_n 0, 1) := by decide +kernel
theorem dX0_advance_9 : decode cX0_advance 9 = .ok (.getfield 28, 3) := by decide +kernel
theorem dX0_advance_12 : decode cX0_advance 12 = .ok (.ifCond .lt 127, 3) := by decide +kernel
theorem dX0_advance_15 : decode cX0_advance 15 = .ok (.aload_n 0, 1) := by decide +kernel
theorem dX0_advance_16 : decode cX0_advance 16 = .ok (.getfield 15, 3) := by decide +kernel
theorem dX0_advance_19 : decode cX0_advance 19 = .ok (.aload_n 0, 1) := by decide +kernel
theorem dX0_advance_20 : decode cX0_advance 20 = .ok (.getfield 28, 3) := by decide +kernel
theorem dX0_advance_23 : decode cX0_advance 23 = .ok (.iaload, 1) := by decide +kernel
theorem dX0_advance_24 : decode cX0_advance 24 = .ok (.iconst 1, 1) := by decide +kernel
theorem dX0_advance_25 : decode cX0_advance 25 = .ok (.if_icmp .lt 16, 3) := by decide +kernel
theorem dX0_advance_28 : decode cX0_advance 28 = .ok (.aload_n 0, 1) := by decide +kernel
theorem dX0_advance_29 : decode cX0_advance 29 = .ok (.dup, 1) := by decide +kernel
theorem dX0_advance_30 : decode cX0_advance 30 = .ok (.getfield 28, 3) := by decide +kernel
theorem dX0_advance_33 : decode cX0_advance 33 = .ok (.iconst 1, 1) := by decide +kernel
theorem dX0_advance_34 : decode cX0_advance 34 = .ok (.isub, 1) := by decide +kernel
theorem dX0_advance_35 : decode cX0_advance 35 = .ok (.putfield 28, 3) := by decide +kernel
theorem dX0_advance_38 : decode cX0_advance 38 = .ok (.goto 95, 3) := by decide +kernel
theorem dX0_advance_41 : decode cX0_advance 41 = .ok (.aload_n 0, 1) := by decide +kernel
theorem dX0_advance_42 : decode cX0_advance 42 = .ok (.getfield 15, 3) := by decide +kernel
theorem dX0_advance_45 : decode cX0_advance 45 = .ok (.aload_n 0, 1) := by decide +kernel
theorem dX0_advance_46 : decode cX0_advance 46 = .ok (.getfield 28, 3) := by decide +kernel
theorem dX0_advance_49 : decode cX0_advance 49 = .ok (.dup2, 1) := by decide +kernel
theorem dX0_advance_50 : decode cX0_advance 50 = .ok (.iaload, 1) := by decide +kernel
theorem dX0_advance_51 : decode cX0_advance 51 = .ok (.iconst 1, 1) := by decide +kernel
theorem dX0_advance_52 : decode cX0_advance 52 = .ok (.iadd, 1) := by decide +kernel
theorem dX0_advance_53 : decode cX0_advance 53 = .ok (.iastore, 1) := by decide +kernel
theorem dX0_advance_54 : decode cX0_advance 54 = .ok (.aload_n 0, 1) := by decide +kernel
theorem dX0_advance_55 : decode cX0_advance 55 = .ok (.aload_n 0, 1) := by decide +kernel
theorem dX0_advance_56 : decode cX0_advance 56 = .ok (.getfield 28, 3) := by decide +kernel
theorem dX0_advance_59 : decode cX0_advance 59 = .ok (.invokevirtual 36, 3) := by decide +kernel
theorem dX0_advance_62 : decode cX0_advance 62 = .ok (.istore_n 2, 1) := by decide +kernel
theorem dX0_advance_63 : decode cX0_advance 63 = .ok (.iload_n 2, 1) := by decide +kernel
theorem dX0_advance_64 : decode cX0_advance 64 = .ok (.ifCond .eq 38, 3) := by decide +kernel
theorem dX0_advance_67 : decode cX0_advance 67 = .ok (.aload_n 0, 1) := by decide +kernel
theorem dX0_advance_68 : decode cX0_advance 68 = .ok (.getfield 28, 3) := by decide +kernel
theorem dX0_advance_71 : decode cX0_advance 71 = .ok (.aload_n 0, 1) := by decide +kernel
theorem dX0_advance_72 : decode cX0_advance 72 = .ok (.getfield 25, 3) := by decide +kernel
theorem dX0_advance_75 : decode cX0_advance 75 = .ok (.if_icmp .ge 27, 3) := by decide +kernel
theorem dX0_advance_78 : decode cX0_advance 78 = .ok (.aload_n 0, 1) := by decide +kernel
theorem dX0_advance_79 : decode cX0_advance 79 = .ok (.dup, 1) := by decide +kernel
theorem dX0_advance_80 : decode cX0_advance 80 = .ok (.getfield 28, 3) := by decide +kernel
theorem dX0_advance_83 : decode cX0_advance 83 = .ok (.iconst 1, 1) := by decide +kernel
theorem dX0_advance_84 : decode cX0_advance 84 = .ok (.iadd, 1) := by decide +kernel
theorem dX0_advance_85 : decode cX0_advance 85 = .ok (.putfield 28, 3) := by decide +kernel
theorem dX0_advance_88 : decode cX0_advance 88 = .ok (.aload_n 0, 1) := by decide +kernel
theorem dX0_advance_89 : decode cX0_advance 89 = .ok (.getfield 15, 3) := by decide +kernel
theorem dX0_advance_92 : decode cX0_advance 92 = .ok (.aload_n 0, 1) := by decide +kernel
theorem dX0_advance_93 : decode cX0_advance 93 = .ok (.getfield 28, 3) := by decide +kernel
theorem dX0_advance_96 : decode cX0_advance 96 = .ok (.bipush (-2), 2) := by decide +kernel
theorem dX0_advance_98 : decode cX0_advance 98 = .ok (.iastore, 1) := by decide +kernel
theorem dX0_advance_99 : decode cX0_advance 99 = .ok (.goto 34, 3) := by decide +kernel
theorem dX0_advance_102 : decode cX0_advance 102 = .ok (.iload_n 2, 1) := by decide +kernel
theorem dX0_advance_103 : decode cX0_advance 103 = .ok (.ifCond .eq 30, 3) := by decide +kernel
theorem dX0_advance_106 : decode cX0_advance 106 = .ok (.aload_n 0, 1) := by decide +kernel
theorem dX0_advance_107 : decode cX0_advance 107 = .ok (.getfield 15, 3) := by decide +kernel
theorem dX0_advance_110 : decode cX0_advance 110 = .ok (.aload_n 0, 1) := by decide +kernel
theorem dX0_advance_111 : decode cX0_advance 111 = .ok (.getfield 25, 3) := by decide +kernel
theorem dX0_advance_114 : decode cX0_advance 114 = .ok (.iaload, 1) := by decide +kernel
theorem dX0_advance_115 : decode cX0_advance 115 = .ok (.ifCond .eq 18, 3) := by decide +kernel
theorem dX0_advance_118 : decode cX0_advance 118 = .ok (.aload_n 0, 1) := by decide +kernel
theorem dX0_advance_119 : decode cX0_advance 119 = .ok (.aload_n 0, 1) := by decide +kernel
theorem dX0_advance_120 : decode cX0_advance 120 = .ok (.getfield 25, 3) := by decide +kernel
theorem dX0_advance_123 : decode cX0_advance 123 = .ok (.iconst 1, 1) := by decide +kernel
theorem dX0_advance_124 : decode cX0_advance 124 = .ok (.iadd, 1) := by decide +kernel
theorem dX0_advance_125 : decode cX0_advance 125 = .ok (.invokevirtual 36, 3) := by decide +kernel
theorem dX0_advance_128 : decode cX0_advance 128 = .ok (.ifCond .eq 5, 3) := by decide +kernel
theorem dX0_advance_131 : decode cX0_advance 131 = .ok (.iconst 1, 1) := by decide +kernel
theorem dX0_advance_132 : decode cX0_advance 132 = .ok (.ireturn, 1) := by decide +kernel
theorem dX0_advance_133 : decode cX0_advance 133 = .ok (.iinc 1 1, 3) := by decide +kernel
theorem dX0_advance_136 : decode cX0_advance 136 = .ok (.goto (-134), 3) := by decide +kernel
theorem dX0_advance_139 : decode cX0_advance 139 = .ok (.iconst 0, 1) := by decide +kernel
theorem dX0_advance_140 : decode cX0_advance 140 = .ok (.ireturn, 1) := by decide +kernel
theorem dX0_rememberBest_0 : decode cX0_rememberBest 0 = .ok (.aload_n 0, 1) := by decide +kernel
theorem dX0_rememberBest_1 : decode cX0_rememberBest 1 = .ok (.getfield 15, 3) := by decide +kernel
theorem dX0_rememberBest_4 : decode cX0_rememberBest 4 = .ok (.iconst 0, 1) := by decide +kernel
theorem dX0_rememberBest_5 : decode cX0_rememberBest 5 = .ok (.aload_n 0, 1) := by decide +kernel
theorem dX0_rememberBest_6 : decode cX0_rememberBest 6 = .ok (.getfield 18, 3) := by decide +kernel
theorem dX0_rememberBest_9 : decode cX0_rememberBest 9 = .ok (.iconst 0, 1) := by decide +kernel
theorem dX0_rememberBest_10 : decode cX0_rememberBest 10 = .ok (.bipush 9, 2) := by decide +kernel
theorem dX0_rememberBest_12 : decode cX0_rememberBest 12 = .ok (.invokestatic 40, 3) := by decide +kernel
theorem dX0_rememberBest_15 : decode cX0_rememberBest 15 = .ok (.return_, 1) := by decide +kernel
theorem dX0_fits_0 : decode cX0_fits 0 = .ok (.iload_n 1, 1) := by decide +kernel
theorem dX0_fits_1 : decode cX0_fits 1 = .ok (.ifCond .ne 7, 3) := by decide +kernel
theorem dX0_fits_4 : decode cX0_fits 4 = .ok (.iconst 0, 1) := by decide +kernel
theorem dX0_fits_5 : decode cX0_fits 5 = .ok (.goto 11, 3) := by decide +kernel
theorem dX0_fits_8 : decode cX0_fits 8 = .ok (.aload_n 0, 1) := by decide +kernel
theorem dX0_fits_9 : decode cX0_fits 9 = .ok (.getfield 15, 3) := by decide +kernel
theorem dX0_fits_12 : decode cX0_fits 12 = .ok (.iload_n 1, 1) := by decide +kernel
theorem dX0_fits_13 : decode cX0_fits 13 = .ok (.iconst 1, 1) := by decide +kernel
theorem dX0_fits_14 : decode cX0_fits 14 = .ok (.isub, 1) := by decide +kernel
theorem dX0_fits_15 : decode cX0_fits 15 = .ok (.iaload, 1) := by decide +kernel
theorem dX0_fits_16 : decode cX0_fits 16 = .ok (.istore_n 2, 1) := by decide +kernel
theorem dX0_fits_17 : decode cX0_fits 17 = .ok (.iload_n 2, 1) := by decide +kernel
theorem dX0_fits_18 : decode cX0_fits 18 = .ok (.invokestatic 46, 3) := by decide +kernel
theorem dX0_fits_21 : decode cX0_fits 21 = .ok (.aload_n 0, 1) := by decide +kernel
theorem dX0_fits_22 : decode cX0_fits 22 = .ok (.getfield 21, 3) := by decide +kernel
theorem dX0_fits_25 : decode cX0_fits 25 = .ok (.ineg, 1) := by decide +kernel
theorem dX0_fits_26 : decode cX0_fits 26 = .ok (.aload_n 0, 1) := by decide +kernel
theorem dX0_fits_27 : decode cX0_fits 27 = .ok (.getfield 15, 3) := by decide +kernel
theorem dX0_fits_30 : decode cX0_fits 30 = .ok (.iload_n 1, 1) := by decide +kernel
theorem dX0_fits_31 : decode cX0_fits 31 = .ok (.iaload, 1) := by decide +kernel
theorem dX0_fits_32 : decode cX0_fits 32 = .ok (.imul, 1) := by decide +kernel
theorem dX0_fits_33 : decode cX0_fits 33 = .ok (.invokestatic 46, 3) := by decide +kernel
theorem dX0_fits_36 : decode cX0_fits 36 = .ok (.ior, 1) := by decide +kernel
theorem dX0_fits_37 : decode cX0_fits 37 = .ok (.istore_n 3, 1) := by decide +kernel
theorem dX0_fits_38 : decode cX0_fits 38 = .ok (.iload_n 3, 1) := by decide +kernel
theorem dX0_fits_39 : decode cX0_fits 39 = .ok (.aload_n 0, 1) := by decide +kernel
theorem dX0_fits_40 : decode cX0_fits 40 = .ok (.getfield 9, 3) := by decide +kernel
theorem dX0_fits_43 : decode cX0_fits 43 = .ok (.iload_n 1, 1) := by decide +kernel
theorem dX0_fits_44 : decode cX0_fits 44 = .ok (.iaload, 1) := by decide +kernel
theorem dX0_fits_45 : decode cX0_fits 45 = .ok (.invokestatic 50, 3) := by decide +kernel
theorem dX0_fits_48 : decode cX0_fits 48 = .ok (.ireturn, 1) := by decide +kernel
theorem dX1_init_0 : decode cX1_init 0 = .ok (.aload_n 0, 1) := by decide +kernel
theorem dX1_init_1 : decode cX1_init 1 = .ok (.invokespecial 3, 3) := by decide +kernel
theorem dX1_init_4 : decode cX1_init 4 = .ok (.aload_n 0, 1) := by decide +kernel
theorem dX1_init_5 : decode cX1_init 5 = .ok (.iconst 5, 1) := by decide +kernel
theorem dX1_init_6 : decode cX1_init 6 = .ok (.bipush 9, 2) := by decide +kernel
theorem dX1_init_8 : decode cX1_init 8 = .ok (.multianewarray 9 2, 4) := by decide +kernel
theorem dX1_init_12 : decode cX1_init 12 = .ok (.putfield 11, 3) := by decide +kernel
theorem dX1_init_15 : decode cX1_init 15 = .ok (.aload_n 0, 1) := by decide +kernel
theorem dX1_init_16 : decode cX1_init 16 = .ok (.bipush 8, 2) := by decide +kernel
theorem dX1_init_18 : decode cX1_init 18 = .ok (.newarray .int, 2) := by decide +kernel
theorem dX1_init_20 : decode cX1_init 20 = .ok (.putfield 16, 3) := by decide +kernel
theorem dX1_init_23 : decode cX1_init 23 = .ok (.aload_n 0, 1) := by decide +kernel
theorem dX1_init_24 : decode cX1_init 24 = .ok (.iconst 0, 1) := by decide +kernel
theorem dX1_init_25 : decode cX1_init 25 = .ok (.putfield 20, 3) := by decide +kernel
theorem dX1_init_28 : decode cX1_init 28 = .ok (.aload_n 0, 1) := by decide +kernel
theorem dX1_init_29 : decode cX1_init 29 = .ok (.iconst 0, 1) := by decide +kernel
theorem dX1_init_30 : decode cX1_init 30 = .ok (.putfield 24, 3) := by decide +kernel
theorem dX1_init_33 : decode cX1_init 33 = .ok (.aload_n 0, 1) := by decide +kernel
theorem dX1_init_34 : decode cX1_init 34 = .ok (.iconst 0, 1) := by decide +kernel
theorem dX1_init_35 : decode cX1_init 35 = .ok (.putfield 27, 3) := by decide +kernel
theorem dX1_init_38 : decode cX1_init 38 = .ok (.iconst 0, 1) := by decide +kernel
theorem dX1_init_39 : decode cX1_init 39 = .ok (.istore_n 1, 1) := by decide +kernel
theorem dX1_init_40 : decode cX1_init 40 = .ok (.iload_n 1, 1) := by decide +kernel
theorem dX1_init_41 : decode cX1_init 41 = .ok (.iconst 5, 1) := by decide +kernel
theorem dX1_init_42 : decode cX1_init 42 = .ok (.if_icmp .ge 18, 3) := by decide +kernel
theorem dX1_init_45 : decode cX1_init 45 = .ok (.aload_n 0, 1) := by decide +kernel
theorem dX1_init_46 : decode cX1_init 46 = .ok (.getfield 11, 3) := by decide +kernel
theorem dX1_init_49 : decode cX1_init 49 = .ok (.iload_n 1, 1) := by decide +kernel
theorem dX1_init_50 : decode cX1_init 50 = .ok (.aaload, 1) := by decide +kernel
theorem dX1_init_51 : decode cX1_init 51 = .ok (.iconst 0, 1) := by decide +kernel
theorem dX1_init_52 : decode cX1_init 52 = .ok (.iconst 1, 1) := by decide +kernel
theorem dX1_init_53 : decode cX1_init 53 = .ok (.iastore, 1) := by decide +kernel
theorem dX1_init_54 : decode cX1_init 54 = .ok (.iinc 1 1, 3) := by decide +kernel
theorem dX1_init_57 : decode cX1_init 57 = .ok (.goto (-17), 3) := by decide +kernel
theorem dX1_init_60 : decode cX1_init 60 = .ok (.return_, 1) := by decide +kernel
theorem dX1_takeOver_0 : decode cX1_takeOver 0 = .ok (.iconst 0, 1) := by decide +kernel
theorem dX1_takeOver_1 : decode cX1_takeOver 1 = .ok (.istore_n 2, 1) := by decide +kernel
theorem dX1_takeOver_2 : decode cX1_takeOver 2 = .ok (.iload_n 2, 1) := by decide +kernel
theorem dX1_takeOver_3 : decode cX1_takeOver 3 = .ok (.iconst 5, 1) := by decide +kernel
theorem dX1_takeOver_4 : decode cX1_takeOver 4 = .ok (.if_icmp .ge 28, 3) := by decide +kernel
theorem dX1_takeOver_7 : decode cX1_takeOver 7 = .ok (.aload_n 1, 1) := by decide +kernel
theorem dX1_takeOver_8 : decode cX1_takeOver 8 = .ok (.getfield 11, 3) := by decide +kernel
theorem dX1_takeOver_11 : decode cX1_takeOver 11 = .ok (.iload_n 2, 1) := by decide +kernel
theorem dX1_takeOver_12 : decode cX1_takeOver 12 = .ok (.aaload, 1) := by decide +kernel
theorem dX1_takeOver_13 : decode cX1_takeOver 13 = .ok (.iconst 0, 1) := by decide +kernel
theorem dX1_takeOver_14 : decode cX1_takeOver 14 = .ok (.aload_n 0, 1) := by decide +kernel
theorem dX1_takeOver_15 : decode cX1_takeOver 15 = .ok (.getfield 11, 3) := by decide +kernel
theorem dX1_takeOver_18 : decode cX1_takeOver 18 = .ok (.iload_n 2, 1) := by decide +kernel
theorem dX1_takeOver_19 : decode cX1_takeOver 19 = .ok (.aaload, 1) := by decide +kernel
theorem dX1_takeOver_20 : decode cX1_takeOver 20 = .ok (.iconst 0, 1) := by decide +kernel
theorem dX1_takeOver_21 : decode cX1_takeOver 21 = .ok (.bipush 9, 2) := by decide +kernel
theorem dX1_takeOver_23 : decode cX1_takeOver 23 = .ok (.invokestatic 30, 3) := by decide +kernel
theorem dX1_takeOver_26 : decode cX1_takeOver 26 = .ok (.iinc 2 1, 3) := by decide +kernel
theorem dX1_takeOver_29 : decode cX1_takeOver 29 = .ok (.goto (-27), 3) := by decide +kernel
theorem dX1_takeOver_32 : decode cX1_takeOver 32 = .ok (.aload_n 1, 1) := by decide +kernel
theorem dX1_takeOver_33 : decode cX1_takeOver 33 = .ok (.getfield 16, 3) := by decide +kernel
theorem dX1_takeOver_36 : decode cX1_takeOver 36 = .ok (.iconst 0, 1) := by decide +kernel
theorem dX1_takeOver_37 : decode cX1_takeOver 37 = .ok (.aload_n 0, 1) := by decide +kernel
theorem dX1_takeOver_38 : decode cX1_takeOver 38 = .ok (.getfield 16, 3) := by decide +kernel
theorem dX1_takeOver_41 : decode cX1_takeOver 41 = .ok (.iconst 0, 1) := by decide +kernel
theorem dX1_takeOver_42 : decode cX1_takeOver 42 = .ok (.bipush 8, 2) := by decide +kernel
theorem dX1_takeOver_44 : decode cX1_takeOver 44 = .ok (.invokestatic 30, 3) := by decide +kernel
theorem dX1_takeOver_47 : decode cX1_takeOver 47 = .ok (.aload_n 0, 1) := by decide +kernel
theorem dX1_takeOver_48 : decode cX1_takeOver 48 = .ok (.aload_n 1, 1) := by decide +kernel
theorem dX1_takeOver_49 : decode cX1_takeOver 49 = .ok (.getfield 20, 3) := by decide +kernel
theorem dX1_takeOver_52 : decode cX1_takeOver 52 = .ok (.putfield 20, 3) := by decide +kernel
theorem dX1_takeOver_55 : decode cX1_takeOver 55 = .ok (.aload_n 0, 1) := by decide +kernel
theorem dX1_takeOver_56 : decode cX1_takeOver 56 = .ok (.aload_n 1, 1) := by decide +kernel
theorem dX1_takeOver_57 : decode cX1_takeOver 57 = .ok (.getfield 24, 3) := by decide +kernel
theorem dX1_takeOver_60 : decode cX1_takeOver 60 = .ok (.putfield 24, 3) := by decide +kernel
theorem dX1_takeOver_63 : decode cX1_takeOver 63 = .ok (.aload_n 0, 1) := by decide +kernel
theorem dX1_takeOver_64 : decode cX1_takeOver 64 = .ok (.aload_n 1, 1) := by decide +kernel
theorem dX1_takeOver_65 : decode cX1_takeOver 65 = .ok (.getfield 27, 3) := by decide +kernel
theorem dX1_takeOver_68 : decode cX1_takeOver 68 = .ok (.putfield 27, 3) := by decide +kernel
theorem dX1_takeOver_71 : decode cX1_takeOver 71 = .ok (.return_, 1) := by decide +kernel
theorem dXT_init_0 : decode cXT_init 0 = .ok (.aload_n 0, 1) := by decide +kernel
theorem dXT_init_1 : decode cXT_init 1 = .ok (.invokespecial 5, 3) := by decide +kernel
theorem dXT_init_4 : decode cXT_init 4 = .ok (.aload_n 0, 1) := by decide +kernel
theorem dXT_init_5 : decode cXT_init 5 = .ok (.sipush 1231, 3) := by decide +kernel
theorem dXT_init_8 : decode cXT_init 8 = .ok (.newarray .long, 2) := by decide +kernel
theorem dXT_init_10 : decode cXT_init 10 = .ok (.putfield 11, 3) := by decide +kernel
theorem dXT_init_13 : decode cXT_init 13 = .ok (.return_, 1) := by decide +kernel
theorem dXT_timesOf_0 : decode cXT_timesOf 0 = .ok (.iload_n 1, 1) := by decide +kernel
theorem dXT_timesOf_1 : decode cXT_timesOf 1 = .ok (.iload_n 2, 1) := by decide +kernel
theorem dXT_timesOf_2 : decode cXT_timesOf 2 = .ok (.invokestatic 15, 3) := by decide +kernel
theorem dXT_timesOf_5 : decode cXT_timesOf 5 = .ok (.istore_n 3, 1) := by decide +kernel
theorem dXT_timesOf_6 : decode cXT_timesOf 6 = .ok (.iload_n 3, 1) := by decide +kernel
theorem dXT_timesOf_7 : decode cXT_timesOf 7 = .ok (.ifCond .lt 10, 3) := by decide +kernel
theorem dXT_timesOf_10 : decode cXT_timesOf 10 = .ok (.iload_n 3, 1) := by decide +kernel
theorem dXT_timesOf_11 : decode cXT_timesOf 11 = .ok (.sipush 19683, 3) := by decide +kernel
theorem dXT_timesOf_14 : decode cXT_timesOf 14 = .ok (.if_icmp .lt 5, 3) := by decide +kernel
theorem dXT_timesOf_17 : decode cXT_timesOf 17 = .ok (.iconst (-1), 1) := by decide +kernel
theorem dXT_timesOf_18 : decode cXT_timesOf 18 = .ok (.ireturn, 1) := by decide +kernel
theorem dXT_timesOf_19 : decode cXT_timesOf 19 = .ok (.aload_n 0, 1) := by decide +kernel
theorem dXT_timesOf_20 : decode cXT_timesOf 20 = .ok (.getfield 11, 3) := by decide +kernel
theorem dXT_timesOf_23 : decode cXT_timesOf 23 = .ok (.iload_n 3, 1) := by decide +kernel
theorem dXT_timesOf_24 : decode cXT_timesOf 24 = .ok (.bipush 16, 2) := by decide +kernel
theorem dXT_timesOf_26 : decode cXT_timesOf 26 = .ok (.idiv, 1) := by decide +kernel
theorem dXT_timesOf_27 : decode cXT_timesOf 27 = .ok (.laload, 1) := by decide +kernel
theorem dXT_timesOf_28 : decode cXT_timesOf 28 = .ok (.iload_n 3, 1) := by decide +kernel
theorem dXT_timesOf_29 : decode cXT_timesOf 29 = .ok (.bipush 16, 2) := by decide +kernel
theorem dXT_timesOf_31 : decode cXT_timesOf 31 = .ok (.irem, 1) := by decide +kernel
theorem dXT_timesOf_32 : decode cXT_timesOf 32 = .ok (.iconst 4, 1) := by decide +kernel
theorem dXT_timesOf_33 : decode cXT_timesOf 33 = .ok (.imul, 1) := by decide +kernel
theorem dXT_timesOf_34 : decode cXT_timesOf 34 = .ok (.lushr, 1) := by decide +kernel
theorem dXT_timesOf_35 : decode cXT_timesOf 35 = .ok (.lstore 4, 2) := by decide +kernel
theorem dXT_timesOf_37 : decode cXT_timesOf 37 = .ok (.lload 4, 2) := by decide +kernel
theorem dXT_timesOf_39 : decode cXT_timesOf 39 = .ok (.ldc2_w 19, 3) := by decide +kernel
theorem dXT_timesOf_42 : decode cXT_timesOf 42 = .ok (.land, 1) := by decide +kernel
theorem dXT_timesOf_43 : decode cXT_timesOf 43 = .ok (.l2i, 1) := by decide +kernel
theorem dXT_timesOf_44 : decode cXT_timesOf 44 = .ok (.iconst 1, 1) := by decide +kernel
theorem dXT_timesOf_45 : decode cXT_timesOf 45 = .ok (.isub, 1) := by decide +kernel
theorem dXT_timesOf_46 : decode cXT_timesOf 46 = .ok (.ireturn, 1) := by decide +kernel
theorem dXT_remember_0 : decode cXT_remember 0 = .ok (.iload_n 1, 1) := by decide +kernel
theorem dXT_remember_1 : decode cXT_remember 1 = .ok (.iload_n 2, 1) := by decide +kernel
theorem dXT_remember_2 : decode cXT_remember 2 = .ok (.invokestatic 15, 3) := by decide +kernel
theorem dXT_remember_5 : decode cXT_remember 5 = .ok (.istore 4, 2) := by decide +kernel
theorem dXT_remember_7 : decode cXT_remember 7 = .ok (.iload 4, 2) := by decide +kernel
theorem dXT_remember_9 : decode cXT_remember 9 = .ok (.ifCond .lt 36, 3) := by decide +kernel
theorem dXT_remember_12 : decode cXT_remember 12 = .ok (.iload 4, 2) := by decide +kernel
theorem dXT_remember_14 : decode cXT_remember 14 = .ok (.sipush 19683, 3) := by decide +kernel
theorem dXT_remember_17 : decode cXT_remember 17 = .ok (.if_icmp .ge 28, 3) := by decide +kernel
theorem dXT_remember_20 : decode cXT_remember 20 = .ok (.aload_n 0, 1) := by decide +kernel
theorem dXT_remember_21 : decode cXT_remember 21 = .ok (.getfield 11, 3) := by decide +kernel
theorem dXT_remember_24 : decode cXT_remember 24 = .ok (.iload 4, 2) := by decide +kernel
theorem dXT_remember_26 : decode cXT_remember 26 = .ok (.bipush 16, 2) := by decide +kernel
theorem dXT_remember_28 : decode cXT_remember 28 = .ok (.idiv, 1) := by decide +kernel
theorem dXT_remember_29 : decode cXT_remember 29 = .ok (.dup2, 1) := by decide +kernel
theorem dXT_remember_30 : decode cXT_remember 30 = .ok (.laload, 1) := by decide +kernel
theorem dXT_remember_31 : decode cXT_remember 31 = .ok (.iload_n 3, 1) := by decide +kernel
theorem dXT_remember_32 : decode cXT_remember 32 = .ok (.i2l, 1) := by decide +kernel
theorem dXT_remember_33 : decode cXT_remember 33 = .ok (.lconst 1, 1) := by decide +kernel
theorem dXT_remember_34 : decode cXT_remember 34 = .ok (.ladd, 1) := by decide +kernel
theorem dXT_remember_35 : decode cXT_remember 35 = .ok (.iload 4, 2) := by decide +kernel
theorem dXT_remember_37 : decode cXT_remember 37 = .ok (.bipush 16, 2) := by decide +kernel
theorem dXT_remember_39 : decode cXT_remember 39 = .ok (.irem, 1) := by decide +kernel
theorem dXT_remember_40 : decode cXT_remember 40 = .ok (.iconst 4, 1) := by decide +kernel
theorem dXT_remember_41 : decode cXT_remember 41 = .ok (.imul, 1) := by decide +kernel
theorem dXT_remember_42 : decode cXT_remember 42 = .ok (.lshl, 1) := by decide +kernel
theorem dXT_remember_43 : decode cXT_remember 43 = .ok (.lor, 1) := by decide +kernel
theorem dXT_remember_44 : decode cXT_remember 44 = .ok (.lastore, 1) := by decide +kernel
theorem dXT_remember_45 : decode cXT_remember 45 = .ok (.return_, 1) := by decide +kernel
theorem dXT_placeOf_0 : decode cXT_placeOf 0 = .ok (.iload_n 0, 1) := by decide +kernel
theorem dXT_placeOf_1 : decode cXT_placeOf 1 = .ok (.sipush 6561, 3) := by decide +kernel
theorem dXT_placeOf_4 : decode cXT_placeOf 4 = .ok (.isub, 1) := by decide +kernel
theorem dXT_placeOf_5 : decode cXT_placeOf 5 = .ok (.iconst 3, 1) := by decide +kernel
theorem dXT_placeOf_6 : decode cXT_placeOf 6 = .ok (.imul, 1) := by decide +kernel
theorem dXT_placeOf_7 : decode cXT_placeOf 7 = .ok (.iload_n 1, 1) := by decide +kernel
theorem dXT_placeOf_8 : decode cXT_placeOf 8 = .ok (.iadd, 1) := by decide +kernel
theorem dXT_placeOf_9 : decode cXT_placeOf 9 = .ok (.iconst 1, 1) := by decide +kernel
theorem dXT_placeOf_10 : decode cXT_placeOf 10 = .ok (.iadd, 1) := by decide +kernel
theorem dXT_placeOf_11 : decode cXT_placeOf 11 = .ok (.ireturn, 1) := by decide +kernel
theorem dX2_init_0 : decode cX2_init 0 = .ok (.aload_n 0, 1) := by decide +kernel
theorem dX2_init_1 : decode cX2_init 1 = .ok (.invokespecial 3, 3) := by decide +kernel
theorem dX2_init_4 : decode cX2_init 4 = .ok (.aload_n 0, 1) := by decide +kernel
theorem dX2_init_5 : decode cX2_init 5 = .ok (.new 9, 3) := by decide +kernel
theorem dX2_init_8 : decode cX2_init 8 = .ok (.dup, 1) := by decide +kernel
theorem dX2_init_9 : decode cX2_init 9 = .ok (.invokespecial 11, 3) := by decide +kernel
theorem dX2_init_12 : decode cX2_init 12 = .ok (.putfield 12, 3) := by decide +kernel
theorem dX2_init_15 : decode cX2_init 15 = .ok (.aload_n 0, 1) := by decide +kernel
theorem dX2_init_16 : decode cX2_init 16 = .ok (.bipush 6, 2) := by decide +kernel
theorem dX2_init_18 : decode cX2_init 18 = .ok (.anewarray 9, 3) := by decide +kernel
theorem dX2_init_21 : decode cX2_init 21 = .ok (.putfield 16, 3) := by decide +kernel
theorem dX2_init_24 : decode cX2_init 24 = .ok (.aload_n 0, 1) := by decide +kernel
theorem dX2_init_25 : decode cX2_init 25 = .ok (.iconst 0, 1) := by decide +kernel
theorem dX2_init_26 : decode cX2_init 26 = .ok (.putfield 20, 3) := by decide +kernel
theorem dX2_init_29 : decode cX2_init 29 = .ok (.aload_n 0, 1) := by decide +kernel
theorem dX2_init_30 : decode cX2_init 30 = .ok (.iconst 2, 1) := by decide +kernel
theorem dX2_init_31 : decode cX2_init 31 = .ok (.anewarray 9, 3) := by decide +kernel
theorem dX2_init_34 : decode cX2_init 34 = .ok (.putfield 24, 3) := by decide +kernel
theorem dX2_init_37 : decode cX2_init 37 = .ok (.aload_n 0, 1) := by decide +kernel
theorem dX2_init_38 : decode cX2_init 38 = .ok (.iconst 2, 1) := by decide +kernel
theorem dX2_init_39 : decode cX2_init 39 = .ok (.newarray .boolean, 2) := by decide +kernel
theorem dX2_init_41 : decode cX2_init 41 = .ok (.putfield 27, 3) := by decide +kernel
theorem dX2_init_44 : decode cX2_init 44 = .ok (.aload_n 0, 1) := by decide +kernel
theorem dX2_init_45 : decode cX2_init 45 = .ok (.bipush 60, 2) := by decide +kernel
theorem dX2_init_47 : decode cX2_init 47 = .ok (.newarray .int, 2) := by decide +kernel
theorem dX2_init_49 : decode cX2_init 49 = .ok (.putfield 31, 3) := by decide +kernel
theorem dX2_init_52 : decode cX2_init 52 = .ok (.aload_n 0, 1) := by decide +kernel
theorem dX2_init_53 : decode cX2_init 53 = .ok (.iconst 0, 1) := by decide +kernel
theorem dX2_init_54 : decode cX2_init 54 = .ok (.putfield 35, 3) := by decide +kernel
theorem dX2_init_57 : decode cX2_init 57 = .ok (.aload_n 0, 1) := by decide +kernel
theorem dX2_init_58 : decode cX2_init 58 = .ok (.bipush 9, 2) := by decide +kernel
theorem dX2_init_60 : decode cX2_init 60 = .ok (.newarray .long, 2) := by decide +kernel
theorem dX2_init_62 : decode cX2_init 62 = .ok (.putfield 38, 3) := by decide +kernel
theorem dX2_init_65 : decode cX2_init 65 = .ok (.aload_n 0, 1) := by decide +kernel
theorem dX2_init_66 : decode cX2_init 66 = .ok (.bipush 9, 2) := by decide +kernel
theorem dX2_init_68 : decode cX2_init 68 = .ok (.anewarray 42, 3) := by decide +kernel
theorem dX2_init_71 : decode cX2_init 71 = .ok (.putfield 44, 3) := by decide +kernel
theorem dX2_init_74 : decode cX2_init 74 = .ok (.aload_n 0, 1) := by decide +kernel
theorem dX2_init_75 : decode cX2_init 75 = .ok (.new 48, 3) := by decide +kernel
theorem dX2_init_78 : decode cX2_init 78 = .ok (.dup, 1) := by decide +kernel
theorem dX2_init_79 : decode cX2_init 79 = .ok (.invokespecial 50, 3) := by decide +kernel
theorem dX2_init_82 : decode cX2_init 82 = .ok (.putfield 51, 3) := by decide +kernel
theorem dX2_init_85 : decode cX2_init 85 = .ok (.iconst 0, 1) := by decide +kernel
theorem dX2_init_86 : decode cX2_init 86 = .ok (.istore_n 1, 1) := by decide +kernel
theorem dX2_init_87 : decode cX2_init 87 = .ok (.iload_n 1, 1) := by decide +kernel
theorem dX2_init_88 : decode cX2_init 88 = .ok (.bipush 6, 2) := by decide +kernel
theorem dX2_init_90 : decode cX2_init 90 = .ok (.if_icmp .ge 22, 3) := by decide +kernel
theorem dX2_init_93 : decode cX2_init 93 = .ok (.aload_n 0, 1) := by decide +kernel
theorem dX2_init_94 : decode cX2_init 94 = .ok (.getfield 16, 3) := by decide +kernel
theorem dX2_init_97 : decode cX2_init 97 = .ok (.iload_n 1, 1) := by decide +kernel
theorem dX2_init_98 : decode cX2_init 98 = .ok (.new 9, 3) := by decide +kernel
theorem dX2_init_101 : decode cX2_init 101 = .ok (.dup, 1) := by decide +kernel
theorem dX2_init_102 : decode cX2_init 102 = .ok (.invokespecial 11, 3) := by decide +kernel
theorem dX2_init_105 : decode cX2_init 105 = .ok (.aastore, 1) := by decide +kernel
theorem dX2_init_106 : decode cX2_init 106 = .ok (.iinc 1 1, 3) := by decide +kernel
theorem dX2_init_109 : decode cX2_init 109 = .ok (.goto (-22), 3) := by decide +kernel
theorem dX2_init_112 : decode cX2_init 112 = .ok (.iconst 0, 1) := by decide +kernel
theorem dX2_init_113 : decode cX2_init 113 = .ok (.istore_n 1, 1) := by decide +kernel
theorem dX2_init_114 : decode cX2_init 114 = .ok (.iload_n 1, 1) := by decide +kernel
theorem dX2_init_115 : decode cX2_init 115 = .ok (.iconst 2, 1) := by decide +kernel
theorem dX2_init_116 : decode cX2_init 116 = .ok (.if_icmp .ge 22, 3) := by decide +kernel
theorem dX2_init_119 : decode cX2_init 119 = .ok (.aload_n 0, 1) := by decide +kernel
theorem dX2_init_120 : decode cX2_init 120 = .ok (.getfield 24, 3) := by decide +kernel
theorem dX2_init_123 : decode cX2_init 123 = .ok (.iload_n 1, 1) := by decide +kernel
theorem dX2_init_124 : decode cX2_init 124 = .ok (.new 9, 3) := by decide +kernel
theorem dX2_init_127 : decode cX2_init 127 = .ok (.dup, 1) := by decide +kernel
theorem dX2_init_128 : decode cX2_init 128 = .ok (.invokespecial 11, 3) := by decide +kernel
theorem dX2_init_131 : decode cX2_init 131 = .ok (.aastore, 1) := by decide +kernel
theorem dX2_init_132 : decode cX2_init 132 = .ok (.iinc 1 1, 3) := by decide +kernel
theorem dX2_init_135 : decode cX2_init 135 = .ok (.goto (-21), 3) := by decide +kernel
theorem dX2_init_138 : decode cX2_init 138 = .ok (.iconst 0, 1) := by decide +kernel
theorem dX2_init_139 : decode cX2_init 139 = .ok (.istore_n 1, 1) := by decide +kernel
theorem dX2_init_140 : decode cX2_init 140 = .ok (.iload_n 1, 1) := by decide +kernel
theorem dX2_init_141 : decode cX2_init 141 = .ok (.bipush 9, 2) := by decide +kernel
theorem dX2_init_143 : decode cX2_init 143 = .ok (.if_icmp .ge 22, 3) := by decide +kernel
theorem dX2_init_146 : decode cX2_init 146 = .ok (.aload_n 0, 1) := by decide +kernel
theorem dX2_init_147 : decode cX2_init 147 = .ok (.getfield 44, 3) := by decide +kernel
theorem dX2_init_150 : decode cX2_init 150 = .ok (.iload_n 1, 1) := by decide +kernel
theorem dX2_init_151 : decode cX2_init 151 = .ok (.new 42, 3) := by decide +kernel
theorem dX2_init_154 : decode cX2_init 154 = .ok (.dup, 1) := by decide +kernel
theorem dX2_init_155 : decode cX2_init 155 = .ok (.invokespecial 55, 3) := by decide +kernel
theorem dX2_init_158 : decode cX2_init 158 = .ok (.aastore, 1) := by decide +kernel
theorem dX2_init_159 : decode cX2_init 159 = .ok (.iinc 1 1, 3) := by decide +kernel
theorem dX2_init_162 : decode cX2_init 162 = .ok (.goto (-22), 3) := by decide +kernel
theorem dX2_init_165 : decode cX2_init 165 = .ok (.return_, 1) := by decide +kernel
theorem dX2_put_0 : decode cX2_put 0 = .ok (.iload_n 1, 1) := by decide +kernel
theorem dX2_put_1 : decode cX2_put 1 = .ok (.invokestatic 56, 3) := by decide +kernel
theorem dX2_put_4 : decode cX2_put 4 = .ok (.iload_n 2, 1) := by decide +kernel
theorem dX2_put_5 : decode cX2_put 5 = .ok (.invokestatic 60, 3) := by decide +kernel
theorem dX2_put_8 : decode cX2_put 8 = .ok (.iload_n 3, 1) := by decide +kernel
theorem dX2_put_9 : decode cX2_put 9 = .ok (.invokestatic 63, 3) := by decide +kernel
theorem dX2_put_12 : decode cX2_put 12 = .ok (.aload_n 0, 1) := by decide +kernel
theorem dX2_put_13 : decode cX2_put 13 = .ok (.invokevirtual 66, 3) := by decide +kernel
theorem dX2_put_16 : decode cX2_put 16 = .ok (.aload_n 0, 1) := by decide +kernel
theorem dX2_put_17 : decode cX2_put 17 = .ok (.getfield 12, 3) := by decide +kernel
theorem dX2_put_20 : decode cX2_put 20 = .ok (.getfield 69, 3) := by decide +kernel
theorem dX2_put_23 : decode cX2_put 23 = .ok (.iload_n 1, 1) := by decide +kernel
theorem dX2_put_24 : decode cX2_put 24 = .ok (.aaload, 1) := by decide +kernel
theorem dX2_put_25 : decode cX2_put 25 = .ok (.astore 4, 2) := by decide +kernel
theorem dX2_put_27 : decode cX2_put 27 = .ok (.iload_n 3, 1) := by decide +kernel
theorem dX2_put_28 : decode cX2_put 28 = .ok (.ifCond .ne 28, 3) := by decide +kernel
theorem dX2_put_31 : decode cX2_put 31 = .ok (.aload 4, 2) := by decide +kernel
theorem dX2_put_33 : decode cX2_put 33 = .ok (.iload_n 2, 1) := by decide +kernel
theorem dX2_put_34 : decode cX2_put 34 = .ok (.invokestatic 73, 3) := by decide +kernel
theorem dX2_put_37 : decode cX2_put 37 = .ok (.ifCond .eq 19, 3) := by decide +kernel
theorem dX2_put_40 : decode cX2_put 40 = .ok (.aload_n 0, 1) := by decide +kernel
theorem dX2_put_41 : decode cX2_put 41 = .ok (.getfield 12, 3) := by decide +kernel
theorem dX2_put_44 : decode cX2_put 44 = .ok (.dup, 1) := by decide +kernel
theorem dX2_put_45 : decode cX2_put 45 = .ok (.getfield 77, 3) := by decide +kernel
theorem dX2_put_48 : decode cX2_put 48 = .ok (.iconst 1, 1) := by decide +kernel
theorem dX2_put_49 : decode cX2_put 49 = .ok (.iadd, 1) := by decide +kernel
theorem dX2_put_50 : decode cX2_put 50 = .ok (.putfield 77, 3) := by decide +kernel
theorem dX2_put_53 : decode cX2_put 53 = .ok (.bipush (-9), 2) := by decide +kernel
theorem dX2_put_55 : decode cX2_put 55 = .ok (.ireturn, 1) := by decide +kernel
theorem dX2_put_56 : decode cX2_put 56 = .ok (.aload 4, 2) := by decide +kernel
theorem dX2_put_58 : decode cX2_put 58 = .ok (.iload_n 2, 1) := by decide +kernel
theorem dX2_put_59 : decode cX2_put 59 = .ok (.iload_n 3, 1) := by decide +kernel
theorem dX2_put_60 : decode cX2_put 60 = .ok (.iastore, 1) := by decide +kernel
theorem dX2_put_61 : decode cX2_put 61 = .ok (.aload 4, 2) := by decide +kernel
theorem dX2_put_63 : decode cX2_put 63 = .ok (.invokestatic 80, 3) := by decide +kernel
theorem dX2_put_66 : decode cX2_put 66 = .ok (.ireturn, 1) := by decide +kernel
theorem dX2_copy_0 : decode cX2_copy 0 = .ok (.iload_n 1, 1) := by decide +kernel
theorem dX2_copy_1 : decode cX2_copy 1 = .ok (.invokestatic 56, 3) := by decide +kernel
theorem dX2_copy_4 : decode cX2_copy 4 = .ok (.iload_n 2, 1) := by decide +kernel
theorem dX2_copy_5 : decode cX2_copy 5 = .ok (.invokestatic 56, 3) := by decide +kernel
theorem dX2_copy_8 : decode cX2_copy 8 = .ok (.aload_n 0, 1) := by decide +kernel
theorem dX2_copy_9 : decode cX2_copy 9 = .ok (.invokevirtual 66, 3) := by decide +kernel
theorem dX2_copy_12 : decode cX2_copy 12 = .ok (.aload_n 0, 1) := by decide +kernel
theorem dX2_copy_13 : decode cX2_copy 13 = .ok (.getfield 12, 3) := by decide +kernel
theorem dX2_copy_16 : decode cX2_copy 16 = .ok (.getfield 69, 3) := by decide +kernel
theorem dX2_copy_19 : decode cX2_copy 19 = .ok (.iload_n 1, 1) := by decide +kernel
theorem dX2_copy_20 : decode cX2_copy 20 = .ok (.aaload, 1) := by decide +kernel
theorem dX2_copy_21 : decode cX2_copy 21 = .ok (.iconst 0, 1) := by decide +kernel
theorem dX2_copy_22 : decode cX2_copy 22 = .ok (.aload_n 0, 1) := by decide +kernel
theorem dX2_copy_23 : decode cX2_copy 23 = .ok (.getfield 12, 3) := by decide +kernel
theorem dX2_copy_26 : decode cX2_copy 26 = .ok (.getfield 69, 3) := by decide +kernel
theorem dX2_copy_29 : decode cX2_copy 29 = .ok (.iload_n 2, 1) := by decide +kernel
theorem dX2_copy_30 : decode cX2_copy 30 = .ok (.aaload, 1) := by decide +kernel
theorem dX2_copy_31 : decode cX2_copy 31 = .ok (.iconst 0, 1) := by decide +kernel
theorem dX2_copy_32 : decode cX2_copy 32 = .ok (.bipush 9, 2) := by decide +kernel
theorem dX2_copy_34 : decode cX2_copy 34 = .ok (.invokestatic 84, 3) := by decide +kernel
theorem dX2_copy_37 : decode cX2_copy 37 = .ok (.aload_n 0, 1) := by decide +kernel
theorem dX2_copy_38 : decode cX2_copy 38 = .ok (.getfield 12, 3) := by decide +kernel
theorem dX2_copy_41 : decode cX2_copy 41 = .ok (.getfield 69, 3) := by decide +kernel
theorem dX2_copy_44 : decode cX2_copy 44 = .ok (.iload_n 2, 1) := by decide +kernel
theorem dX2_copy_45 : decode cX2_copy 45 = .ok (.aaload, 1) := by decide +kernel
theorem dX2_copy_46 : decode cX2_copy 46 = .ok (.invokestatic 80, 3) := by decide +kernel
theorem dX2_copy_49 : decode cX2_copy 49 = .ok (.ireturn, 1) := by decide +kernel
theorem dX2_divide_0 : decode cX2_divide 0 = .ok (.iload_n 1, 1) := by decide +kernel
theorem dX2_divide_1 : decode cX2_divide 1 = .ok (.invokestatic 56, 3) := by decide +kernel
theorem dX2_divide_4 : decode cX2_divide 4 = .ok (.iload_n 2, 1) := by decide +kernel
theorem dX2_divide_5 : decode cX2_divide 5 = .ok (.invokestatic 63, 3) := by decide +kernel
theorem dX2_divide_8 : decode cX2_divide 8 = .ok (.aload_n 0, 1) := by decide +kernel
theorem dX2_divide_9 : decode cX2_divide 9 = .ok (.invokevirtual 66, 3) := by decide +kernel
theorem dX2_divide_12 : decode cX2_divide 12 = .ok (.aload_n 0, 1) := by decide +kernel
theorem dX2_divide_13 : decode cX2_divide 13 = .ok (.getfield 12, 3) := by decide +kernel
theorem dX2_divide_16 : decode cX2_divide 16 = .ok (.getfield 69, 3) := by decide +kernel
theorem dX2_divide_19 : decode cX2_divide 19 = .ok (.iload_n 1, 1) := by decide +kernel
theorem dX2_divide_20 : decode cX2_divide 20 = .ok (.aaload, 1) := by decide +kernel
theorem dX2_divide_21 : decode cX2_divide 21 = .ok (.astore_n 3, 1) := by decide +kernel
theorem dX2_divide_22 : decode cX2_divide 22 = .ok (.aload_n 3, 1) := by decide +kernel
theorem dX2_divide_23 : decode cX2_divide 23 = .ok (.iload_n 2, 1) := by decide +kernel
theorem dX2_divide_24 : decode cX2_divide 24 = .ok (.aload_n 0, 1) := by decide +kernel
theorem dX2_divide_25 : decode cX2_divide 25 = .ok (.getfield 44, 3) := by decide +kernel
theorem dX2_divide_28 : decode cX2_divide 28 = .ok (.aload_n 0, 1) := by decide +kernel
theorem dX2_divide_29 : decode cX2_divide 29 = .ok (.getfield 51, 3) := by decide +kernel
theorem dX2_divide_32 : decode cX2_divide 32 = .ok (.iconst 0, 1) := by decide +kernel
theorem dX2_divide_33 : decode cX2_divide 33 = .ok (.invokestatic 90, 3) := by decide +kernel
theorem dX2_divide_36 : decode cX2_divide 36 = .ok (.ifCond .ne 19, 3) := by decide +kernel
theorem dX2_divide_39 : decode cX2_divide 39 = .ok (.aload_n 0, 1) := by decide +kernel
theorem dX2_divide_40 : decode cX2_divide 40 = .ok (.getfield 12, 3) := by decide +kernel
theorem dX2_divide_43 : decode cX2_divide 43 = .ok (.dup, 1) := by decide +kernel
theorem dX2_divide_44 : decode cX2_divide 44 = .ok (.getfield 77, 3) := by decide +kernel
theorem dX2_divide_47 : decode cX2_divide 47 = .ok (.iconst 1, 1) := by decide +kernel
theorem dX2_divide_48 : decode cX2_divide 48 = .ok (.iadd, 1) := by decide +kernel
theorem dX2_divide_49 : decode cX2_divide 49 = .ok (.putfield 77, 3) := by decide +kernel
theorem dX2_divide_52 : decode cX2_divide 52 = .ok (.bipush (-9), 2) := by decide +kernel
theorem dX2_divide_54 : decode cX2_divide 54 = .ok (.ireturn, 1) := by decide +kernel
theorem dX2_divide_55 : decode cX2_divide 55 = .ok (.aload_n 0, 1) := by decide +kernel
theorem dX2_divide_56 : decode cX2_divide 56 = .ok (.getfield 44, 3) := by decide +kernel
theorem dX2_divide_59 : decode cX2_divide 59 = .ok (.iconst 0, 1) := by decide +kernel
theorem dX2_divide_60 : decode cX2_divide 60 = .ok (.aaload, 1) := by decide +kernel
theorem dX2_divide_61 : decode cX2_divide 61 = .ok (.getfield 94, 3) := by decide +kernel
theorem dX2_divide_64 : decode cX2_divide 64 = .ok (.iconst 0, 1) := by decide +kernel
theorem dX2_divide_65 : decode cX2_divide 65 = .ok (.aload_n 3, 1) := by decide +kernel
theorem dX2_divide_66 : decode cX2_divide 66 = .ok (.iconst 0, 1) := by decide +kernel
theorem dX2_divide_67 : decode cX2_divide 67 = .ok (.bipush 9, 2) := by decide +kernel
theorem dX2_divide_69 : decode cX2_divide 69 = .ok (.invokestatic 84, 3) := by decide +kernel
theorem dX2_divide_72 : decode cX2_divide 72 = .ok (.aload_n 0, 1) := by decide +kernel
theorem dX2_divide_73 : decode cX2_divide 73 = .ok (.getfield 12, 3) := by decide +kernel
theorem dX2_divide_76 : decode cX2_divide 76 = .ok (.dup, 1) := by decide +kernel
theorem dX2_divide_77 : decode cX2_divide 77 = .ok (.getfield 97, 3) := by decide +kernel
theorem dX2_divide_80 : decode cX2_divide 80 = .ok (.iconst 1, 1) := by decide +kernel
theorem dX2_divide_81 : decode cX2_divide 81 = .ok (.iadd, 1) := by decide +kernel
theorem dX2_divide_82 : decode cX2_divide 82 = .ok (.putfield 97, 3) := by decide +kernel
theorem dX2_divide_85 : decode cX2_divide 85 = .ok (.aload_n 3, 1) := by decide +kernel
theorem dX2_divide_86 : decode cX2_divide 86 = .ok (.invokestatic 80, 3) := by decide +kernel
theorem dX2_divide_89 : decode cX2_divide 89 = .ok (.ireturn, 1) := by decide +kernel
theorem dX2_root_0 : decode cX2_root 0 = .ok (.iload_n 1, 1) := by decide +kernel
theorem dX2_root_1 : decode cX2_root 1 = .ok (.bipush (-9), 2) := by decide +kernel
theorem dX2_root_3 : decode cX2_root 3 = .ok (.if_icmp .lt 9, 3) := by decide +kernel
theorem dX2_root_6 : decode cX2_root 6 = .ok (.iload_n 1, 1) := by decide +kernel
theorem dX2_root_7 : decode cX2_root 7 = .ok (.bipush 9, 2) := by decide +kernel
theorem dX2_root_9 : decode cX2_root 9 = .ok (.if_icmp .le 13, 3) := by decide +kernel
theorem dX2_root_12 : decode cX2_root 12 = .ok (.new 100, 3) := by decide +kernel
theorem dX2_root_15 : decode cX2_root 15 = .ok (.dup, 1) := by decide +kernel
theorem dX2_root_16 : decode cX2_root 16 = .ok (.ldc 102, 2) := by decide +kernel
theorem dX2_root_18 : decode cX2_root 18 = .ok (.invokespecial 104, 3) := by decide +kernel
theorem dX2_root_21 : decode cX2_root 21 = .ok (.athrow, 1) := by decide +kernel
theorem dX2_root_22 : decode cX2_root 22 = .ok (.aload_n 0, 1) := by decide +kernel
theorem dX2_root_23 : decode cX2_root 23 = .ok (.invokevirtual 66, 3) := by decide +kernel
theorem dX2_root_26 : decode cX2_root 26 = .ok (.aload_n 0, 1) := by decide +kernel
theorem dX2_root_27 : decode cX2_root 27 = .ok (.getfield 12, 3) := by decide +kernel
theorem dX2_root_30 : decode cX2_root 30 = .ok (.getfield 107, 3) := by decide +kernel
theorem dX2_root_33 : decode cX2_root 33 = .ok (.bipush 8, 2) := by decide +kernel
theorem dX2_root_35 : decode cX2_root 35 = .ok (.if_icmp .lt 19, 3) := by decide +kernel
theorem dX2_root_38 : decode cX2_root 38 = .ok (.aload_n 0, 1) := by decide +kernel
theorem dX2_root_39 : decode cX2_root 39 = .ok (.getfield 12, 3) := by decide +kernel
theorem dX2_root_42 : decode cX2_root 42 = .ok (.dup, 1) := by decide +kernel
theorem dX2_root_43 : decode cX2_root 43 = .ok (.getfield 77, 3) := by decide +kernel
theorem dX2_root_46 : decode cX2_root 46 = .ok (.iconst 1, 1) := by decide +kernel
theorem dX2_root_47 : decode cX2_root 47 = .ok (.iadd, 1) := by decide +kernel
theorem dX2_root_48 : decode cX2_root 48 = .ok (.putfield 77, 3) := by decide +kernel
theorem dX2_root_51 : decode cX2_root 51 = .ok (.bipush (-9), 2) := by decide +kernel
theorem dX2_root_53 : decode cX2_root 53 = .ok (.ireturn, 1) := by decide +kernel
theorem dX2_root_54 : decode cX2_root 54 = .ok (.aload_n 0, 1) := by decide +kernel
theorem dX2_root_55 : decode cX2_root 55 = .ok (.getfield 12, 3) := by decide +kernel
theorem dX2_root_58 : decode cX2_root 58 = .ok (.getfield 110, 3) := by decide +kernel
theorem dX2_root_61 : decode cX2_root 61 = .ok (.aload_n 0, 1) := by decide +kernel
theorem dX2_root_62 : decode cX2_root 62 = .ok (.getfield 12, 3) := by decide +kernel
theorem dX2_root_65 : decode cX2_root 65 = .ok (.getfield 107, 3) := by decide +kernel
theorem dX2_root_68 : decode cX2_root 68 = .ok (.iload_n 1, 1) := by decide +kernel
theorem dX2_root_69 : decode cX2_root 69 = .ok (.iastore, 1) := by decide +kernel
theorem dX2_root_70 : decode cX2_root 70 = .ok (.aload_n 0, 1) := by decide +kernel
theorem dX2_root_71 : decode cX2_root 71 = .ok (.getfield 12, 3) := by decide +kernel
theorem dX2_root_74 : decode cX2_root 74 = .ok (.dup, 1) := by decide +kernel
theorem dX2_root_75 : decode cX2_root 75 = .ok (.getfield 107, 3) := by decide +kernel
theorem dX2_root_78 : decode cX2_root 78 = .ok (.iconst 1, 1) := by decide +kernel
theorem dX2_root_79 : decode cX2_root 79 = .ok (.iadd, 1) := by decide +kernel
theorem dX2_root_80 : decode cX2_root 80 = .ok (.putfield 107, 3) := by decide +kernel
theorem dX2_root_83 : decode cX2_root 83 = .ok (.aload_n 0, 1) := by decide +kernel
theorem dX2_root_84 : decode cX2_root 84 = .ok (.getfield 12, 3) := by decide +kernel
theorem dX2_root_87 : decode cX2_root 87 = .ok (.getfield 107, 3) := by decide +kernel
theorem dX2_root_90 : decode cX2_root 90 = .ok (.ireturn, 1) := by decide +kernel
theorem dX2_unroot_0 : decode cX2_unroot 0 = .ok (.aload_n 0, 1) := by decide +kernel
theorem dX2_unroot_1 : decode cX2_unroot 1 = .ok (.invokevirtual 66, 3) := by decide +kernel
theorem dX2_unroot_4 : decode cX2_unroot 4 = .ok (.aload_n 0, 1) := by decide +kernel
theorem dX2_unroot_5 : decode cX2_unroot 5 = .ok (.getfield 12, 3) := by decide +kernel
theorem dX2_unroot_8 : decode cX2_unroot 8 = .ok (.getfield 107, 3) := by decide +kernel
theorem dX2_unroot_11 : decode cX2_unroot 11 = .ok (.ifCond .gt 19, 3) := by decide +kernel
theorem dX2_unroot_14 : decode cX2_unroot 14 = .ok (.aload_n 0, 1) := by decide +kernel
theorem dX2_unroot_15 : decode cX2_unroot 15 = .ok (.getfield 12, 3) := by decide +kernel
theorem dX2_unroot_18 : decode cX2_unroot 18 = .ok (.dup, 1) := by decide +kernel
theorem dX2_unroot_19 : decode cX2_unroot 19 = .ok (.getfield 77, 3) := by decide +kernel
theorem dX2_unroot_22 : decode cX2_unroot 22 = .ok (.iconst 1, 1) := by decide +kernel
theorem dX2_unroot_23 : decode cX2_unroot 23 = .ok (.iadd, 1) := by decide +kernel
theorem dX2_unroot_24 : decode cX2_unroot 24 = .ok (.putfield 77, 3) := by decide +kernel
theorem dX2_unroot_27 : decode cX2_unroot 27 = .ok (.bipush 99, 2) := by decide +kernel
theorem dX2_unroot_29 : decode cX2_unroot 29 = .ok (.ireturn, 1) := by decide +kernel
theorem dX2_unroot_30 : decode cX2_unroot 30 = .ok (.aload_n 0, 1) := by decide +kernel
theorem dX2_unroot_31 : decode cX2_unroot 31 = .ok (.getfield 12, 3) := by decide +kernel
theorem dX2_unroot_34 : decode cX2_unroot 34 = .ok (.dup, 1) := by decide +kernel
theorem dX2_unroot_35 : decode cX2_unroot 35 = .ok (.getfield 107, 3) := by decide +kernel
theorem dX2_unroot_38 : decode cX2_unroot 38 = .ok (.iconst 1, 1) := by decide +kernel
theorem dX2_unroot_39 : decode cX2_unroot 39 = .ok (.isub, 1) := by decide +kernel
theorem dX2_unroot_40 : decode cX2_unroot 40 = .ok (.putfield 107, 3) := by decide +kernel
theorem dX2_unroot_43 : decode cX2_unroot 43 = .ok (.aload_n 0, 1) := by decide +kernel
theorem dX2_unroot_44 : decode cX2_unroot 44 = .ok (.getfield 12, 3) := by decide +kernel
theorem dX2_unroot_47 : decode cX2_unroot 47 = .ok (.getfield 110, 3) := by decide +kernel
theorem dX2_unroot_50 : decode cX2_unroot 50 = .ok (.aload_n 0, 1) := by decide +kernel
theorem dX2_unroot_51 : decode cX2_unroot 51 = .ok (.getfield 12, 3) := by decide +kernel
theorem dX2_unroot_54 : decode cX2_unroot 54 = .ok (.getfield 107, 3) := by decide +kernel
theorem dX2_unroot_57 : decode cX2_unroot 57 = .ok (.iaload, 1) := by decide +kernel
theorem dX2_unroot_58 : decode cX2_unroot 58 = .ok (.ireturn, 1) := by decide +kernel
theorem dX2_lower_0 : decode cX2_lower 0 = .ok (.iload_n 1, 1) := by decide +kernel
theorem dX2_lower_1 : decode cX2_lower 1 = .ok (.invokestatic 56, 3) := by decide +kernel
theorem dX2_lower_4 : decode cX2_lower 4 = .ok (.aload_n 0, 1) := by decide +kernel
theorem dX2_lower_5 : decode cX2_lower 5 = .ok (.invokevirtual 66, 3) := by decide +kernel
theorem dX2_lower_8 : decode cX2_lower 8 = .ok (.aload_n 0, 1) := by decide +kernel
theorem dX2_lower_9 : decode cX2_lower 9 = .ok (.invokevirtual 113, 3) := by decide +kernel
theorem dX2_lower_12 : decode cX2_lower 12 = .ok (.aload_n 0, 1) := by decide +kernel
theorem dX2_lower_13 : decode cX2_lower 13 = .ok (.getfield 12, 3) := by decide +kernel
theorem dX2_lower_16 : decode cX2_lower 16 = .ok (.getfield 69, 3) := by decide +kernel
theorem dX2_lower_19 : decode cX2_lower 19 = .ok (.iload_n 1, 1) := by decide +kernel
theorem dX2_lower_20 : decode cX2_lower 20 = .ok (.aaload, 1) := by decide +kernel
theorem dX2_lower_21 : decode cX2_lower 21 = .ok (.astore_n 2, 1) := by decide +kernel
theorem dX2_lower_22 : decode cX2_lower 22 = .ok (.iconst 0, 1) := by decide +kernel
theorem dX2_lower_23 : decode cX2_lower 23 = .ok (.istore_n 3, 1) := by decide +kernel
theorem dX2_lower_24 : decode cX2_lower 24 = .ok (.iload_n 3, 1) := by decide +kernel
theorem dX2_lower_25 : decode cX2_lower 25 = .ok (.bipush 9, 2) := by decide +kernel
theorem dX2_lower_27 : decode cX2_lower 27 = .ok (.if_icmp .ge 21, 3) := by decide +kernel
theorem dX2_lower_30 : decode cX2_lower 30 = .ok (.aload_n 2, 1) := by decide +kernel
theorem dX2_lower_31 : decode cX2_lower 31 = .ok (.iload_n 3, 1) := by decide +kernel
theorem dX2_lower_32 : decode cX2_lower 32 = .ok (.aload_n 0, 1) := by decide +kernel
theorem dX2_lower_33 : decode cX2_lower 33 = .ok (.getfield 38, 3) := by decide +kernel
theorem dX2_lower_36 : decode cX2_lower 36 = .ok (.iload_n 3, 1) := by decide +kernel
theorem dX2_lower_37 : decode cX2_lower 37 = .ok (.laload, 1) := by decide +kernel
theorem dX2_lower_38 : decode cX2_lower 38 = .ok (.invokestatic 116, 3) := by decide +kernel
theorem dX2_lower_41 : decode cX2_lower 41 = .ok (.iastore, 1) := by decide +kernel
theorem dX2_lower_42 : decode cX2_lower 42 = .ok (.iinc 3 1, 3) := by decide +kernel
theorem dX2_lower_45 : decode cX2_lower 45 = .ok (.goto (-21), 3) := by decide +kernel
theorem dX2_lower_48 : decode cX2_lower 48 = .ok (.aload_n 2, 1) := by decide +kernel
theorem dX2_lower_49 : decode cX2_lower 49 = .ok (.invokestatic 80, 3) := by decide +kernel
theorem dX2_lower_52 : decode cX2_lower 52 = .ok (.ireturn, 1) := by decide +kernel
theorem dX2_keep_0 : decode cX2_keep 0 = .ok (.iload_n 1, 1) := by decide +kernel
theorem dX2_keep_1 : decode cX2_keep 1 = .ok (.invokestatic 137, 3) := by decide +kernel
theorem dX2_keep_4 : decode cX2_keep 4 = .ok (.aload_n 0, 1) := by decide +kernel
theorem dX2_keep_5 : decode cX2_keep 5 = .ok (.getfield 24, 3) := by decide +kernel
theorem dX2_keep_8 : decode cX2_keep 8 = .ok (.iload_n 1, 1) := by decide +kernel
theorem dX2_keep_9 : decode cX2_keep 9 = .ok (.aaload, 1) := by decide +kernel
theorem dX2_keep_10 : decode cX2_keep 10 = .ok (.aload_n 0, 1) := by decide +kernel
theorem dX2_keep_11 : decode cX2_keep 11 = .ok (.getfield 12, 3) := by decide +kernel
theorem dX2_keep_14 : decode cX2_keep 14 = .ok (.invokevirtual 140, 3) := by decide +kernel
theorem dX2_keep_17 : decode cX2_keep 17 = .ok (.aload_n 0, 1) := by decide +kernel
theorem dX2_keep_18 : decode cX2_keep 18 = .ok (.getfield 27, 3) := by decide +kernel
theorem dX2_keep_21 : decode cX2_keep 21 = .ok (.iload_n 1, 1) := by decide +kernel
theorem dX2_keep_22 : decode cX2_keep 22 = .ok (.iconst 1, 1) := by decide +kernel
theorem dX2_keep_23 : decode cX2_keep 23 = .ok (.bastore, 1) := by decide +kernel
theorem dX2_keep_24 : decode cX2_keep 24 = .ok (.aload_n 0, 1) := by decide +kernel
theorem dX2_keep_25 : decode cX2_keep 25 = .ok (.invokevirtual 144, 3) := by decide +kernel
theorem dX2_keep_28 : decode cX2_keep 28 = .ok (.ireturn, 1) := by decide +kernel
theorem dX2_goBack_0 : decode cX2_goBack 0 = .ok (.iload_n 1, 1) := by decide +kernel
theorem dX2_goBack_1 : decode cX2_goBack 1 = .ok (.invokestatic 137, 3) := by decide +kernel
theorem dX2_goBack_4 : decode cX2_goBack 4 = .ok (.aload_n 0, 1) := by decide +kernel
theorem dX2_goBack_5 : decode cX2_goBack 5 = .ok (.getfield 27, 3) := by decide +kernel
theorem dX2_goBack_8 : decode cX2_goBack 8 = .ok (.iload_n 1, 1) := by decide +kernel
theorem dX2_goBack_9 : decode cX2_goBack 9 = .ok (.baload, 1) := by decide +kernel
theorem dX2_goBack_10 : decode cX2_goBack 10 = .ok (.ifCond .ne 13, 3) := by decide +kernel
theorem dX2_goBack_13 : decode cX2_goBack 13 = .ok (.new 122, 3) := by decide +kernel
theorem dX2_goBack_16 : decode cX2_goBack 16 = .ok (.dup, 1) := by decide +kernel
theorem dX2_goBack_17 : decode cX2_goBack 17 = .ok (.ldc 147, 2) := by decide +kernel
theorem dX2_goBack_19 : decode cX2_goBack 19 = .ok (.invokespecial 126, 3) := by decide +kernel
theorem dX2_goBack_22 : decode cX2_goBack 22 = .ok (.athrow, 1) := by decide +kernel
theorem dX2_goBack_23 : decode cX2_goBack 23 = .ok (.aload_n 0, 1) := by decide +kernel
theorem dX2_goBack_24 : decode cX2_goBack 24 = .ok (.invokevirtual 66, 3) := by decide +kernel
theorem dX2_goBack_27 : decode cX2_goBack 27 = .ok (.aload_n 0, 1) := by decide +kernel
theorem dX2_goBack_28 : decode cX2_goBack 28 = .ok (.getfield 12, 3) := by decide +kernel
theorem dX2_goBack_31 : decode cX2_goBack 31 = .ok (.aload_n 0, 1) := by decide +kernel
theorem dX2_goBack_32 : decode cX2_goBack 32 = .ok (.getfield 24, 3) := by decide +kernel
theorem dX2_goBack_35 : decode cX2_goBack 35 = .ok (.iload_n 1, 1) := by decide +kernel
theorem dX2_goBack_36 : decode cX2_goBack 36 = .ok (.aaload, 1) := by decide +kernel
theorem dX2_goBack_37 : decode cX2_goBack 37 = .ok (.invokevirtual 140, 3) := by decide +kernel
theorem dX2_goBack_40 : decode cX2_goBack 40 = .ok (.aload_n 0, 1) := by decide +kernel
theorem dX2_goBack_41 : decode cX2_goBack 41 = .ok (.invokevirtual 144, 3) := by decide +kernel
theorem dX2_goBack_44 : decode cX2_goBack 44 = .ok (.ireturn, 1) := by decide +kernel
theorem dX2_undo_0 : decode cX2_undo 0 = .ok (.aload_n 0, 1) := by decide +kernel
theorem dX2_undo_1 : decode cX2_undo 1 = .ok (.getfield 20, 3) := by decide +kernel
theorem dX2_undo_4 : decode cX2_undo 4 = .ok (.ifCond .gt 13, 3) := by decide +kernel
theorem dX2_undo_7 : decode cX2_undo 7 = .ok (.new 122, 3) := by decide +kernel
theorem dX2_undo_10 : decode cX2_undo 10 = .ok (.dup, 1) := by decide +kernel
theorem dX2_undo_11 : decode cX2_undo 11 = .ok (.ldc 149, 2) := by decide +kernel
theorem dX2_undo_13 : decode cX2_undo 13 = .ok (.invokespecial 126, 3) := by decide +kernel
theorem dX2_undo_16 : decode cX2_undo 16 = .ok (.athrow, 1) := by decide +kernel
theorem dX2_undo_17 : decode cX2_undo 17 = .ok (.aload_n 0, 1) := by decide +kernel
theorem dX2_undo_18 : decode cX2_undo 18 = .ok (.dup, 1) := by decide +kernel
theorem dX2_undo_19 : decode cX2_undo 19 = .ok (.getfield 20, 3) := by decide +kernel
theorem dX2_undo_22 : decode cX2_undo 22 = .ok (.iconst 1, 1) := by decide +kernel
theorem dX2_undo_23 : decode cX2_undo 23 = .ok (.isub, 1) := by decide +kernel
theorem dX2_undo_24 : decode cX2_undo 24 = .ok (.putfield 20, 3) := by decide +kernel
theorem dX2_undo_27 : decode cX2_undo 27 = .ok (.aload_n 0, 1) := by decide +kernel
theorem dX2_undo_28 : decode cX2_undo 28 = .ok (.getfield 12, 3) := by decide +kernel
theorem dX2_undo_31 : decode cX2_undo 31 = .ok (.aload_n 0, 1) := by decide +kernel
theorem dX2_undo_32 : decode cX2_undo 32 = .ok (.getfield 16, 3) := by decide +kernel
theorem dX2_undo_35 : decode cX2_undo 35 = .ok (.aload_n 0, 1) := by decide +kernel
theorem dX2_undo_36 : decode cX2_undo 36 = .ok (.getfield 20, 3) := by decide +kernel
theorem dX2_undo_39 : decode cX2_undo 39 = .ok (.aaload, 1) := by decide +kernel
theorem dX2_undo_40 : decode cX2_undo 40 = .ok (.invokevirtual 140, 3) := by decide +kernel
theorem dX2_undo_43 : decode cX2_undo 43 = .ok (.aload_n 0, 1) := by decide +kernel
theorem dX2_undo_44 : decode cX2_undo 44 = .ok (.getfield 20, 3) := by decide +kernel
theorem dX2_undo_47 : decode cX2_undo 47 = .ok (.ireturn, 1) := by decide +kernel
theorem dX2_sign_0 : decode cX2_sign 0 = .ok (.iload_n 1, 1) := by decide +kernel
theorem dX2_sign_1 : decode cX2_sign 1 = .ok (.invokestatic 56, 3) := by decide +kernel
theorem dX2_sign_4 : decode cX2_sign 4 = .ok (.iload_n 2, 1) := by decide +kernel
theorem dX2_sign_5 : decode cX2_sign 5 = .ok (.invokestatic 60, 3) := by decide +kernel
theorem dX2_sign_8 : decode cX2_sign 8 = .ok (.aload_n 0, 1) := by decide +kernel
theorem dX2_sign_9 : decode cX2_sign 9 = .ok (.getfield 12, 3) := by decide +kernel
theorem dX2_sign_12 : decode cX2_sign 12 = .ok (.getfield 69, 3) := by decide +kernel
theorem dX2_sign_15 : decode cX2_sign 15 = .ok (.iload_n 1, 1) := by decide +kernel
theorem dX2_sign_16 : decode cX2_sign 16 = .ok (.aaload, 1) := by decide +kernel
theorem dX2_sign_17 : decode cX2_sign 17 = .ok (.iload_n 2, 1) := by decide +kernel
theorem dX2_sign_18 : decode cX2_sign 18 = .ok (.iaload, 1) := by decide +kernel
theorem dX2_sign_19 : decode cX2_sign 19 = .ok (.ireturn, 1) := by decide +kernel
theorem dX2_of_0 : decode cX2_of 0 = .ok (.iload_n 1, 1) := by decide +kernel
theorem dX2_of_1 : decode cX2_of 1 = .ok (.invokestatic 56, 3) := by decide +kernel
theorem dX2_of_4 : decode cX2_of 4 = .ok (.iload_n 2, 1) := by decide +kernel
theorem dX2_of_5 : decode cX2_of 5 = .ok (.iconst 4, 1) := by decide +kernel
theorem dX2_of_6 : decode cX2_of 6 = .ok (.invokestatic 151, 3) := by decide +kernel
theorem dX2_of_9 : decode cX2_of 9 = .ok (.aload_n 0, 1) := by decide +kernel
theorem dX2_of_10 : decode cX2_of 10 = .ok (.getfield 12, 3) := by decide +kernel
theorem dX2_of_13 : decode cX2_of 13 = .ok (.getfield 69, 3) := by decide +kernel
theorem dX2_of_16 : decode cX2_of 16 = .ok (.iload_n 1, 1) := by decide +kernel
theorem dX2_of_17 : decode cX2_of 17 = .ok (.aaload, 1) := by decide +kernel
theorem dX2_of_18 : decode cX2_of 18 = .ok (.astore_n 3, 1) := by decide +kernel
theorem dX2_of_19 : decode cX2_of 19 = .ok (.iload_n 2, 1) := by decide +kernel
theorem dX2_of_20 : decode cX2_of 20 = .ok (.tableswitch 44 0 2 #[28, 33, 38], 28) := by decide +kernel
theorem dX2_of_48 : decode cX2_of 48 = .ok (.aload_n 3, 1) := by decide +kernel
theorem dX2_of_49 : decode cX2_of 49 = .ok (.invokestatic 80, 3) := by decide +kernel
theorem dX2_of_52 : decode cX2_of 52 = .ok (.ireturn, 1) := by decide +kernel
theorem dX2_of_53 : decode cX2_of 53 = .ok (.aload_n 3, 1) := by decide +kernel
theorem dX2_of_54 : decode cX2_of 54 = .ok (.invokestatic 155, 3) := by decide +kernel
theorem dX2_of_57 : decode cX2_of 57 = .ok (.ireturn, 1) := by decide +kernel
theorem dX2_of_58 : decode cX2_of 58 = .ok (.aload_n 3, 1) := by decide +kernel
theorem dX2_of_59 : decode cX2_of 59 = .ok (.iconst 1, 1) := by decide +kernel
theorem dX2_of_60 : decode cX2_of 60 = .ok (.invokestatic 158, 3) := by decide +kernel
theorem dX2_of_63 : decode cX2_of 63 = .ok (.ireturn, 1) := by decide +kernel
theorem dX2_of_64 : decode cX2_of 64 = .ok (.aload_n 3, 1) := by decide +kernel
theorem dX2_of_65 : decode cX2_of 65 = .ok (.invokestatic 162, 3) := by decide +kernel
theorem dX2_of_68 : decode cX2_of 68 = .ok (.ireturn, 1) := by decide +kernel
theorem dX2_isRoot_0 : decode cX2_isRoot 0 = .ok (.iload_n 1, 1) := by decide +kernel
theorem dX2_isRoot_1 : decode cX2_isRoot 1 = .ok (.invokestatic 56, 3) := by decide +kernel
theorem dX2_isRoot_4 : decode cX2_isRoot 4 = .ok (.iload_n 2, 1) := by decide +kernel
theorem dX2_isRoot_5 : decode cX2_isRoot 5 = .ok (.invokestatic 63, 3) := by decide +kernel
theorem dX2_isRoot_8 : decode cX2_isRoot 8 = .ok (.aload_n 0, 1) := by decide +kernel
theorem dX2_isRoot_9 : decode cX2_isRoot 9 = .ok (.getfield 12, 3) := by decide +kernel
theorem dX2_isRoot_12 : decode cX2_isRoot 12 = .ok (.getfield 69, 3) := by decide +kernel
theorem dX2_isRoot_15 : decode cX2_isRoot 15 = .ok (.iload_n 1, 1) := by decide +kernel
theorem dX2_isRoot_16 : decode cX2_isRoot 16 = .ok (.aaload, 1) := by decide +kernel
theorem dX2_isRoot_17 : decode cX2_isRoot 17 = .ok (.iload_n 2, 1) := by decide +kernel
theorem dX2_isRoot_18 : decode cX2_isRoot 18 = .ok (.invokestatic 165, 3) := by decide +kernel
theorem dX2_isRoot_21 : decode cX2_isRoot 21 = .ok (.ifCond .eq 7, 3) := by decide +kernel
theorem dX2_isRoot_24 : decode cX2_isRoot 24 = .ok (.iconst 1, 1) := by decide +kernel
theorem dX2_isRoot_25 : decode cX2_isRoot 25 = .ok (.goto 4, 3) := by decide +kernel
theorem dX2_isRoot_28 : decode cX2_isRoot 28 = .ok (.iconst 0, 1) := by decide +kernel
theorem dX2_isRoot_29 : decode cX2_isRoot 29 = .ok (.ireturn, 1) := by decide +kernel
theorem dX2_times_0 : decode cX2_times 0 = .ok (.iload_n 1, 1) := by decide +kernel
theorem dX2_times_1 : decode cX2_times 1 = .ok (.invokestatic 56, 3) := by decide +kernel
theorem dX2_times_4 : decode cX2_times 4 = .ok (.iload_n 2, 1) := by decide +kernel
theorem dX2_times_5 : decode cX2_times 5 = .ok (.invokestatic 63, 3) := by decide +kernel
theorem dX2_times_8 : decode cX2_times 8 = .ok (.iload_n 3, 1) := by decide +kernel
theorem dX2_times_9 : decode cX2_times 9 = .ok (.iconst 2, 1) := by decide +kernel
theorem dX2_times_10 : decode cX2_times 10 = .ok (.invokestatic 151, 3) := by decide +kernel
theorem dX2_times_13 : decode cX2_times 13 = .ok (.aload_n 0, 1) := by decide +kernel
theorem dX2_times_14 : decode cX2_times 14 = .ok (.getfield 12, 3) := by decide +kernel
theorem dX2_times_17 : decode cX2_times 17 = .ok (.getfield 69, 3) := by decide +kernel
theorem dX2_times_20 : decode cX2_times 20 = .ok (.iload_n 1, 1) := by decide +kernel
theorem dX2_times_21 : decode cX2_times 21 = .ok (.aaload, 1) := by decide +kernel
theorem dX2_times_22 : decode cX2_times 22 = .ok (.astore 4, 2) := by decide +kernel
theorem dX2_times_24 : decode cX2_times 24 = .ok (.iload_n 3, 1) := by decide +kernel
theorem dX2_times_25 : decode cX2_times 25 = .ok (.ifCond .ne 21, 3) := by decide +kernel
theorem dX2_times_28 : decode cX2_times 28 = .ok (.aload 4, 2) := by decide +kernel
theorem dX2_times_30 : decode cX2_times 30 = .ok (.iload_n 2, 1) := by decide +kernel
theorem dX2_times_31 : decode cX2_times 31 = .ok (.aload_n 0, 1) := by decide +kernel
theorem dX2_times_32 : decode cX2_times 32 = .ok (.getfield 44, 3) := by decide +kernel
theorem dX2_times_35 : decode cX2_times 35 = .ok (.aload_n 0, 1) := by decide +kernel
theorem dX2_times_36 : decode cX2_times 36 = .ok (.getfield 51, 3) := by decide +kernel
theorem dX2_times_39 : decode cX2_times 39 = .ok (.iconst 0, 1) := by decide +kernel
theorem dX2_times_40 : decode cX2_times 40 = .ok (.invokestatic 90, 3) := by decide +kernel
theorem dX2_times_43 : decode cX2_times 43 = .ok (.goto 9, 3) := by decide +kernel
theorem dX2_times_46 : decode cX2_times 46 = .ok (.aload 4, 2) := by decide +kernel
theorem dX2_times_48 : decode cX2_times 48 = .ok (.iload_n 2, 1) := by decide +kernel
theorem dX2_times_49 : decode cX2_times 49 = .ok (.invokestatic 168, 3) := by decide +kernel
theorem dX2_times_52 : decode cX2_times 52 = .ok (.ireturn, 1) := by decide +kernel
theorem dX2_quotients_0 : decode cX2_quotients 0 = .ok (.iload_n 1, 1) := by decide +kernel
theorem dX2_quotients_1 : decode cX2_quotients 1 = .ok (.invokestatic 56, 3) := by decide +kernel
theorem dX2_quotients_4 : decode cX2_quotients 4 = .ok (.iload_n 2, 1) := by decide +kernel
theorem dX2_quotients_5 : decode cX2_quotients 5 = .ok (.invokestatic 63, 3) := by decide +kernel
theorem dX2_quotients_8 : decode cX2_quotients 8 = .ok (.aload_n 0, 1) := by decide +kernel
theorem dX2_quotients_9 : decode cX2_quotients 9 = .ok (.aload_n 0, 1) := by decide +kernel
theorem dX2_quotients_10 : decode cX2_quotients 10 = .ok (.getfield 12, 3) := by decide +kernel
theorem dX2_quotients_13 : decode cX2_quotients 13 = .ok (.getfield 69, 3) := by decide +kernel
theorem dX2_quotients_16 : decode cX2_quotients 16 = .ok (.iload_n 1, 1) := by decide +kernel
theorem dX2_quotients_17 : decode cX2_quotients 17 = .ok (.aaload, 1) := by decide +kernel
theorem dX2_quotients_18 : decode cX2_quotients 18 = .ok (.iload_n 2, 1) := by decide +kernel
theorem dX2_quotients_19 : decode cX2_quotients 19 = .ok (.invokevirtual 171, 3) := by decide +kernel
theorem dX2_quotients_22 : decode cX2_quotients 22 = .ok (.ireturn, 1) := by decide +kernel
theorem dX2_best_0 : decode cX2_best 0 = .ok (.iload_n 1, 1) := by decide +kernel
theorem dX2_best_1 : decode cX2_best 1 = .ok (.invokestatic 56, 3) := by decide +kernel
theorem dX2_best_4 : decode cX2_best 4 = .ok (.iload_n 2, 1) := by decide +kernel
theorem dX2_best_5 : decode cX2_best 5 = .ok (.invokestatic 63, 3) := by decide +kernel
theorem dX2_best_8 : decode cX2_best 8 = .ok (.aload_n 0, 1) := by decide +kernel
theorem dX2_best_9 : decode cX2_best 9 = .ok (.aload_n 0, 1) := by decide +kernel
theorem dX2_best_10 : decode cX2_best 10 = .ok (.getfield 12, 3) := by decide +kernel
theorem dX2_best_13 : decode cX2_best 13 = .ok (.getfield 69, 3) := by decide +kernel
theorem dX2_best_16 : decode cX2_best 16 = .ok (.iload_n 1, 1) := by decide +kernel
theorem dX2_best_17 : decode cX2_best 17 = .ok (.aaload, 1) := by decide +kernel
theorem dX2_best_18 : decode cX2_best 18 = .ok (.iload_n 2, 1) := by decide +kernel
theorem dX2_best_19 : decode cX2_best 19 = .ok (.aload_n 0, 1) := by decide +kernel
theorem dX2_best_20 : decode cX2_best 20 = .ok (.getfield 44, 3) := by decide +kernel
theorem dX2_best_23 : decode cX2_best 23 = .ok (.aload_n 0, 1) := by decide +kernel
theorem dX2_best_24 : decode cX2_best 24 = .ok (.getfield 51, 3) := by decide +kernel
theorem dX2_best_27 : decode cX2_best 27 = .ok (.iconst 0, 1) := by decide +kernel
theorem dX2_best_28 : decode cX2_best 28 = .ok (.invokestatic 90, 3) := by decide +kernel
theorem dX2_best_31 : decode cX2_best 31 = .ok (.invokevirtual 174, 3) := by decide +kernel
theorem dX2_best_34 : decode cX2_best 34 = .ok (.ireturn, 1) := by decide +kernel
theorem dX2_many_0 : decode cX2_many 0 = .ok (.iload_n 1, 1) := by decide +kernel
theorem dX2_many_1 : decode cX2_many 1 = .ok (.invokestatic 56, 3) := by decide +kernel
theorem dX2_many_4 : decode cX2_many 4 = .ok (.iload_n 2, 1) := by decide +kernel
theorem dX2_many_5 : decode cX2_many 5 = .ok (.invokestatic 56, 3) := by decide +kernel
theorem dX2_many_8 : decode cX2_many 8 = .ok (.iload_n 3, 1) := by decide +kernel
theorem dX2_many_9 : decode cX2_many 9 = .ok (.iconst 2, 1) := by decide +kernel
theorem dX2_many_10 : decode cX2_many 10 = .ok (.invokestatic 151, 3) := by decide +kernel
theorem dX2_many_13 : decode cX2_many 13 = .ok (.aload_n 0, 1) := by decide +kernel
theorem dX2_many_14 : decode cX2_many 14 = .ok (.getfield 12, 3) := by decide +kernel
theorem dX2_many_17 : decode cX2_many 17 = .ok (.getfield 69, 3) := by decide +kernel
theorem dX2_many_20 : decode cX2_many 20 = .ok (.iload_n 1, 1) := by decide +kernel
theorem dX2_many_21 : decode cX2_many 21 = .ok (.aaload, 1) := by decide +kernel
theorem dX2_many_22 : decode cX2_many 22 = .ok (.aload_n 0, 1) := by decide +kernel
theorem dX2_many_23 : decode cX2_many 23 = .ok (.getfield 12, 3) := by decide +kernel
theorem dX2_many_26 : decode cX2_many 26 = .ok (.getfield 69, 3) := by decide +kernel
theorem dX2_many_29 : decode cX2_many 29 = .ok (.iload_n 2, 1) := by decide +kernel
theorem dX2_many_30 : decode cX2_many 30 = .ok (.aaload, 1) := by decide +kernel
theorem dX2_many_31 : decode cX2_many 31 = .ok (.iload_n 3, 1) := by decide +kernel
theorem dX2_many_32 : decode cX2_many 32 = .ok (.invokestatic 177, 3) := by decide +kernel
theorem dX2_many_35 : decode cX2_many 35 = .ok (.ireturn, 1) := by decide +kernel
theorem dX2_isIn_0 : decode cX2_isIn 0 = .ok (.iload_n 1, 1) := by decide +kernel
theorem dX2_isIn_1 : decode cX2_isIn 1 = .ok (.invokestatic 56, 3) := by decide +kernel
theorem dX2_isIn_4 : decode cX2_isIn 4 = .ok (.iload_n 2, 1) := by decide +kernel
theorem dX2_isIn_5 : decode cX2_isIn 5 = .ok (.invokestatic 56, 3) := by decide +kernel
theorem dX2_isIn_8 : decode cX2_isIn 8 = .ok (.iload_n 3, 1) := by decide +kernel
theorem dX2_isIn_9 : decode cX2_isIn 9 = .ok (.invokestatic 56, 3) := by decide +kernel
theorem dX2_isIn_12 : decode cX2_isIn 12 = .ok (.iload 4, 2) := by decide +kernel
theorem dX2_isIn_14 : decode cX2_isIn 14 = .ok (.iconst 2, 1) := by decide +kernel
theorem dX2_isIn_15 : decode cX2_isIn 15 = .ok (.invokestatic 151, 3) := by decide +kernel
theorem dX2_isIn_18 : decode cX2_isIn 18 = .ok (.aload_n 0, 1) := by decide +kernel
theorem dX2_isIn_19 : decode cX2_isIn 19 = .ok (.getfield 12, 3) := by decide +kernel
theorem dX2_isIn_22 : decode cX2_isIn 22 = .ok (.getfield 69, 3) := by decide +kernel
theorem dX2_isIn_25 : decode cX2_isIn 25 = .ok (.iload_n 1, 1) := by decide +kernel
theorem dX2_isIn_26 : decode cX2_isIn 26 = .ok (.aaload, 1) := by decide +kernel
theorem dX2_isIn_27 : decode cX2_isIn 27 = .ok (.aload_n 0, 1) := by decide +kernel
theorem dX2_isIn_28 : decode cX2_isIn 28 = .ok (.getfield 12, 3) := by decide +kernel
theorem dX2_isIn_31 : decode cX2_isIn 31 = .ok (.getfield 69, 3) := by decide +kernel
theorem dX2_isIn_34 : decode cX2_isIn 34 = .ok (.iload_n 2, 1) := by decide +kernel
theorem dX2_isIn_35 : decode cX2_isIn 35 = .ok (.aaload, 1) := by decide +kernel
theorem dX2_isIn_36 : decode cX2_isIn 36 = .ok (.aload_n 0, 1) := by decide +kernel
theorem dX2_isIn_37 : decode cX2_isIn 37 = .ok (.getfield 12, 3) := by decide +kernel
theorem dX2_isIn_40 : decode cX2_isIn 40 = .ok (.getfield 69, 3) := by decide +kernel
theorem dX2_isIn_43 : decode cX2_isIn 43 = .ok (.iload_n 3, 1) := by decide +kernel
theorem dX2_isIn_44 : decode cX2_isIn 44 = .ok (.aaload, 1) := by decide +kernel
theorem dX2_isIn_45 : decode cX2_isIn 45 = .ok (.iload 4, 2) := by decide +kernel
theorem dX2_isIn_47 : decode cX2_isIn 47 = .ok (.invokestatic 181, 3) := by decide +kernel
theorem dX2_isIn_50 : decode cX2_isIn 50 = .ok (.ifCond .eq 7, 3) := by decide +kernel
theorem dX2_isIn_53 : decode cX2_isIn 53 = .ok (.iconst 1, 1) := by decide +kernel
theorem dX2_isIn_54 : decode cX2_isIn 54 = .ok (.goto 4, 3) := by decide +kernel
theorem dX2_isIn_57 : decode cX2_isIn 57 = .ok (.iconst 0, 1) := by decide +kernel
theorem dX2_isIn_58 : decode cX2_isIn 58 = .ok (.ireturn, 1) := by decide +kernel
theorem dX2_coefficient_0 : decode cX2_coefficient 0 = .ok (.iload_n 1, 1) := by decide +kernel
theorem dX2_coefficient_1 : decode cX2_coefficient 1 = .ok (.invokestatic 60, 3) := by decide +kernel
theorem dX2_coefficient_4 : decode cX2_coefficient 4 = .ok (.aload_n 0, 1) := by decide +kernel
theorem dX2_coefficient_5 : decode cX2_coefficient 5 = .ok (.invokevirtual 113, 3) := by decide +kernel
theorem dX2_coefficient_8 : decode cX2_coefficient 8 = .ok (.aload_n 0, 1) := by decide +kernel
theorem dX2_coefficient_9 : decode cX2_coefficient 9 = .ok (.getfield 38, 3) := by decide +kernel
theorem dX2_coefficient_12 : decode cX2_coefficient 12 = .ok (.iload_n 1, 1) := by decide +kernel
theorem dX2_coefficient_13 : decode cX2_coefficient 13 = .ok (.laload, 1) := by decide +kernel
theorem dX2_coefficient_14 : decode cX2_coefficient 14 = .ok (.lreturn, 1) := by decide +kernel
theorem dX2_count_0 : decode cX2_count 0 = .ok (.iload_n 1, 1) := by decide +kernel
theorem dX2_count_1 : decode cX2_count 1 = .ok (.bipush 8, 2) := by decide +kernel
theorem dX2_count_3 : decode cX2_count 3 = .ok (.invokestatic 151, 3) := by decide +kernel
theorem dX2_count_6 : decode cX2_count 6 = .ok (.iload_n 1, 1) := by decide +kernel
theorem dX2_count_7 : decode cX2_count 7 = .ok (.tableswitch 88 0 6 #[41, 49, 55, 61, 67, 75, 83], 41) := by decide +kernel
theorem dX2_count_48 : decode cX2_count 48 = .ok (.aload_n 0, 1) := by decide +kernel
theorem dX2_count_49 : decode cX2_count 49 = .ok (.getfield 12, 3) := by decide +kernel
theorem dX2_count_52 : decode cX2_count 52 = .ok (.getfield 107, 3) := by decide +kernel
theorem dX2_count_55 : decode cX2_count 55 = .ok (.ireturn, 1) := by decide +kernel
theorem dX2_count_56 : decode cX2_count 56 = .ok (.aload_n 0, 1) := by decide +kernel
theorem dX2_count_57 : decode cX2_count 57 = .ok (.iconst 1, 1) := by decide +kernel
theorem dX2_count_58 : decode cX2_count 58 = .ok (.invokevirtual 185, 3) := by decide +kernel
theorem dX2_count_61 : decode cX2_count 61 = .ok (.ireturn, 1) := by decide +kernel
theorem dX2_count_62 : decode cX2_count 62 = .ok (.aload_n 0, 1) := by decide +kernel
theorem dX2_count_63 : decode cX2_count 63 = .ok (.iconst (-1), 1) := by decide +kernel
theorem dX2_count_64 : decode cX2_count 64 = .ok (.invokevirtual 185, 3) := by decide +kernel
theorem dX2_count_67 : decode cX2_count 67 = .ok (.ireturn, 1) := by decide +kernel
theorem dX2_count_68 : decode cX2_count 68 = .ok (.aload_n 0, 1) := by decide +kernel
theorem dX2_count_69 : decode cX2_count 69 = .ok (.iconst 0, 1) := by decide +kernel
theorem dX2_count_70 : decode cX2_count 70 = .ok (.invokevirtual 185, 3) := by decide +kernel
theorem dX2_count_73 : decode cX2_count 73 = .ok (.ireturn, 1) := by decide +kernel
theorem dX2_count_74 : decode cX2_count 74 = .ok (.aload_n 0, 1) := by decide +kernel
theorem dX2_count_75 : decode cX2_count 75 = .ok (.getfield 12, 3) := by decide +kernel
theorem dX2_count_78 : decode cX2_count 78 = .ok (.getfield 97, 3) := by decide +kernel
theorem dX2_count_81 : decode cX2_count 81 = .ok (.ireturn, 1) := by decide +kernel
theorem dX2_count_82 : decode cX2_count 82 = .ok (.aload_n 0, 1) := by decide +kernel
theorem dX2_count_83 : decode cX2_count 83 = .ok (.getfield 12, 3) := by decide +kernel
theorem dX2_count_86 : decode cX2_count 86 = .ok (.getfield 77, 3) := by decide +kernel
theorem dX2_count_89 : decode cX2_count 89 = .ok (.ireturn, 1) := by decide +kernel
theorem dX2_count_90 : decode cX2_count 90 = .ok (.aload_n 0, 1) := by decide +kernel
theorem dX2_count_91 : decode cX2_count 91 = .ok (.invokevirtual 188, 3) := by decide +kernel
theorem dX2_count_94 : decode cX2_count 94 = .ok (.ireturn, 1) := by decide +kernel
theorem dX2_count_95 : decode cX2_count 95 = .ok (.aload_n 0, 1) := by decide +kernel
theorem dX2_count_96 : decode cX2_count 96 = .ok (.getfield 20, 3) := by decide +kernel
theorem dX2_count_99 : decode cX2_count 99 = .ok (.ireturn, 1) := by decide +kernel
theorem dX2_takenShare_0 : decode cX2_takenShare 0 = .ok (.iload_n 1, 1) := by decide +kernel
theorem dX2_takenShare_1 : decode cX2_takenShare 1 = .ok (.invokestatic 56, 3) := by decide +kernel
theorem dX2_takenShare_4 : decode cX2_takenShare 4 = .ok (.aload_n 0, 1) := by decide +kernel
theorem dX2_takenShare_5 : decode cX2_takenShare 5 = .ok (.getfield 12, 3) := by decide +kernel
theorem dX2_takenShare_8 : decode cX2_takenShare 8 = .ok (.getfield 69, 3) := by decide +kernel
theorem dX2_takenShare_11 : decode cX2_takenShare 11 = .ok (.iload_n 1, 1) := by decide +kernel
theorem dX2_takenShare_12 : decode cX2_takenShare 12 = .ok (.aaload, 1) := by decide +kernel
theorem dX2_takenShare_13 : decode cX2_takenShare 13 = .ok (.invokestatic 191, 3) := by decide +kernel
theorem dX2_takenShare_16 : decode cX2_takenShare 16 = .ok (.dreturn, 1) := by decide +kernel
theorem dX2_checkNumber_0 : decode cX2_checkNumber 0 = .ok (.iload_n 0, 1) := by decide +kernel
theorem dX2_checkNumber_1 : decode cX2_checkNumber 1 = .ok (.ifCond .lt 8, 3) := by decide +kernel
theorem dX2_checkNumber_4 : decode cX2_checkNumber 4 = .ok (.iload_n 0, 1) := by decide +kernel
theorem dX2_checkNumber_5 : decode cX2_checkNumber 5 = .ok (.iconst 5, 1) := by decide +kernel
theorem dX2_checkNumber_6 : decode cX2_checkNumber 6 = .ok (.if_icmp .lt 13, 3) := by decide +kernel
theorem dX2_checkNumber_9 : decode cX2_checkNumber 9 = .ok (.new 218, 3) := by decide +kernel
theorem dX2_checkNumber_12 : decode cX2_checkNumber 12 = .ok (.dup, 1) := by decide +kernel
theorem dX2_checkNumber_13 : decode cX2_checkNumber 13 = .ok (.ldc 220, 2) := by decide +kernel
theorem dX2_checkNumber_15 : decode cX2_checkNumber 15 = .ok (.invokespecial 222, 3) := by decide +kernel
theorem dX2_checkNumber_18 : decode cX2_checkNumber 18 = .ok (.athrow, 1) := by decide +kernel
theorem dX2_checkNumber_19 : decode cX2_checkNumber 19 = .ok (.return_, 1) := by decide +kernel
theorem dX2_checkPower_0 : decode cX2_checkPower 0 = .ok (.iload_n 0, 1) := by decide +kernel
theorem dX2_checkPower_1 : decode cX2_checkPower 1 = .ok (.ifCond .lt 9, 3) := by decide +kernel
theorem dX2_checkPower_4 : decode cX2_checkPower 4 = .ok (.iload_n 0, 1) := by decide +kernel
theorem dX2_checkPower_5 : decode cX2_checkPower 5 = .ok (.bipush 8, 2) := by decide +kernel
theorem dX2_checkPower_7 : decode cX2_checkPower 7 = .ok (.if_icmp .le 13, 3) := by decide +kernel
theorem dX2_checkPower_10 : decode cX2_checkPower 10 = .ok (.new 100, 3) := by decide +kernel
theorem dX2_checkPower_13 : decode cX2_checkPower 13 = .ok (.dup, 1) := by decide +kernel
theorem dX2_checkPower_14 : decode cX2_checkPower 14 = .ok (.ldc 223, 2) := by decide +kernel
theorem dX2_checkPower_16 : decode cX2_checkPower 16 = .ok (.invokespecial 104, 3) := by decide +kernel
theorem dX2_checkPower_19 : decode cX2_checkPower 19 = .ok (.athrow, 1) := by decide +kernel
theorem dX2_checkPower_20 : decode cX2_checkPower 20 = .ok (.return_, 1) := by decide +kernel
theorem dX2_checkSign_0 : decode cX2_checkSign 0 = .ok (.iload_n 0, 1) := by decide +kernel
theorem dX2_checkSign_1 : decode cX2_checkSign 1 = .ok (.iconst (-1), 1) := by decide +kernel
theorem dX2_checkSign_2 : decode cX2_checkSign 2 = .ok (.if_icmp .lt 8, 3) := by decide +kernel
theorem dX2_checkSign_5 : decode cX2_checkSign 5 = .ok (.iload_n 0, 1) := by decide +kernel
theorem dX2_checkSign_6 : decode cX2_checkSign 6 = .ok (.iconst 1, 1) := by decide +kernel
theorem dX2_checkSign_7 : decode cX2_checkSign 7 = .ok (.if_icmp .le 13, 3) := by decide +kernel
theorem dX2_checkSign_10 : decode cX2_checkSign 10 = .ok (.new 100, 3) := by decide +kernel
theorem dX2_checkSign_13 : decode cX2_checkSign 13 = .ok (.dup, 1) := by decide +kernel
theorem dX2_checkSign_14 : decode cX2_checkSign 14 = .ok (.ldc 225, 2) := by decide +kernel
theorem dX2_checkSign_16 : decode cX2_checkSign 16 = .ok (.invokespecial 104, 3) := by decide +kernel
theorem dX2_checkSign_19 : decode cX2_checkSign 19 = .ok (.athrow, 1) := by decide +kernel
theorem dX2_checkSign_20 : decode cX2_checkSign 20 = .ok (.return_, 1) := by decide +kernel
theorem dX2_checkSlot_0 : decode cX2_checkSlot 0 = .ok (.iload_n 0, 1) := by decide +kernel
theorem dX2_checkSlot_1 : decode cX2_checkSlot 1 = .ok (.ifCond .lt 8, 3) := by decide +kernel
theorem dX2_checkSlot_4 : decode cX2_checkSlot 4 = .ok (.iload_n 0, 1) := by decide +kernel
theorem dX2_checkSlot_5 : decode cX2_checkSlot 5 = .ok (.iconst 2, 1) := by decide +kernel
theorem dX2_checkSlot_6 : decode cX2_checkSlot 6 = .ok (.if_icmp .lt 13, 3) := by decide +kernel
theorem dX2_checkSlot_9 : decode cX2_checkSlot 9 = .ok (.new 100, 3) := by decide +kernel
theorem dX2_checkSlot_12 : decode cX2_checkSlot 12 = .ok (.dup, 1) := by decide +kernel
theorem dX2_checkSlot_13 : decode cX2_checkSlot 13 = .ok (.ldc 227, 2) := by decide +kernel
theorem dX2_checkSlot_15 : decode cX2_checkSlot 15 = .ok (.invokespecial 104, 3) := by decide +kernel
theorem dX2_checkSlot_18 : decode cX2_checkSlot 18 = .ok (.athrow, 1) := by decide +kernel
theorem dX2_checkSlot_19 : decode cX2_checkSlot 19 = .ok (.return_, 1) := by decide +kernel
theorem dX2_checkWhat_0 : decode cX2_checkWhat 0 = .ok (.iload_n 0, 1) := by decide +kernel
theorem dX2_checkWhat_1 : decode cX2_checkWhat 1 = .ok (.ifCond .lt 8, 3) := by decide +kernel
theorem dX2_checkWhat_4 : decode cX2_checkWhat 4 = .ok (.iload_n 0, 1) := by decide +kernel
theorem dX2_checkWhat_5 : decode cX2_checkWhat 5 = .ok (.iload_n 1, 1) := by decide +kernel
theorem dX2_checkWhat_6 : decode cX2_checkWhat 6 = .ok (.if_icmp .lt 13, 3) := by decide +kernel
theorem dX2_checkWhat_9 : decode cX2_checkWhat 9 = .ok (.new 100, 3) := by decide +kernel
theorem dX2_checkWhat_12 : decode cX2_checkWhat 12 = .ok (.dup, 1) := by decide +kernel
theorem dX2_checkWhat_13 : decode cX2_checkWhat 13 = .ok (.ldc 229, 2) := by decide +kernel
theorem dX2_checkWhat_15 : decode cX2_checkWhat 15 = .ok (.invokespecial 104, 3) := by decide +kernel
theorem dX2_checkWhat_18 : decode cX2_checkWhat 18 = .ok (.athrow, 1) := by decide +kernel
theorem dX2_checkWhat_19 : decode cX2_checkWhat 19 = .ok (.return_, 1) := by decide +kernel
theorem dX2_save_0 : decode cX2_save 0 = .ok (.aload_n 0, 1) := by decide +kernel
theorem dX2_save_1 : decode cX2_save 1 = .ok (.getfield 20, 3) := by decide +kernel
theorem dX2_save_4 : decode cX2_save 4 = .ok (.bipush 6, 2) := by decide +kernel
theorem dX2_save_6 : decode cX2_save 6 = .ok (.if_icmp .lt 7, 3) := by decide +kernel
theorem dX2_save_9 : decode cX2_save 9 = .ok (.aload_n 0, 1) := by decide +kernel
theorem dX2_save_10 : decode cX2_save 10 = .ok (.invokevirtual 231, 3) := by decide +kernel
theorem dX2_save_13 : decode cX2_save 13 = .ok (.aload_n 0, 1) := by decide +kernel
theorem dX2_save_14 : decode cX2_save 14 = .ok (.getfield 16, 3) := by decide +kernel
theorem dX2_save_17 : decode cX2_save 17 = .ok (.aload_n 0, 1) := by decide +kernel
theorem dX2_save_18 : decode cX2_save 18 = .ok (.getfield 20, 3) := by decide +kernel
theorem dX2_save_21 : decode cX2_save 21 = .ok (.aaload, 1) := by decide +kernel
theorem dX2_save_22 : decode cX2_save 22 = .ok (.aload_n 0, 1) := by decide +kernel
theorem dX2_save_23 : decode cX2_save 23 = .ok (.getfield 12, 3) := by decide +kernel
theorem dX2_save_26 : decode cX2_save 26 = .ok (.invokevirtual 140, 3) := by decide +kernel
theorem dX2_save_29 : decode cX2_save 29 = .ok (.aload_n 0, 1) := by decide +kernel
theorem dX2_save_30 : decode cX2_save 30 = .ok (.dup, 1) := by decide +kernel
theorem dX2_save_31 : decode cX2_save 31 = .ok (.getfield 20, 3) := by decide +kernel
theorem dX2_save_34 : decode cX2_save 34 = .ok (.iconst 1, 1) := by decide +kernel
theorem dX2_save_35 : decode cX2_save 35 = .ok (.iadd, 1) := by decide +kernel
theorem dX2_save_36 : decode cX2_save 36 = .ok (.putfield 20, 3) := by decide +kernel
theorem dX2_save_39 : decode cX2_save 39 = .ok (.return_, 1) := by decide +kernel
theorem dX2_dropOldest_0 : decode cX2_dropOldest 0 = .ok (.aload_n 0, 1) := by decide +kernel
theorem dX2_dropOldest_1 : decode cX2_dropOldest 1 = .ok (.getfield 16, 3) := by decide +kernel
theorem dX2_dropOldest_4 : decode cX2_dropOldest 4 = .ok (.iconst 0, 1) := by decide +kernel
theorem dX2_dropOldest_5 : decode cX2_dropOldest 5 = .ok (.aaload, 1) := by decide +kernel
theorem dX2_dropOldest_6 : decode cX2_dropOldest 6 = .ok (.astore_n 1, 1) := by decide +kernel
theorem dX2_dropOldest_7 : decode cX2_dropOldest 7 = .ok (.iconst 1, 1) := by decide +kernel
theorem dX2_dropOldest_8 : decode cX2_dropOldest 8 = .ok (.istore_n 2, 1) := by decide +kernel
theorem dX2_dropOldest_9 : decode cX2_dropOldest 9 = .ok (.iload_n 2, 1) := by decide +kernel
theorem dX2_dropOldest_10 : decode cX2_dropOldest 10 = .ok (.bipush 6, 2) := by decide +kernel
theorem dX2_dropOldest_12 : decode cX2_dropOldest 12 = .ok (.if_icmp .ge 23, 3) := by decide +kernel
theorem dX2_dropOldest_15 : decode cX2_dropOldest 15 = .ok (.aload_n 0, 1) := by decide +kernel
theorem dX2_dropOldest_16 : decode cX2_dropOldest 16 = .ok (.getfield 16, 3) := by decide +kernel
theorem dX2_dropOldest_19 : decode cX2_dropOldest 19 = .ok (.iload_n 2, 1) := by decide +kernel
theorem dX2_dropOldest_20 : decode cX2_dropOldest 20 = .ok (.iconst 1, 1) := by decide +kernel
theorem dX2_dropOldest_21 : decode cX2_dropOldest 21 = .ok (.isub, 1) := by decide +kernel
theorem dX2_dropOldest_22 : decode cX2_dropOldest 22 = .ok (.aload_n 0, 1) := by decide +kernel
theorem dX2_dropOldest_23 : decode cX2_dropOldest 23 = .ok (.getfield 16, 3) := by decide +kernel
theorem dX2_dropOldest_26 : decode cX2_dropOldest 26 = .ok (.iload_n 2, 1) := by decide +kernel
theorem dX2_dropOldest_27 : decode cX2_dropOldest 27 = .ok (.aaload, 1) := by decide +kernel
theorem dX2_dropOldest_28 : decode cX2_dropOldest 28 = .ok (.aastore, 1) := by decide +kernel
theorem dX2_dropOldest_29 : decode cX2_dropOldest 29 = .ok (.iinc 2 1, 3) := by decide +kernel
theorem dX2_dropOldest_32 : decode cX2_dropOldest 32 = .ok (.goto (-23), 3) := by decide +kernel
theorem dX2_dropOldest_35 : decode cX2_dropOldest 35 = .ok (.aload_n 0, 1) := by decide +kernel
theorem dX2_dropOldest_36 : decode cX2_dropOldest 36 = .ok (.getfield 16, 3) := by decide +kernel
theorem dX2_dropOldest_39 : decode cX2_dropOldest 39 = .ok (.iconst 5, 1) := by decide +kernel
theorem dX2_dropOldest_40 : decode cX2_dropOldest 40 = .ok (.aload_n 1, 1) := by decide +kernel
theorem dX2_dropOldest_41 : decode cX2_dropOldest 41 = .ok (.aastore, 1) := by decide +kernel
theorem dX2_dropOldest_42 : decode cX2_dropOldest 42 = .ok (.aload_n 0, 1) := by decide +kernel
theorem dX2_dropOldest_43 : decode cX2_dropOldest 43 = .ok (.dup, 1) := by decide +kernel
theorem dX2_dropOldest_44 : decode cX2_dropOldest 44 = .ok (.getfield 20, 3) := by decide +kernel
theorem dX2_dropOldest_47 : decode cX2_dropOldest 47 = .ok (.iconst 1, 1) := by decide +kernel
theorem dX2_dropOldest_48 : decode cX2_dropOldest 48 = .ok (.isub, 1) := by decide +kernel
theorem dX2_dropOldest_49 : decode cX2_dropOldest 49 = .ok (.putfield 20, 3) := by decide +kernel
theorem dX2_dropOldest_52 : decode cX2_dropOldest 52 = .ok (.return_, 1) := by decide +kernel
theorem dX2_signOf_0 : decode cX2_signOf 0 = .ok (.lload_n 0, 1) := by decide +kernel
theorem dX2_signOf_1 : decode cX2_signOf 1 = .ok (.lconst 0, 1) := by decide +kernel
theorem dX2_signOf_2 : decode cX2_signOf 2 = .ok (.lcmp, 1) := by decide +kernel
theorem dX2_signOf_3 : decode cX2_signOf 3 = .ok (.ifCond .le 7, 3) := by decide +kernel
theorem dX2_signOf_6 : decode cX2_signOf 6 = .ok (.iconst 1, 1) := by decide +kernel
theorem dX2_signOf_7 : decode cX2_signOf 7 = .ok (.goto 14, 3) := by decide +kernel
theorem dX2_signOf_10 : decode cX2_signOf 10 = .ok (.lload_n 0, 1) := by decide +kernel
theorem dX2_signOf_11 : decode cX2_signOf 11 = .ok (.lconst 0, 1) := by decide +kernel
theorem dX2_signOf_12 : decode cX2_signOf 12 = .ok (.lcmp, 1) := by decide +kernel
theorem dX2_signOf_13 : decode cX2_signOf 13 = .ok (.ifCond .ge 7, 3) := by decide +kernel
theorem dX2_signOf_16 : decode cX2_signOf 16 = .ok (.iconst (-1), 1) := by decide +kernel
theorem dX2_signOf_17 : decode cX2_signOf 17 = .ok (.goto 4, 3) := by decide +kernel
theorem dX2_signOf_20 : decode cX2_signOf 20 = .ok (.iconst 0, 1) := by decide +kernel
theorem dX2_signOf_21 : decode cX2_signOf 21 = .ok (.ireturn, 1) := by decide +kernel
theorem dX2_markOf_0 : decode cX2_markOf 0 = .ok (.iload_n 0, 1) := by decide +kernel
theorem dX2_markOf_1 : decode cX2_markOf 1 = .ok (.ifCond .le 7, 3) := by decide +kernel
theorem dX2_markOf_4 : decode cX2_markOf 4 = .ok (.iconst 1, 1) := by decide +kernel
theorem dX2_markOf_5 : decode cX2_markOf 5 = .ok (.goto 12, 3) := by decide +kernel
theorem dX2_markOf_8 : decode cX2_markOf 8 = .ok (.iload_n 0, 1) := by decide +kernel
theorem dX2_markOf_9 : decode cX2_markOf 9 = .ok (.ifCond .ge 7, 3) := by decide +kernel
theorem dX2_markOf_12 : decode cX2_markOf 12 = .ok (.iconst 2, 1) := by decide +kernel
theorem dX2_markOf_13 : decode cX2_markOf 13 = .ok (.goto 4, 3) := by decide +kernel
theorem dX2_markOf_16 : decode cX2_markOf 16 = .ok (.iconst 0, 1) := by decide +kernel
theorem dX2_markOf_17 : decode cX2_markOf 17 = .ok (.ireturn, 1) := by decide +kernel
theorem dX2_holds_0 : decode cX2_holds 0 = .ok (.iload_n 0, 1) := by decide +kernel
theorem dX2_holds_1 : decode cX2_holds 1 = .ok (.iconst 3, 1) := by decide +kernel
theorem dX2_holds_2 : decode cX2_holds 2 = .ok (.if_icmp .eq 11, 3) := by decide +kernel
theorem dX2_holds_5 : decode cX2_holds 5 = .ok (.iload_n 0, 1) := by decide +kernel
theorem dX2_holds_6 : decode cX2_holds 6 = .ok (.iload_n 1, 1) := by decide +kernel
theorem dX2_holds_7 : decode cX2_holds 7 = .ok (.invokestatic 234, 3) := by decide +kernel
theorem dX2_holds_10 : decode cX2_holds 10 = .ok (.if_icmp .ne 7, 3) := by decide +kernel
theorem dX2_holds_13 : decode cX2_holds 13 = .ok (.iconst 1, 1) := by decide +kernel
theorem dX2_holds_14 : decode cX2_holds 14 = .ok (.goto 4, 3) := by decide +kernel
theorem dX2_holds_17 : decode cX2_holds 17 = .ok (.iconst 0, 1) := by decide +kernel
theorem dX2_holds_18 : decode cX2_holds 18 = .ok (.ireturn, 1) := by decide +kernel
theorem dX2_sumMarks_0 : decode cX2_sumMarks 0 = .ok (.aload_n 0, 1) := by decide +kernel
theorem dX2_sumMarks_1 : decode cX2_sumMarks 1 = .ok (.iload_n 2, 1) := by decide +kernel
theorem dX2_sumMarks_2 : decode cX2_sumMarks 2 = .ok (.iaload, 1) := by decide +kernel
theorem dX2_sumMarks_3 : decode cX2_sumMarks 3 = .ok (.invokestatic 234, 3) := by decide +kernel
theorem dX2_sumMarks_6 : decode cX2_sumMarks 6 = .ok (.aload_n 1, 1) := by decide +kernel
theorem dX2_sumMarks_7 : decode cX2_sumMarks 7 = .ok (.iload_n 2, 1) := by decide +kernel
theorem dX2_sumMarks_8 : decode cX2_sumMarks 8 = .ok (.iaload, 1) := by decide +kernel
theorem dX2_sumMarks_9 : decode cX2_sumMarks 9 = .ok (.invokestatic 234, 3) := by decide +kernel
theorem dX2_sumMarks_12 : decode cX2_sumMarks 12 = .ok (.ior, 1) := by decide +kernel
theorem dX2_sumMarks_13 : decode cX2_sumMarks 13 = .ok (.ireturn, 1) := by decide +kernel
theorem dX2_productMarks_0 : decode cX2_productMarks 0 = .ok (.iconst 0, 1) := by decide +kernel
theorem dX2_productMarks_1 : decode cX2_productMarks 1 = .ok (.istore_n 3, 1) := by decide +kernel
theorem dX2_productMarks_2 : decode cX2_productMarks 2 = .ok (.iconst 0, 1) := by decide +kernel
theorem dX2_productMarks_3 : decode cX2_productMarks 3 = .ok (.istore 4, 2) := by decide +kernel
theorem dX2_productMarks_5 : decode cX2_productMarks 5 = .ok (.iload 4, 2) := by decide +kernel
theorem dX2_productMarks_7 : decode cX2_productMarks 7 = .ok (.iload_n 2, 1) := by decide +kernel
theorem dX2_productMarks_8 : decode cX2_productMarks 8 = .ok (.if_icmp .gt 26, 3) := by decide +kernel
theorem dX2_productMarks_11 : decode cX2_productMarks 11 = .ok (.iload_n 3, 1) := by decide +kernel
theorem dX2_productMarks_12 : decode cX2_productMarks 12 = .ok (.aload_n 0, 1) := by decide +kernel
theorem dX2_productMarks_13 : decode cX2_productMarks 13 = .ok (.iload 4, 2) := by decide +kernel
theorem dX2_productMarks_15 : decode cX2_productMarks 15 = .ok (.iaload, 1) := by decide +kernel
theorem dX2_productMarks_16 : decode cX2_productMarks 16 = .ok (.aload_n 1, 1) := by decide +kernel
theorem dX2_productMarks_17 : decode cX2_productMarks 17 = .ok (.iload_n 2, 1) := by decide +kernel
theorem dX2_productMarks_18 : decode cX2_productMarks 18 = .ok (.iload 4, 2) := by decide +kernel
theorem dX2_productMarks_20 : decode cX2_productMarks 20 = .ok (.isub, 1) := by decide +kernel
theorem dX2_productMarks_21 : decode cX2_productMarks 21 = .ok (.iaload, 1) := by decide +kernel
theorem dX2_productMarks_22 : decode cX2_productMarks 22 = .ok (.imul, 1) := by decide +kernel
theorem dX2_productMarks_23 : decode cX2_productMarks 23 = .ok (.invokestatic 234, 3) := by decide +kernel
theorem dX2_productMarks_26 : decode cX2_productMarks 26 = .ok (.ior, 1) := by decide +kernel
theorem dX2_productMarks_27 : decode cX2_productMarks 27 = .ok (.istore_n 3, 1) := by decide +kernel
theorem dX2_productMarks_28 : decode cX2_productMarks 28 = .ok (.iinc 4 1, 3) := by decide +kernel
theorem dX2_productMarks_31 : decode cX2_productMarks 31 = .ok (.goto (-26), 3) := by decide +kernel
theorem dX2_productMarks_34 : decode cX2_productMarks 34 = .ok (.iload_n 3, 1) := by decide +kernel
theorem dX2_productMarks_35 : decode cX2_productMarks 35 = .ok (.ireturn, 1) := by decide +kernel
theorem dX2_marksAt_0 : decode cX2_marksAt 0 = .ok (.iload_n 2, 1) := by decide +kernel
theorem dX2_marksAt_1 : decode cX2_marksAt 1 = .ok (.ifCond .ne 12, 3) := by decide +kernel
theorem dX2_marksAt_4 : decode cX2_marksAt 4 = .ok (.aload_n 0, 1) := by decide +kernel
theorem dX2_marksAt_5 : decode cX2_marksAt 5 = .ok (.aload_n 1, 1) := by decide +kernel
theorem dX2_marksAt_6 : decode cX2_marksAt 6 = .ok (.iload_n 3, 1) := by decide +kernel
theorem dX2_marksAt_7 : decode cX2_marksAt 7 = .ok (.invokestatic 237, 3) := by decide +kernel
theorem dX2_marksAt_10 : decode cX2_marksAt 10 = .ok (.goto 9, 3) := by decide +kernel
theorem dX2_marksAt_13 : decode cX2_marksAt 13 = .ok (.aload_n 0, 1) := by decide +kernel
theorem dX2_marksAt_14 : decode cX2_marksAt 14 = .ok (.aload_n 1, 1) := by decide +kernel
theorem dX2_marksAt_15 : decode cX2_marksAt 15 = .ok (.iload_n 3, 1) := by decide +kernel
theorem dX2_marksAt_16 : decode cX2_marksAt 16 = .ok (.invokestatic 240, 3) := by decide +kernel
theorem dX2_marksAt_19 : decode cX2_marksAt 19 = .ok (.ireturn, 1) := by decide +kernel
theorem dX2_isTooHigh_0 : decode cX2_isTooHigh 0 = .ok (.iload_n 2, 1) := by decide +kernel
theorem dX2_isTooHigh_1 : decode cX2_isTooHigh 1 = .ok (.iconst 1, 1) := by decide +kernel
theorem dX2_isTooHigh_2 : decode cX2_isTooHigh 2 = .ok (.if_icmp .ne 21, 3) := by decide +kernel
theorem dX2_isTooHigh_5 : decode cX2_isTooHigh 5 = .ok (.aload_n 0, 1) := by decide +kernel
theorem dX2_isTooHigh_6 : decode cX2_isTooHigh 6 = .ok (.invokestatic 80, 3) := by decide +kernel
theorem dX2_isTooHigh_9 : decode cX2_isTooHigh 9 = .ok (.aload_n 1, 1) := by decide +kernel
theorem dX2_isTooHigh_10 : decode cX2_isTooHigh 10 = .ok (.invokestatic 80, 3) := by decide +kernel
theorem dX2_isTooHigh_13 : decode cX2_isTooHigh 13 = .ok (.iadd, 1) := by decide +kernel
theorem dX2_isTooHigh_14 : decode cX2_isTooHigh 14 = .ok (.bipush 8, 2) := by decide +kernel
theorem dX2_isTooHigh_16 : decode cX2_isTooHigh 16 = .ok (.if_icmp .le 7, 3) := by decide +kernel
theorem dX2_isTooHigh_19 : decode cX2_isTooHigh 19 = .ok (.iconst 1, 1) := by decide +kernel
theorem dX2_isTooHigh_20 : decode cX2_isTooHigh 20 = .ok (.goto 4, 3) := by decide +kernel
theorem dX2_isTooHigh_23 : decode cX2_isTooHigh 23 = .ok (.iconst 0, 1) := by decide +kernel
theorem dX2_isTooHigh_24 : decode cX2_isTooHigh 24 = .ok (.ireturn, 1) := by decide +kernel
theorem dX2_rowsOf_0 : decode cX2_rowsOf 0 = .ok (.aload_n 0, 1) := by decide +kernel
theorem dX2_rowsOf_1 : decode cX2_rowsOf 1 = .ok (.aload_n 1, 1) := by decide +kernel
theorem dX2_rowsOf_2 : decode cX2_rowsOf 2 = .ok (.iload_n 2, 1) := by decide +kernel
theorem dX2_rowsOf_3 : decode cX2_rowsOf 3 = .ok (.invokestatic 243, 3) := by decide +kernel
theorem dX2_rowsOf_6 : decode cX2_rowsOf 6 = .ok (.ifCond .eq 6, 3) := by decide +kernel
theorem dX2_rowsOf_9 : decode cX2_rowsOf 9 = .ok (.bipush (-9), 2) := by decide +kernel
theorem dX2_rowsOf_11 : decode cX2_rowsOf 11 = .ok (.ireturn, 1) := by decide +kernel
theorem dX2_rowsOf_12 : decode cX2_rowsOf 12 = .ok (.iconst 1, 1) := by decide +kernel
theorem dX2_rowsOf_13 : decode cX2_rowsOf 13 = .ok (.istore_n 3, 1) := by decide +kernel
theorem dX2_rowsOf_14 : decode cX2_rowsOf 14 = .ok (.iconst 0, 1) := by decide +kernel
theorem dX2_rowsOf_15 : decode cX2_rowsOf 15 = .ok (.istore 4, 2) := by decide +kernel
theorem dX2_rowsOf_17 : decode cX2_rowsOf 17 = .ok (.iload 4, 2) := by decide +kernel
theorem dX2_rowsOf_19 : decode cX2_rowsOf 19 = .ok (.bipush 9, 2) := by decide +kernel
theorem dX2_rowsOf_21 : decode cX2_rowsOf 21 = .ok (.if_icmp .ge 25, 3) := by decide +kernel
theorem dX2_rowsOf_24 : decode cX2_rowsOf 24 = .ok (.aload_n 0, 1) := by decide +kernel
theorem dX2_rowsOf_25 : decode cX2_rowsOf 25 = .ok (.aload_n 1, 1) := by decide +kernel
theorem dX2_rowsOf_26 : decode cX2_rowsOf 26 = .ok (.iload_n 2, 1) := by decide +kernel
theorem dX2_rowsOf_27 : decode cX2_rowsOf 27 = .ok (.iload 4, 2) := by decide +kernel
theorem dX2_rowsOf_29 : decode cX2_rowsOf 29 = .ok (.invokestatic 247, 3) := by decide +kernel
theorem dX2_rowsOf_32 : decode cX2_rowsOf 32 = .ok (.iconst 3, 1) := by decide +kernel
theorem dX2_rowsOf_33 : decode cX2_rowsOf 33 = .ok (.if_icmp .ne 7, 3) := by decide +kernel
theorem dX2_rowsOf_36 : decode cX2_rowsOf 36 = .ok (.iload_n 3, 1) := by decide +kernel
theorem dX2_rowsOf_37 : decode cX2_rowsOf 37 = .ok (.iconst 3, 1) := by decide +kernel
theorem dX2_rowsOf_38 : decode cX2_rowsOf 38 = .ok (.imul, 1) := by decide +kernel
theorem dX2_rowsOf_39 : decode cX2_rowsOf 39 = .ok (.istore_n 3, 1) := by decide +kernel
theorem dX2_rowsOf_40 : decode cX2_rowsOf 40 = .ok (.iinc 4 1, 3) := by decide +kernel
theorem dX2_rowsOf_43 : decode cX2_rowsOf 43 = .ok (.goto (-26), 3) := by decide +kernel
theorem dX2_rowsOf_46 : decode cX2_rowsOf 46 = .ok (.iload_n 3, 1) := by decide +kernel
theorem dX2_rowsOf_47 : decode cX2_rowsOf 47 = .ok (.ireturn, 1) := by decide +kernel
theorem dX2_isAmong_0 : decode cX2_isAmong 0 = .ok (.aload_n 1, 1) := by decide +kernel
theorem dX2_isAmong_1 : decode cX2_isAmong 1 = .ok (.aload_n 2, 1) := by decide +kernel
theorem dX2_isAmong_2 : decode cX2_isAmong 2 = .ok (.iload_n 3, 1) := by decide +kernel
theorem dX2_isAmong_3 : decode cX2_isAmong 3 = .ok (.invokestatic 243, 3) := by decide +kernel
theorem dX2_isAmong_6 : decode cX2_isAmong 6 = .ok (.ifCond .eq 5, 3) := by decide +kernel
theorem dX2_isAmong_9 : decode cX2_isAmong 9 = .ok (.iconst 0, 1) := by decide +kernel
theorem dX2_isAmong_10 : decode cX2_isAmong 10 = .ok (.ireturn, 1) := by decide +kernel
theorem dX2_isAmong_11 : decode cX2_isAmong 11 = .ok (.iconst 0, 1) := by decide +kernel
theorem dX2_isAmong_12 : decode cX2_isAmong 12 = .ok (.istore 4, 2) := by decide +kernel
theorem dX2_isAmong_14 : decode cX2_isAmong 14 = .ok (.iload 4, 2) := by decide +kernel
theorem dX2_isAmong_16 : decode cX2_isAmong 16 = .ok (.bipush 9, 2) := by decide +kernel
theorem dX2_isAmong_18 : decode cX2_isAmong 18 = .ok (.if_icmp .ge 29, 3) := by decide +kernel
theorem dX2_isAmong_21 : decode cX2_isAmong 21 = .ok (.aload_n 1, 1) := by decide +kernel
theorem dX2_isAmong_22 : decode cX2_isAmong 22 = .ok (.aload_n 2, 1) := by decide +kernel
theorem dX2_isAmong_23 : decode cX2_isAmong 23 = .ok (.iload_n 3, 1) := by decide +kernel
theorem dX2_isAmong_24 : decode cX2_isAmong 24 = .ok (.iload 4, 2) := by decide +kernel
theorem dX2_isAmong_26 : decode cX2_isAmong 26 = .ok (.invokestatic 247, 3) := by decide +kernel
theorem dX2_isAmong_29 : decode cX2_isAmong 29 = .ok (.aload_n 0, 1) := by decide +kernel
theorem dX2_isAmong_30 : decode cX2_isAmong 30 = .ok (.iload 4, 2) := by decide +kernel
theorem dX2_isAmong_32 : decode cX2_isAmong 32 = .ok (.iaload, 1) := by decide +kernel
theorem dX2_isAmong_33 : decode cX2_isAmong 33 = .ok (.invokestatic 251, 3) := by decide +kernel
theorem dX2_isAmong_36 : decode cX2_isAmong 36 = .ok (.ifCond .ne 5, 3) := by decide +kernel
theorem dX2_isAmong_39 : decode cX2_isAmong 39 = .ok (.iconst 0, 1) := by decide +kernel
theorem dX2_isAmong_40 : decode cX2_isAmong 40 = .ok (.ireturn, 1) := by decide +kernel
theorem dX2_isAmong_41 : decode cX2_isAmong 41 = .ok (.iinc 4 1, 3) := by decide +kernel
theorem dX2_isAmong_44 : decode cX2_isAmong 44 = .ok (.goto (-30), 3) := by decide +kernel
theorem dX2_isAmong_47 : decode cX2_isAmong 47 = .ok (.iconst 1, 1) := by decide +kernel
theorem dX2_isAmong_48 : decode cX2_isAmong 48 = .ok (.ireturn, 1) := by decide +kernel
theorem dX2_degreeOf_0 : decode cX2_degreeOf 0 = .ok (.bipush 8, 2) := by decide +kernel
theorem dX2_degreeOf_2 : decode cX2_degreeOf 2 = .ok (.istore_n 1, 1) := by decide +kernel
theorem dX2_degreeOf_3 : decode cX2_degreeOf 3 = .ok (.iload_n 1, 1) := by decide +kernel
theorem dX2_degreeOf_4 : decode cX2_degreeOf 4 = .ok (.ifCond .le 17, 3) := by decide +kernel
theorem dX2_degreeOf_7 : decode cX2_degreeOf 7 = .ok (.aload_n 0, 1) := by decide +kernel
theorem dX2_degreeOf_8 : decode cX2_degreeOf 8 = .ok (.iload_n 1, 1) := by decide +kernel
theorem dX2_degreeOf_9 : decode cX2_degreeOf 9 = .ok (.iaload, 1) := by decide +kernel
theorem dX2_degreeOf_10 : decode cX2_degreeOf 10 = .ok (.ifCond .eq 5, 3) := by decide +kernel
theorem dX2_degreeOf_13 : decode cX2_degreeOf 13 = .ok (.iload_n 1, 1) := by decide +kernel
theorem dX2_degreeOf_14 : decode cX2_degreeOf 14 = .ok (.ireturn, 1) := by decide +kernel
theorem dX2_degreeOf_15 : decode cX2_degreeOf 15 = .ok (.iinc 1 (-1), 3) := by decide +kernel
theorem dX2_degreeOf_18 : decode cX2_degreeOf 18 = .ok (.goto (-15), 3) := by decide +kernel
theorem dX2_degreeOf_21 : decode cX2_degreeOf 21 = .ok (.iconst 0, 1) := by decide +kernel
theorem dX2_degreeOf_22 : decode cX2_degreeOf 22 = .ok (.ireturn, 1) := by decide +kernel
theorem dX2_notZero_0 : decode cX2_notZero 0 = .ok (.iconst 0, 1) := by decide +kernel
theorem dX2_notZero_1 : decode cX2_notZero 1 = .ok (.istore_n 1, 1) := by decide +kernel
theorem dX2_notZero_2 : decode cX2_notZero 2 = .ok (.iconst 0, 1) := by decide +kernel
theorem dX2_notZero_3 : decode cX2_notZero 3 = .ok (.istore_n 2, 1) := by decide +kernel
theorem dX2_notZero_4 : decode cX2_notZero 4 = .ok (.iload_n 2, 1) := by decide +kernel
theorem dX2_notZero_5 : decode cX2_notZero 5 = .ok (.bipush 9, 2) := by decide +kernel
theorem dX2_notZero_7 : decode cX2_notZero 7 = .ok (.if_icmp .ge 18, 3) := by decide +kernel
theorem dX2_notZero_10 : decode cX2_notZero 10 = .ok (.aload_n 0, 1) := by decide +kernel
theorem dX2_notZero_11 : decode cX2_notZero 11 = .ok (.iload_n 2, 1) := by decide +kernel
theorem dX2_notZero_12 : decode cX2_notZero 12 = .ok (.iaload, 1) := by decide +kernel
theorem dX2_notZero_13 : decode cX2_notZero 13 = .ok (.ifCond .eq 6, 3) := by decide +kernel
theorem dX2_notZero_16 : decode cX2_notZero 16 = .ok (.iinc 1 1, 3) := by decide +kernel
theorem dX2_notZero_19 : decode cX2_notZero 19 = .ok (.iinc 2 1, 3) := by decide +kernel
theorem dX2_notZero_22 : decode cX2_notZero 22 = .ok (.goto (-18), 3) := by decide +kernel
theorem dX2_notZero_25 : decode cX2_notZero 25 = .ok (.iload_n 1, 1) := by decide +kernel
theorem dX2_notZero_26 : decode cX2_notZero 26 = .ok (.ireturn, 1) := by decide +kernel
theorem dX2_isAloneNotZero_0 : decode cX2_isAloneNotZero 0 = .ok (.aload_n 0, 1) := by decide +kernel
theorem dX2_isAloneNotZero_1 : decode cX2_isAloneNotZero 1 = .ok (.iload_n 1, 1) := by decide +kernel
theorem dX2_isAloneNotZero_2 : decode cX2_isAloneNotZero 2 = .ok (.iaload, 1) := by decide +kernel
theorem dX2_isAloneNotZero_3 : decode cX2_isAloneNotZero 3 = .ok (.ifCond .eq 15, 3) := by decide +kernel
theorem dX2_isAloneNotZero_6 : decode cX2_isAloneNotZero 6 = .ok (.aload_n 0, 1) := by decide +kernel
theorem dX2_isAloneNotZero_7 : decode cX2_isAloneNotZero 7 = .ok (.invokestatic 155, 3) := by decide +kernel
theorem dX2_isAloneNotZero_10 : decode cX2_isAloneNotZero 10 = .ok (.iconst 1, 1) := by decide +kernel
theorem dX2_isAloneNotZero_11 : decode cX2_isAloneNotZero 11 = .ok (.if_icmp .ne 7, 3) := by decide +kernel
theorem dX2_isAloneNotZero_14 : decode cX2_isAloneNotZero 14 = .ok (.iconst 1, 1) := by decide +kernel
theorem dX2_isAloneNotZero_15 : decode cX2_isAloneNotZero 15 = .ok (.goto 4, 3) := by decide +kernel
theorem dX2_isAloneNotZero_18 : decode cX2_isAloneNotZero 18 = .ok (.iconst 0, 1) := by decide +kernel
theorem dX2_isAloneNotZero_19 : decode cX2_isAloneNotZero 19 = .ok (.ireturn, 1) := by decide +kernel
theorem dX2_formOf_0 : decode cX2_formOf 0 = .ok (.iconst 0, 1) := by decide +kernel
theorem dX2_formOf_1 : decode cX2_formOf 1 = .ok (.istore_n 1, 1) := by decide +kernel
theorem dX2_formOf_2 : decode cX2_formOf 2 = .ok (.bipush 8, 2) := by decide +kernel
theorem dX2_formOf_4 : decode cX2_formOf 4 = .ok (.istore_n 2, 1) := by decide +kernel
theorem dX2_formOf_5 : decode cX2_formOf 5 = .ok (.iload_n 2, 1) := by decide +kernel
theorem dX2_formOf_6 : decode cX2_formOf 6 = .ok (.ifCond .lt 19, 3) := by decide +kernel
theorem dX2_formOf_9 : decode cX2_formOf 9 = .ok (.iconst 3, 1) := by decide +kernel
theorem dX2_formOf_10 : decode cX2_formOf 10 = .ok (.iload_n 1, 1) := by decide +kernel
theorem dX2_formOf_11 : decode cX2_formOf 11 = .ok (.imul, 1) := by decide +kernel
theorem dX2_formOf_12 : decode cX2_formOf 12 = .ok (.aload_n 0, 1) := by decide +kernel
theorem dX2_formOf_13 : decode cX2_formOf 13 = .ok (.iload_n 2, 1) := by decide +kernel
theorem dX2_formOf_14 : decode cX2_formOf 14 = .ok (.iaload, 1) := by decide +kernel
theorem dX2_formOf_15 : decode cX2_formOf 15 = .ok (.iadd, 1) := by decide +kernel
theorem dX2_formOf_16 : decode cX2_formOf 16 = .ok (.iconst 1, 1) := by decide +kernel
theorem dX2_formOf_17 : decode cX2_formOf 17 = .ok (.iadd, 1) := by decide +kernel
theorem dX2_formOf_18 : decode cX2_formOf 18 = .ok (.istore_n 1, 1) := by decide +kernel
theorem dX2_formOf_19 : decode cX2_formOf 19 = .ok (.iinc 2 (-1), 3) := by decide +kernel
theorem dX2_formOf_22 : decode cX2_formOf 22 = .ok (.goto (-17), 3) := by decide +kernel
theorem dX2_formOf_25 : decode cX2_formOf 25 = .ok (.iload_n 1, 1) := by decide +kernel
theorem dX2_formOf_26 : decode cX2_formOf 26 = .ok (.ireturn, 1) := by decide +kernel
theorem dX2_powerOf_0 : decode cX2_powerOf 0 = .ok (.iload_n 1, 1) := by decide +kernel
theorem dX2_powerOf_1 : decode cX2_powerOf 1 = .ok (.ifCond .ne 5, 3) := by decide +kernel
theorem dX2_powerOf_4 : decode cX2_powerOf 4 = .ok (.iconst 1, 1) := by decide +kernel
theorem dX2_powerOf_5 : decode cX2_powerOf 5 = .ok (.ireturn, 1) := by decide +kernel
theorem dX2_powerOf_6 : decode cX2_powerOf 6 = .ok (.iload_n 1, 1) := by decide +kernel
theorem dX2_powerOf_7 : decode cX2_powerOf 7 = .ok (.iconst 2, 1) := by decide +kernel
theorem dX2_powerOf_8 : decode cX2_powerOf 8 = .ok (.irem, 1) := by decide +kernel
theorem dX2_powerOf_9 : decode cX2_powerOf 9 = .ok (.ifCond .ne 9, 3) := by decide +kernel
theorem dX2_powerOf_12 : decode cX2_powerOf 12 = .ok (.iload_n 0, 1) := by decide +kernel
theorem dX2_powerOf_13 : decode cX2_powerOf 13 = .ok (.iload_n 0, 1) := by decide +kernel
theorem dX2_powerOf_14 : decode cX2_powerOf 14 = .ok (.imul, 1) := by decide +kernel
theorem dX2_powerOf_15 : decode cX2_powerOf 15 = .ok (.goto 4, 3) := by decide +kernel
theorem dX2_powerOf_18 : decode cX2_powerOf 18 = .ok (.iload_n 0, 1) := by decide +kernel
theorem dX2_powerOf_19 : decode cX2_powerOf 19 = .ok (.ireturn, 1) := by decide +kernel
theorem dX2_hasRoot_0 : decode cX2_hasRoot 0 = .ok (.iconst 0, 1) := by decide +kernel
theorem dX2_hasRoot_1 : decode cX2_hasRoot 1 = .ok (.istore_n 2, 1) := by decide +kernel
theorem dX2_hasRoot_2 : decode cX2_hasRoot 2 = .ok (.iconst 0, 1) := by decide +kernel
theorem dX2_hasRoot_3 : decode cX2_hasRoot 3 = .ok (.istore_n 3, 1) := by decide +kernel
theorem dX2_hasRoot_4 : decode cX2_hasRoot 4 = .ok (.iload_n 3, 1) := by decide +kernel
theorem dX2_hasRoot_5 : decode cX2_hasRoot 5 = .ok (.bipush 9, 2) := by decide +kernel
theorem dX2_hasRoot_7 : decode cX2_hasRoot 7 = .ok (.if_icmp .ge 24, 3) := by decide +kernel
theorem dX2_hasRoot_10 : decode cX2_hasRoot 10 = .ok (.iload_n 2, 1) := by decide +kernel
theorem dX2_hasRoot_11 : decode cX2_hasRoot 11 = .ok (.aload_n 0, 1) := by decide +kernel
theorem dX2_hasRoot_12 : decode cX2_hasRoot 12 = .ok (.iload_n 3, 1) := by decide +kernel
theorem dX2_hasRoot_13 : decode cX2_hasRoot 13 = .ok (.iaload, 1) := by decide +kernel
theorem dX2_hasRoot_14 : decode cX2_hasRoot 14 = .ok (.iload_n 1, 1) := by decide +kernel
theorem dX2_hasRoot_15 : decode cX2_hasRoot 15 = .ok (.iload_n 3, 1) := by decide +kernel
theorem dX2_hasRoot_16 : decode cX2_hasRoot 16 = .ok (.invokestatic 255, 3) := by decide +kernel
theorem dX2_hasRoot_19 : decode cX2_hasRoot 19 = .ok (.imul, 1) := by decide +kernel
theorem dX2_hasRoot_20 : decode cX2_hasRoot 20 = .ok (.invokestatic 234, 3) := by decide +kernel
theorem dX2_hasRoot_23 : decode cX2_hasRoot 23 = .ok (.ior, 1) := by decide +kernel
theorem dX2_hasRoot_24 : decode cX2_hasRoot 24 = .ok (.istore_n 2, 1) := by decide +kernel
theorem dX2_hasRoot_25 : decode cX2_hasRoot 25 = .ok (.iinc 3 1, 3) := by decide +kernel
theorem dX2_hasRoot_28 : decode cX2_hasRoot 28 = .ok (.goto (-24), 3) := by decide +kernel
theorem dX2_hasRoot_31 : decode cX2_hasRoot 31 = .ok (.iload_n 2, 1) := by decide +kernel
theorem dX2_hasRoot_32 : decode cX2_hasRoot 32 = .ok (.iconst 0, 1) := by decide +kernel
theorem dX2_hasRoot_33 : decode cX2_hasRoot 33 = .ok (.invokestatic 251, 3) := by decide +kernel
theorem dX2_hasRoot_36 : decode cX2_hasRoot 36 = .ok (.ireturn, 1) := by decide +kernel
theorem dX2_changesOf_0 : decode cX2_changesOf 0 = .ok (.iconst 0, 1) := by decide +kernel
theorem dX2_changesOf_1 : decode cX2_changesOf 1 = .ok (.istore_n 2, 1) := by decide +kernel
theorem dX2_changesOf_2 : decode cX2_changesOf 2 = .ok (.iconst 0, 1) := by decide +kernel
theorem dX2_changesOf_3 : decode cX2_changesOf 3 = .ok (.istore_n 3, 1) := by decide +kernel
theorem dX2_changesOf_4 : decode cX2_changesOf 4 = .ok (.iconst 0, 1) := by decide +kernel
theorem dX2_changesOf_5 : decode cX2_changesOf 5 = .ok (.istore 4, 2) := by decide +kernel
theorem dX2_changesOf_7 : decode cX2_changesOf 7 = .ok (.iload 4, 2) := by decide +kernel
theorem dX2_changesOf_9 : decode cX2_changesOf 9 = .ok (.bipush 9, 2) := by decide +kernel
theorem dX2_changesOf_11 : decode cX2_changesOf 11 = .ok (.if_icmp .ge 43, 3) := by decide +kernel
theorem dX2_changesOf_14 : decode cX2_changesOf 14 = .ok (.aload_n 0, 1) := by decide +kernel
theorem dX2_changesOf_15 : decode cX2_changesOf 15 = .ok (.iload 4, 2) := by decide +kernel
theorem dX2_changesOf_17 : decode cX2_changesOf 17 = .ok (.iaload, 1) := by decide +kernel
theorem dX2_changesOf_18 : decode cX2_changesOf 18 = .ok (.iload_n 1, 1) := by decide +kernel
theorem dX2_changesOf_19 : decode cX2_changesOf 19 = .ok (.iload 4, 2) := by decide +kernel
theorem dX2_changesOf_21 : decode cX2_changesOf 21 = .ok (.invokestatic 255, 3) := by decide +kernel
theorem dX2_changesOf_24 : decode cX2_changesOf 24 = .ok (.imul, 1) := by decide +kernel
theorem dX2_changesOf_25 : decode cX2_changesOf 25 = .ok (.istore 5, 2) := by decide +kernel
theorem dX2_changesOf_27 : decode cX2_changesOf 27 = .ok (.iload 5, 2) := by decide +kernel
theorem dX2_changesOf_29 : decode cX2_changesOf 29 = .ok (.ifCond .eq 19, 3) := by decide +kernel
theorem dX2_changesOf_32 : decode cX2_changesOf 32 = .ok (.iload_n 3, 1) := by decide +kernel
theorem dX2_changesOf_33 : decode cX2_changesOf 33 = .ok (.ifCond .eq 12, 3) := by decide +kernel
theorem dX2_changesOf_36 : decode cX2_changesOf 36 = .ok (.iload 5, 2) := by decide +kernel
theorem dX2_changesOf_38 : decode cX2_changesOf 38 = .ok (.iload_n 3, 1) := by decide +kernel
theorem dX2_changesOf_39 : decode cX2_changesOf 39 = .ok (.if_icmp .eq 6, 3) := by decide +kernel
theorem dX2_changesOf_42 : decode cX2_changesOf 42 = .ok (.iinc 2 1, 3) := by decide +kernel
theorem dX2_changesOf_45 : decode cX2_changesOf 45 = .ok (.iload 5, 2) := by decide +kernel
theorem dX2_changesOf_47 : decode cX2_changesOf 47 = .ok (.istore_n 3, 1) := by decide +kernel
theorem dX2_changesOf_48 : decode cX2_changesOf 48 = .ok (.iinc 4 1, 3) := by decide +kernel
theorem dX2_changesOf_51 : decode cX2_changesOf 51 = .ok (.goto (-44), 3) := by decide +kernel
theorem dX2_changesOf_54 : decode cX2_changesOf 54 = .ok (.iload_n 2, 1) := by decide +kernel
theorem dX2_changesOf_55 : decode cX2_changesOf 55 = .ok (.ireturn, 1) := by decide +kernel
theorem dX2_zerosBelow_0 : decode cX2_zerosBelow 0 = .ok (.iconst 0, 1) := by decide +kernel
theorem dX2_zerosBelow_1 : decode cX2_zerosBelow 1 = .ok (.istore_n 1, 1) := by decide +kernel
theorem dX2_zerosBelow_2 : decode cX2_zerosBelow 2 = .ok (.iconst 0, 1) := by decide +kernel
theorem dX2_zerosBelow_3 : decode cX2_zerosBelow 3 = .ok (.istore_n 2, 1) := by decide +kernel
theorem dX2_zerosBelow_4 : decode cX2_zerosBelow 4 = .ok (.iload_n 2, 1) := by decide +kernel
theorem dX2_zerosBelow_5 : decode cX2_zerosBelow 5 = .ok (.bipush 9, 2) := by decide +kernel
theorem dX2_zerosBelow_7 : decode cX2_zerosBelow 7 = .ok (.if_icmp .ge 18, 3) := by decide +kernel
theorem dX2_zerosBelow_10 : decode cX2_zerosBelow 10 = .ok (.aload_n 0, 1) := by decide +kernel
theorem dX2_zerosBelow_11 : decode cX2_zerosBelow 11 = .ok (.iload_n 2, 1) := by decide +kernel
theorem dX2_zerosBelow_12 : decode cX2_zerosBelow 12 = .ok (.iaload, 1) := by decide +kernel
theorem dX2_zerosBelow_13 : decode cX2_zerosBelow 13 = .ok (.ifCond .ne 12, 3) := by decide +kernel
theorem dX2_zerosBelow_16 : decode cX2_zerosBelow 16 = .ok (.iinc 1 1, 3) := by decide +kernel
theorem dX2_zerosBelow_19 : decode cX2_zerosBelow 19 = .ok (.iinc 2 1, 3) := by decide +kernel
theorem dX2_zerosBelow_22 : decode cX2_zerosBelow 22 = .ok (.goto (-18), 3) := by decide +kernel
theorem dX2_zerosBelow_25 : decode cX2_zerosBelow 25 = .ok (.iload_n 1, 1) := by decide +kernel
theorem dX2_zerosBelow_26 : decode cX2_zerosBelow 26 = .ok (.ireturn, 1) := by decide +kernel
theorem dX2_countedTimes_0 : decode cX2_countedTimes 0 = .ok (.iload_n 1, 1) := by decide +kernel
theorem dX2_countedTimes_1 : decode cX2_countedTimes 1 = .ok (.ifCond .ne 10, 3) := by decide +kernel
theorem dX2_countedTimes_4 : decode cX2_countedTimes 4 = .ok (.aload_n 0, 1) := by decide +kernel
theorem dX2_countedTimes_5 : decode cX2_countedTimes 5 = .ok (.invokestatic 259, 3) := by decide +kernel
theorem dX2_countedTimes_8 : decode cX2_countedTimes 8 = .ok (.goto 8, 3) := by decide +kernel
theorem dX2_countedTimes_11 : decode cX2_countedTimes 11 = .ok (.aload_n 0, 1) := by decide +kernel
theorem dX2_countedTimes_12 : decode cX2_countedTimes 12 = .ok (.iload_n 1, 1) := by decide +kernel
theorem dX2_countedTimes_13 : decode cX2_countedTimes 13 = .ok (.invokestatic 158, 3) := by decide +kernel
theorem dX2_countedTimes_16 : decode cX2_countedTimes 16 = .ok (.ireturn, 1) := by decide +kernel
theorem dX2_shareOf_0 : decode cX2_shareOf 0 = .ok (.aload_n 0, 1) := by decide +kernel
theorem dX2_shareOf_1 : decode cX2_shareOf 1 = .ok (.invokestatic 80, 3) := by decide +kernel
theorem dX2_shareOf_4 : decode cX2_shareOf 4 = .ok (.istore_n 1, 1) := by decide +kernel
theorem dX2_shareOf_5 : decode cX2_shareOf 5 = .ok (.iload_n 1, 1) := by decide +kernel
theorem dX2_shareOf_6 : decode cX2_shareOf 6 = .ok (.ifCond .ne 5, 3) := by decide +kernel
theorem dX2_shareOf_9 : decode cX2_shareOf 9 = .ok (.dconst 1, 1) := by decide +kernel
theorem dX2_shareOf_10 : decode cX2_shareOf 10 = .ok (.dreturn, 1) := by decide +kernel
theorem dX2_shareOf_11 : decode cX2_shareOf 11 = .ok (.aload_n 0, 1) := by decide +kernel
theorem dX2_shareOf_12 : decode cX2_shareOf 12 = .ok (.iconst 1, 1) := by decide +kernel
theorem dX2_shareOf_13 : decode cX2_shareOf 13 = .ok (.invokestatic 168, 3) := by decide +kernel
theorem dX2_shareOf_16 : decode cX2_shareOf 16 = .ok (.aload_n 0, 1) := by decide +kernel
theorem dX2_shareOf_17 : decode cX2_shareOf 17 = .ok (.iconst (-1), 1) := by decide +kernel
theorem dX2_shareOf_18 : decode cX2_shareOf 18 = .ok (.invokestatic 168, 3) := by decide +kernel
theorem dX2_shareOf_21 : decode cX2_shareOf 21 = .ok (.iadd, 1) := by decide +kernel
theorem dX2_shareOf_22 : decode cX2_shareOf 22 = .ok (.aload_n 0, 1) := by decide +kernel
theorem dX2_shareOf_23 : decode cX2_shareOf 23 = .ok (.iconst 0, 1) := by decide +kernel
theorem dX2_shareOf_24 : decode cX2_shareOf 24 = .ok (.invokestatic 168, 3) := by decide +kernel
theorem dX2_shareOf_27 : decode cX2_shareOf 27 = .ok (.iadd, 1) := by decide +kernel
theorem dX2_shareOf_28 : decode cX2_shareOf 28 = .ok (.istore_n 2, 1) := by decide +kernel
theorem dX2_shareOf_29 : decode cX2_shareOf 29 = .ok (.iload_n 2, 1) := by decide +kernel
theorem dX2_shareOf_30 : decode cX2_shareOf 30 = .ok (.i2d, 1) := by decide +kernel
theorem dX2_shareOf_31 : decode cX2_shareOf 31 = .ok (.iload_n 1, 1) := by decide +kernel
theorem dX2_shareOf_32 : decode cX2_shareOf 32 = .ok (.i2d, 1) := by decide +kernel
theorem dX2_shareOf_33 : decode cX2_shareOf 33 = .ok (.ddiv, 1) := by decide +kernel
theorem dX2_shareOf_34 : decode cX2_shareOf 34 = .ok (.dreturn, 1) := by decide +kernel
theorem dX2_quotientsOf_0 : decode cX2_quotientsOf 0 = .ok (.aload_n 0, 1) := by decide +kernel
theorem dX2_quotientsOf_1 : decode cX2_quotientsOf 1 = .ok (.getfield 44, 3) := by decide +kernel
theorem dX2_quotientsOf_4 : decode cX2_quotientsOf 4 = .ok (.iconst 0, 1) := by decide +kernel
theorem dX2_quotientsOf_5 : decode cX2_quotientsOf 5 = .ok (.aaload, 1) := by decide +kernel
theorem dX2_quotientsOf_6 : decode cX2_quotientsOf 6 = .ok (.astore_n 3, 1) := by decide +kernel
theorem dX2_quotientsOf_7 : decode cX2_quotientsOf 7 = .ok (.aload_n 3, 1) := by decide +kernel
theorem dX2_quotientsOf_8 : decode cX2_quotientsOf 8 = .ok (.aload_n 1, 1) := by decide +kernel
theorem dX2_quotientsOf_9 : decode cX2_quotientsOf 9 = .ok (.iload_n 2, 1) := by decide +kernel
theorem dX2_quotientsOf_10 : decode cX2_quotientsOf 10 = .ok (.invokevirtual 262, 3) := by decide +kernel
theorem dX2_quotientsOf_13 : decode cX2_quotientsOf 13 = .ok (.iconst 0, 1) := by decide +kernel
theorem dX2_quotientsOf_14 : decode cX2_quotientsOf 14 = .ok (.istore 4, 2) := by decide +kernel
theorem dX2_quotientsOf_16 : decode cX2_quotientsOf 16 = .ok (.iconst 0, 1) := by decide +kernel
theorem dX2_quotientsOf_17 : decode cX2_quotientsOf 17 = .ok (.istore 5, 2) := by decide +kernel
theorem dX2_quotientsOf_19 : decode cX2_quotientsOf 19 = .ok (.iload 5, 2) := by decide +kernel
theorem dX2_quotientsOf_21 : decode cX2_quotientsOf 21 = .ok (.ldc_w 266, 3) := by decide +kernel
theorem dX2_quotientsOf_24 : decode cX2_quotientsOf 24 = .ok (.if_icmp .ge 19, 3) := by decide +kernel
theorem dX2_quotientsOf_27 : decode cX2_quotientsOf 27 = .ok (.aload_n 3, 1) := by decide +kernel
theorem dX2_quotientsOf_28 : decode cX2_quotientsOf 28 = .ok (.invokevirtual 267, 3) := by decide +kernel
theorem dX2_quotientsOf_31 : decode cX2_quotientsOf 31 = .ok (.ifCond .eq 12, 3) := by decide +kernel
theorem dX2_quotientsOf_34 : decode cX2_quotientsOf 34 = .ok (.iinc 4 1, 3) := by decide +kernel
theorem dX2_quotientsOf_37 : decode cX2_quotientsOf 37 = .ok (.iinc 5 1, 3) := by decide +kernel
theorem dX2_quotientsOf_40 : decode cX2_quotientsOf 40 = .ok (.goto (-21), 3) := by decide +kernel
theorem dX2_quotientsOf_43 : decode cX2_quotientsOf 43 = .ok (.iload 4, 2) := by decide +kernel
theorem dX2_quotientsOf_45 : decode cX2_quotientsOf 45 = .ok (.ireturn, 1) := by decide +kernel
theorem dX2_bestForm_0 : decode cX2_bestForm 0 = .ok (.iload_n 1, 1) := by decide +kernel
theorem dX2_bestForm_1 : decode cX2_bestForm 1 = .ok (.ifCond .ne 8, 3) := by decide +kernel
theorem dX2_bestForm_4 : decode cX2_bestForm 4 = .ok (.bipush (-9), 2) := by decide +kernel
theorem dX2_bestForm_6 : decode cX2_bestForm 6 = .ok (.goto 15, 3) := by decide +kernel
theorem dX2_bestForm_9 : decode cX2_bestForm 9 = .ok (.aload_n 0, 1) := by decide +kernel
theorem dX2_bestForm_10 : decode cX2_bestForm 10 = .ok (.getfield 44, 3) := by decide +kernel
theorem dX2_bestForm_13 : decode cX2_bestForm 13 = .ok (.iconst 0, 1) := by decide +kernel
theorem dX2_bestForm_14 : decode cX2_bestForm 14 = .ok (.aaload, 1) := by decide +kernel
theorem dX2_bestForm_15 : decode cX2_bestForm 15 = .ok (.getfield 94, 3) := by decide +kernel
theorem dX2_bestForm_18 : decode cX2_bestForm 18 = .ok (.invokestatic 162, 3) := by decide +kernel
theorem dX2_bestForm_21 : decode cX2_bestForm 21 = .ok (.ireturn, 1) := by decide +kernel
theorem dX2_tryQuotients_0 : decode cX2_tryQuotients 0 = .ok (.iload 4, 2) := by decide +kernel
theorem dX2_tryQuotients_2 : decode cX2_tryQuotients 2 = .ok (.aload_n 2, 1) := by decide +kernel
theorem dX2_tryQuotients_3 : decode cX2_tryQuotients 3 = .ok (.arraylength, 1) := by decide +kernel
theorem dX2_tryQuotients_4 : decode cX2_tryQuotients 4 = .ok (.if_icmp .lt 5, 3) := by decide +kernel
theorem dX2_tryQuotients_7 : decode cX2_tryQuotients 7 = .ok (.iconst 0, 1) := by decide +kernel
theorem dX2_tryQuotients_8 : decode cX2_tryQuotients 8 = .ok (.ireturn, 1) := by decide +kernel
theorem dX2_tryQuotients_9 : decode cX2_tryQuotients 9 = .ok (.iconst 0, 1) := by decide +kernel
theorem dX2_tryQuotients_10 : decode cX2_tryQuotients 10 = .ok (.istore 5, 2) := by decide +kernel
theorem dX2_tryQuotients_12 : decode cX2_tryQuotients 12 = .ok (.aload_n 2, 1) := by decide +kernel
theorem dX2_tryQuotients_13 : decode cX2_tryQuotients 13 = .ok (.iload 4, 2) := by decide +kernel
theorem dX2_tryQuotients_15 : decode cX2_tryQuotients 15 = .ok (.aaload, 1) := by decide +kernel
theorem dX2_tryQuotients_16 : decode cX2_tryQuotients 16 = .ok (.astore 6, 2) := by decide +kernel
theorem dX2_tryQuotients_18 : decode cX2_tryQuotients 18 = .ok (.aload 6, 2) := by decide +kernel
theorem dX2_tryQuotients_20 : decode cX2_tryQuotients 20 = .ok (.aload_n 0, 1) := by decide +kernel
theorem dX2_tryQuotients_21 : decode cX2_tryQuotients 21 = .ok (.iload_n 1, 1) := by decide +kernel
theorem dX2_tryQuotients_22 : decode cX2_tryQuotients 22 = .ok (.invokevirtual 262, 3) := by decide +kernel
theorem dX2_tryQuotients_25 : decode cX2_tryQuotients 25 = .ok (.iconst 0, 1) := by decide +kernel
theorem dX2_tryQuotients_26 : decode cX2_tryQuotients 26 = .ok (.istore 7, 2) := by decide +kernel
theorem dX2_tryQuotients_28 : decode cX2_tryQuotients 28 = .ok (.iload 7, 2) := by decide +kernel
theorem dX2_tryQuotients_30 : decode cX2_tryQuotients 30 = .ok (.ldc_w 266, 3) := by decide +kernel
theorem dX2_tryQuotients_33 : decode cX2_tryQuotients 33 = .ok (.if_icmp .ge 88, 3) := by decide +kernel
theorem dX2_tryQuotients_36 : decode cX2_tryQuotients 36 = .ok (.aload 6, 2) := by decide +kernel
theorem dX2_tryQuotients_38 : decode cX2_tryQuotients 38 = .ok (.invokevirtual 267, 3) := by decide +kernel
theorem dX2_tryQuotients_41 : decode cX2_tryQuotients 41 = .ok (.ifCond .eq 80, 3) := by decide +kernel
theorem dX2_tryQuotients_44 : decode cX2_tryQuotients 44 = .ok (.aload 6, 2) := by decide +kernel
theorem dX2_tryQuotients_46 : decode cX2_tryQuotients 46 = .ok (.getfield 271, 3) := by decide +kernel
theorem dX2_tryQuotients_49 : decode cX2_tryQuotients 49 = .ok (.invokestatic 162, 3) := by decide +kernel
theorem dX2_tryQuotients_52 : decode cX2_tryQuotients 52 = .ok (.istore 8, 2) := by decide +kernel
theorem dX2_tryQuotients_54 : decode cX2_tryQuotients 54 = .ok (.aload_n 3, 1) := by decide +kernel
theorem dX2_tryQuotients_55 : decode cX2_tryQuotients 55 = .ok (.iload 8, 2) := by decide +kernel
theorem dX2_tryQuotients_57 : decode cX2_tryQuotients 57 = .ok (.iload_n 1, 1) := by decide +kernel
theorem dX2_tryQuotients_58 : decode cX2_tryQuotients 58 = .ok (.invokevirtual 274, 3) := by decide +kernel
theorem dX2_tryQuotients_61 : decode cX2_tryQuotients 61 = .ok (.istore 9, 2) := by decide +kernel
theorem dX2_tryQuotients_63 : decode cX2_tryQuotients 63 = .ok (.iload 9, 2) := by decide +kernel
theorem dX2_tryQuotients_65 : decode cX2_tryQuotients 65 = .ok (.iconst (-1), 1) := by decide +kernel
theorem dX2_tryQuotients_66 : decode cX2_tryQuotients 66 = .ok (.if_icmp .ne 29, 3) := by decide +kernel
theorem dX2_tryQuotients_69 : decode cX2_tryQuotients 69 = .ok (.aload 6, 2) := by decide +kernel
theorem dX2_tryQuotients_71 : decode cX2_tryQuotients 71 = .ok (.getfield 271, 3) := by decide +kernel
theorem dX2_tryQuotients_74 : decode cX2_tryQuotients 74 = .ok (.iload_n 1, 1) := by decide +kernel
theorem dX2_tryQuotients_75 : decode cX2_tryQuotients 75 = .ok (.aload_n 2, 1) := by decide +kernel
theorem dX2_tryQuotients_76 : decode cX2_tryQuotients 76 = .ok (.aload_n 3, 1) := by decide +kernel
theorem dX2_tryQuotients_77 : decode cX2_tryQuotients 77 = .ok (.iload 4, 2) := by decide +kernel
theorem dX2_tryQuotients_79 : decode cX2_tryQuotients 79 = .ok (.iconst 1, 1) := by decide +kernel
theorem dX2_tryQuotients_80 : decode cX2_tryQuotients 80 = .ok (.iadd, 1) := by decide +kernel
theorem dX2_tryQuotients_81 : decode cX2_tryQuotients 81 = .ok (.invokestatic 90, 3) := by decide +kernel
theorem dX2_tryQuotients_84 : decode cX2_tryQuotients 84 = .ok (.istore 9, 2) := by decide +kernel
theorem dX2_tryQuotients_86 : decode cX2_tryQuotients 86 = .ok (.aload_n 3, 1) := by decide +kernel
theorem dX2_tryQuotients_87 : decode cX2_tryQuotients 87 = .ok (.iload 8, 2) := by decide +kernel
theorem dX2_tryQuotients_89 : decode cX2_tryQuotients 89 = .ok (.iload_n 1, 1) := by decide +kernel
theorem dX2_tryQuotients_90 : decode cX2_tryQuotients 90 = .ok (.iload 9, 2) := by decide +kernel
theorem dX2_tryQuotients_92 : decode cX2_tryQuotients 92 = .ok (.invokevirtual 277, 3) := by decide +kernel
theorem dX2_tryQuotients_95 : decode cX2_tryQuotients 95 = .ok (.iload 9, 2) := by decide +kernel
theorem dX2_tryQuotients_97 : decode cX2_tryQuotients 97 = .ok (.iconst 1, 1) := by decide +kernel
theorem dX2_tryQuotients_98 : decode cX2_tryQuotients 98 = .ok (.iadd, 1) := by decide +kernel
theorem dX2_tryQuotients_99 : decode cX2_tryQuotients 99 = .ok (.iload 5, 2) := by decide +kernel
theorem dX2_tryQuotients_101 : decode cX2_tryQuotients 101 = .ok (.if_icmp .le 14, 3) := by decide +kernel
theorem dX2_tryQuotients_104 : decode cX2_tryQuotients 104 = .ok (.iload 9, 2) := by decide +kernel
theorem dX2_tryQuotients_106 : decode cX2_tryQuotients 106 = .ok (.iconst 1, 1) := by decide +kernel
theorem dX2_tryQuotients_107 : decode cX2_tryQuotients 107 = .ok (.iadd, 1) := by decide +kernel
theorem dX2_tryQuotients_108 : decode cX2_tryQuotients 108 = .ok (.istore 5, 2) := by decide +kernel
theorem dX2_tryQuotients_110 : decode cX2_tryQuotients 110 = .ok (.aload 6, 2) := by decide +kernel
theorem dX2_tryQuotients_112 : decode cX2_tryQuotients 112 = .ok (.invokevirtual 281, 3) := by decide +kernel
theorem dX2_tryQuotients_115 : decode cX2_tryQuotients 115 = .ok (.iinc 7 1, 3) := by decide +kernel
theorem dX2_tryQuotients_118 : decode cX2_tryQuotients 118 = .ok (.goto (-90), 3) := by decide +kernel
theorem dX2_tryQuotients_121 : decode cX2_tryQuotients 121 = .ok (.iload 5, 2) := by decide +kernel
theorem dX2_tryQuotients_123 : decode cX2_tryQuotients 123 = .ok (.ireturn, 1) := by decide +kernel
theorem dX2_expandWhole_0 : decode cX2_expandWhole 0 = .ok (.iconst 0, 1) := by decide +kernel
theorem dX2_expandWhole_1 : decode cX2_expandWhole 1 = .ok (.istore_n 1, 1) := by decide +kernel
theorem dX2_expandWhole_2 : decode cX2_expandWhole 2 = .ok (.iload_n 1, 1) := by decide +kernel
theorem dX2_expandWhole_3 : decode cX2_expandWhole 3 = .ok (.bipush 9, 2) := by decide +kernel
theorem dX2_expandWhole_5 : decode cX2_expandWhole 5 = .ok (.if_icmp .ge 16, 3) := by decide +kernel
theorem dX2_expandWhole_8 : decode cX2_expandWhole 8 = .ok (.aload_n 0, 1) := by decide +kernel
theorem dX2_expandWhole_9 : decode cX2_expandWhole 9 = .ok (.getfield 38, 3) := by decide +kernel
theorem dX2_expandWhole_12 : decode cX2_expandWhole 12 = .ok (.iload_n 1, 1) := by decide +kernel
theorem dX2_expandWhole_13 : decode cX2_expandWhole 13 = .ok (.lconst 0, 1) := by decide +kernel
theorem dX2_expandWhole_14 : decode cX2_expandWhole 14 = .ok (.lastore, 1) := by decide +kernel
theorem dX2_expandWhole_15 : decode cX2_expandWhole 15 = .ok (.iinc 1 1, 3) := by decide +kernel
theorem dX2_expandWhole_18 : decode cX2_expandWhole 18 = .ok (.goto (-16), 3) := by decide +kernel
theorem dX2_expandWhole_21 : decode cX2_expandWhole 21 = .ok (.aload_n 0, 1) := by decide +kernel
theorem dX2_expandWhole_22 : decode cX2_expandWhole 22 = .ok (.getfield 38, 3) := by decide +kernel
theorem dX2_expandWhole_25 : decode cX2_expandWhole 25 = .ok (.iconst 0, 1) := by decide +kernel
theorem dX2_expandWhole_26 : decode cX2_expandWhole 26 = .ok (.lconst 1, 1) := by decide +kernel
theorem dX2_expandWhole_27 : decode cX2_expandWhole 27 = .ok (.lastore, 1) := by decide +kernel
theorem dX2_expandWhole_28 : decode cX2_expandWhole 28 = .ok (.iconst 0, 1) := by decide +kernel
theorem dX2_expandWhole_29 : decode cX2_expandWhole 29 = .ok (.istore_n 1, 1) := by decide +kernel
theorem dX2_expandWhole_30 : decode cX2_expandWhole 30 = .ok (.iload_n 1, 1) := by decide +kernel
theorem dX2_expandWhole_31 : decode cX2_expandWhole 31 = .ok (.aload_n 0, 1) := by decide +kernel
theorem dX2_expandWhole_32 : decode cX2_expandWhole 32 = .ok (.getfield 12, 3) := by decide +kernel
theorem dX2_expandWhole_35 : decode cX2_expandWhole 35 = .ok (.getfield 107, 3) := by decide +kernel
theorem dX2_expandWhole_38 : decode cX2_expandWhole 38 = .ok (.if_icmp .ge 85, 3) := by decide +kernel
theorem dX2_expandWhole_41 : decode cX2_expandWhole 41 = .ok (.iload_n 1, 1) := by decide +kernel
theorem dX2_expandWhole_42 : decode cX2_expandWhole 42 = .ok (.bipush 8, 2) := by decide +kernel
theorem dX2_expandWhole_44 : decode cX2_expandWhole 44 = .ok (.if_icmp .ge 79, 3) := by decide +kernel
theorem dX2_expandWhole_47 : decode cX2_expandWhole 47 = .ok (.iload_n 1, 1) := by decide +kernel
theorem dX2_expandWhole_48 : decode cX2_expandWhole 48 = .ok (.iconst 1, 1) := by decide +kernel
theorem dX2_expandWhole_49 : decode cX2_expandWhole 49 = .ok (.iadd, 1) := by decide +kernel
theorem dX2_expandWhole_50 : decode cX2_expandWhole 50 = .ok (.istore_n 2, 1) := by decide +kernel
theorem dX2_expandWhole_51 : decode cX2_expandWhole 51 = .ok (.iload_n 2, 1) := by decide +kernel
theorem dX2_expandWhole_52 : decode cX2_expandWhole 52 = .ok (.ifCond .le 41, 3) := by decide +kernel
theorem dX2_expandWhole_55 : decode cX2_expandWhole 55 = .ok (.aload_n 0, 1) := by decide +kernel
theorem dX2_expandWhole_56 : decode cX2_expandWhole 56 = .ok (.getfield 38, 3) := by decide +kernel
theorem dX2_expandWhole_59 : decode cX2_expandWhole 59 = .ok (.iload_n 2, 1) := by decide +kernel
theorem dX2_expandWhole_60 : decode cX2_expandWhole 60 = .ok (.aload_n 0, 1) := by decide +kernel
theorem dX2_expandWhole_61 : decode cX2_expandWhole 61 = .ok (.getfield 38, 3) := by decide +kernel
theorem dX2_expandWhole_64 : decode cX2_expandWhole 64 = .ok (.iload_n 2, 1) := by decide +kernel
theorem dX2_expandWhole_65 : decode cX2_expandWhole 65 = .ok (.iconst 1, 1) := by decide +kernel
theorem dX2_expandWhole_66 : decode cX2_expandWhole 66 = .ok (.isub, 1) := by decide +kernel
theorem dX2_expandWhole_67 : decode cX2_expandWhole 67 = .ok (.laload, 1) := by decide +kernel
theorem dX2_expandWhole_68 : decode cX2_expandWhole 68 = .ok (.aload_n 0, 1) := by decide +kernel
theorem dX2_expandWhole_69 : decode cX2_expandWhole 69 = .ok (.getfield 12, 3) := by decide +kernel
theorem dX2_expandWhole_72 : decode cX2_expandWhole 72 = .ok (.getfield 110, 3) := by decide +kernel
theorem dX2_expandWhole_75 : decode cX2_expandWhole 75 = .ok (.iload_n 1, 1) := by decide +kernel
theorem dX2_expandWhole_76 : decode cX2_expandWhole 76 = .ok (.iaload, 1) := by decide +kernel
theorem dX2_expandWhole_77 : decode cX2_expandWhole 77 = .ok (.i2l, 1) := by decide +kernel
theorem dX2_expandWhole_78 : decode cX2_expandWhole 78 = .ok (.aload_n 0, 1) := by decide +kernel
theorem dX2_expandWhole_79 : decode cX2_expandWhole 79 = .ok (.getfield 38, 3) := by decide +kernel
theorem dX2_expandWhole_82 : decode cX2_expandWhole 82 = .ok (.iload_n 2, 1) := by decide +kernel
theorem dX2_expandWhole_83 : decode cX2_expandWhole 83 = .ok (.laload, 1) := by decide +kernel
theorem dX2_expandWhole_84 : decode cX2_expandWhole 84 = .ok (.lmul, 1) := by decide +kernel
theorem dX2_expandWhole_85 : decode cX2_expandWhole 85 = .ok (.lsub, 1) := by decide +kernel
theorem dX2_expandWhole_86 : decode cX2_expandWhole 86 = .ok (.lastore, 1) := by decide +kernel
theorem dX2_expandWhole_87 : decode cX2_expandWhole 87 = .ok (.iinc 2 (-1), 3) := by decide +kernel
theorem dX2_expandWhole_90 : decode cX2_expandWhole 90 = .ok (.goto (-39), 3) := by decide +kernel
theorem dX2_expandWhole_93 : decode cX2_expandWhole 93 = .ok (.aload_n 0, 1) := by decide +kernel
theorem dX2_expandWhole_94 : decode cX2_expandWhole 94 = .ok (.getfield 38, 3) := by decide +kernel
theorem dX2_expandWhole_97 : decode cX2_expandWhole 97 = .ok (.iconst 0, 1) := by decide +kernel
theorem dX2_expandWhole_98 : decode cX2_expandWhole 98 = .ok (.aload_n 0, 1) := by decide +kernel
theorem dX2_expandWhole_99 : decode cX2_expandWhole 99 = .ok (.getfield 12, 3) := by decide +kernel
theorem dX2_expandWhole_102 : decode cX2_expandWhole 102 = .ok (.getfield 110, 3) := by decide +kernel
theorem dX2_expandWhole_105 : decode cX2_expandWhole 105 = .ok (.iload_n 1, 1) := by decide +kernel
theorem dX2_expandWhole_106 : decode cX2_expandWhole 106 = .ok (.iaload, 1) := by decide +kernel
theorem dX2_expandWhole_107 : decode cX2_expandWhole 107 = .ok (.ineg, 1) := by decide +kernel
theorem dX2_expandWhole_108 : decode cX2_expandWhole 108 = .ok (.i2l, 1) := by decide +kernel
theorem dX2_expandWhole_109 : decode cX2_expandWhole 109 = .ok (.aload_n 0, 1) := by decide +kernel
theorem dX2_expandWhole_110 : decode cX2_expandWhole 110 = .ok (.getfield 38, 3) := by decide +kernel
theorem dX2_expandWhole_113 : decode cX2_expandWhole 113 = .ok (.iconst 0, 1) := by decide +kernel
theorem dX2_expandWhole_114 : decode cX2_expandWhole 114 = .ok (.laload, 1) := by decide +kernel
theorem dX2_expandWhole_115 : decode cX2_expandWhole 115 = .ok (.lmul, 1) := by decide +kernel
theorem dX2_expandWhole_116 : decode cX2_expandWhole 116 = .ok (.lastore, 1) := by decide +kernel
theorem dX2_expandWhole_117 : decode cX2_expandWhole 117 = .ok (.iinc 1 1, 3) := by decide +kernel
theorem dX2_expandWhole_120 : decode cX2_expandWhole 120 = .ok (.goto (-90), 3) := by decide +kernel
theorem dX2_expandWhole_123 : decode cX2_expandWhole 123 = .ok (.return_, 1) := by decide +kernel
theorem dX2_rootsOfSign_0 : decode cX2_rootsOfSign 0 = .ok (.iconst 0, 1) := by decide +kernel
theorem dX2_rootsOfSign_1 : decode cX2_rootsOfSign 1 = .ok (.istore_n 2, 1) := by decide +kernel
theorem dX2_rootsOfSign_2 : decode cX2_rootsOfSign 2 = .ok (.iconst 0, 1) := by decide +kernel
theorem dX2_rootsOfSign_3 : decode cX2_rootsOfSign 3 = .ok (.istore_n 3, 1) := by decide +kernel
theorem dX2_rootsOfSign_4 : decode cX2_rootsOfSign 4 = .ok (.iload_n 3, 1) := by decide +kernel
theorem dX2_rootsOfSign_5 : decode cX2_rootsOfSign 5 = .ok (.aload_n 0, 1) := by decide +kernel
theorem dX2_rootsOfSign_6 : decode cX2_rootsOfSign 6 = .ok (.getfield 12, 3) := by decide +kernel
theorem dX2_rootsOfSign_9 : decode cX2_rootsOfSign 9 = .ok (.getfield 107, 3) := by decide +kernel
theorem dX2_rootsOfSign_12 : decode cX2_rootsOfSign 12 = .ok (.if_icmp .ge 35, 3) := by decide +kernel
theorem dX2_rootsOfSign_15 : decode cX2_rootsOfSign 15 = .ok (.iload_n 3, 1) := by decide +kernel
theorem dX2_rootsOfSign_16 : decode cX2_rootsOfSign 16 = .ok (.bipush 8, 2) := by decide +kernel
theorem dX2_rootsOfSign_18 : decode cX2_rootsOfSign 18 = .ok (.if_icmp .ge 29, 3) := by decide +kernel
theorem dX2_rootsOfSign_21 : decode cX2_rootsOfSign 21 = .ok (.aload_n 0, 1) := by decide +kernel
theorem dX2_rootsOfSign_22 : decode cX2_rootsOfSign 22 = .ok (.getfield 12, 3) := by decide +kernel
theorem dX2_rootsOfSign_25 : decode cX2_rootsOfSign 25 = .ok (.getfield 110, 3) := by decide +kernel
theorem dX2_rootsOfSign_28 : decode cX2_rootsOfSign 28 = .ok (.iload_n 3, 1) := by decide +kernel
theorem dX2_rootsOfSign_29 : decode cX2_rootsOfSign 29 = .ok (.iaload, 1) := by decide +kernel
theorem dX2_rootsOfSign_30 : decode cX2_rootsOfSign 30 = .ok (.i2l, 1) := by decide +kernel
theorem dX2_rootsOfSign_31 : decode cX2_rootsOfSign 31 = .ok (.invokestatic 116, 3) := by decide +kernel
theorem dX2_rootsOfSign_34 : decode cX2_rootsOfSign 34 = .ok (.iload_n 1, 1) := by decide +kernel
theorem dX2_rootsOfSign_35 : decode cX2_rootsOfSign 35 = .ok (.if_icmp .ne 6, 3) := by decide +kernel
theorem dX2_rootsOfSign_38 : decode cX2_rootsOfSign 38 = .ok (.iinc 2 1, 3) := by decide +kernel
theorem dX2_rootsOfSign_41 : decode cX2_rootsOfSign 41 = .ok (.iinc 3 1, 3) := by decide +kernel
theorem dX2_rootsOfSign_44 : decode cX2_rootsOfSign 44 = .ok (.goto (-40), 3) := by decide +kernel
theorem dX2_rootsOfSign_47 : decode cX2_rootsOfSign 47 = .ok (.iload_n 2, 1) := by decide +kernel
theorem dX2_rootsOfSign_48 : decode cX2_rootsOfSign 48 = .ok (.ireturn, 1) := by decide +kernel
theorem dX2_degreesTogether_0 : decode cX2_degreesTogether 0 = .ok (.iconst 0, 1) := by decide +kernel
theorem dX2_degreesTogether_1 : decode cX2_degreesTogether 1 = .ok (.istore_n 1, 1) := by decide +kernel
theorem dX2_degreesTogether_2 : decode cX2_degreesTogether 2 = .ok (.iconst 0, 1) := by decide +kernel
theorem dX2_degreesTogether_3 : decode cX2_degreesTogether 3 = .ok (.istore_n 2, 1) := by decide +kernel
theorem dX2_degreesTogether_4 : decode cX2_degreesTogether 4 = .ok (.iload_n 2, 1) := by decide +kernel
theorem dX2_degreesTogether_5 : decode cX2_degreesTogether 5 = .ok (.iconst 5, 1) := by decide +kernel
theorem dX2_degreesTogether_6 : decode cX2_degreesTogether 6 = .ok (.if_icmp .ge 24, 3) := by decide +kernel
theorem dX2_degreesTogether_9 : decode cX2_degreesTogether 9 = .ok (.iload_n 1, 1) := by decide +kernel
theorem dX2_degreesTogether_10 : decode cX2_degreesTogether 10 = .ok (.aload_n 0, 1) := by decide +kernel
theorem dX2_degreesTogether_11 : decode cX2_degreesTogether 11 = .ok (.getfield 12, 3) := by decide +kernel
theorem dX2_degreesTogether_14 : decode cX2_degreesTogether 14 = .ok (.getfield 69, 3) := by decide +kernel
theorem dX2_degreesTogether_17 : decode cX2_degreesTogether 17 = .ok (.iload_n 2, 1) := by decide +kernel
theorem dX2_degreesTogether_18 : decode cX2_degreesTogether 18 = .ok (.aaload, 1) := by decide +kernel
theorem dX2_degreesTogether_19 : decode cX2_degreesTogether 19 = .ok (.invokestatic 80, 3) := by decide +kernel
theorem dX2_degreesTogether_22 : decode cX2_degreesTogether 22 = .ok (.iadd, 1) := by decide +kernel
theorem dX2_degreesTogether_23 : decode cX2_degreesTogether 23 = .ok (.istore_n 1, 1) := by decide +kernel
theorem dX2_degreesTogether_24 : decode cX2_degreesTogether 24 = .ok (.iinc 2 1, 3) := by decide +kernel
theorem dX2_degreesTogether_27 : decode cX2_degreesTogether 27 = .ok (.goto (-23), 3) := by decide +kernel
theorem dX2_degreesTogether_30 : decode cX2_degreesTogether 30 = .ok (.iload_n 1, 1) := by decide +kernel
theorem dX2_degreesTogether_31 : decode cX2_degreesTogether 31 = .ok (.ireturn, 1) := by decide +kernel
theorem dX2_withRootOne_0 : decode cX2_withRootOne 0 = .ok (.iconst 0, 1) := by decide +kernel
theorem dX2_withRootOne_1 : decode cX2_withRootOne 1 = .ok (.istore_n 1, 1) := by decide +kernel
theorem dX2_withRootOne_2 : decode cX2_withRootOne 2 = .ok (.iconst 0, 1) := by decide +kernel
theorem dX2_withRootOne_3 : decode cX2_withRootOne 3 = .ok (.istore_n 2, 1) := by decide +kernel
theorem dX2_withRootOne_4 : decode cX2_withRootOne 4 = .ok (.iload_n 2, 1) := by decide +kernel
theorem dX2_withRootOne_5 : decode cX2_withRootOne 5 = .ok (.iconst 5, 1) := by decide +kernel
theorem dX2_withRootOne_6 : decode cX2_withRootOne 6 = .ok (.if_icmp .ge 28, 3) := by decide +kernel
theorem dX2_withRootOne_9 : decode cX2_withRootOne 9 = .ok (.aload_n 0, 1) := by decide +kernel
theorem dX2_withRootOne_10 : decode cX2_withRootOne 10 = .ok (.getfield 12, 3) := by decide +kernel
theorem dX2_withRootOne_13 : decode cX2_withRootOne 13 = .ok (.getfield 69, 3) := by decide +kernel
theorem dX2_withRootOne_16 : decode cX2_withRootOne 16 = .ok (.iload_n 2, 1) := by decide +kernel
theorem dX2_withRootOne_17 : decode cX2_withRootOne 17 = .ok (.aaload, 1) := by decide +kernel
theorem dX2_withRootOne_18 : decode cX2_withRootOne 18 = .ok (.iconst 1, 1) := by decide +kernel
theorem dX2_withRootOne_19 : decode cX2_withRootOne 19 = .ok (.invokestatic 165, 3) := by decide +kernel
theorem dX2_withRootOne_22 : decode cX2_withRootOne 22 = .ok (.ifCond .eq 6, 3) := by decide +kernel
theorem dX2_withRootOne_25 : decode cX2_withRootOne 25 = .ok (.iinc 1 1, 3) := by decide +kernel
theorem dX2_withRootOne_28 : decode cX2_withRootOne 28 = .ok (.iinc 2 1, 3) := by decide +kernel
theorem dX2_withRootOne_31 : decode cX2_withRootOne 31 = .ok (.goto (-27), 3) := by decide +kernel
theorem dX2_withRootOne_34 : decode cX2_withRootOne 34 = .ok (.iload_n 1, 1) := by decide +kernel
theorem dX2_withRootOne_35 : decode cX2_withRootOne 35 = .ok (.ireturn, 1) := by decide +kernel
