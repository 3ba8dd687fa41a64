theorem dX3_init_0 : decode cX3_init 0 = .ok (.aload_n 0, 1) := by decide +kernel
theorem dX3_init_1 : decode cX3_init 1 = .ok (.invokespecial 1, 3) := by decide +kernel
theorem dX3_init_4 : decode cX3_init 4 = .ok (.aload_n 0, 1) := by decide +kernel
theorem dX3_init_5 : decode cX3_init 5 = .ok (.bipush 56, 2) := by decide +kernel
theorem dX3_init_7 : decode cX3_init 7 = .ok (.newarray .int, 2) := by decide +kernel
theorem dX3_init_9 : decode cX3_init 9 = .ok (.putfield 7, 3) := by decide +kernel
theorem dX3_init_12 : decode cX3_init 12 = .ok (.aload_n 0, 1) := by decide +kernel
theorem dX3_init_13 : decode cX3_init 13 = .ok (.sipush 336, 3) := by decide +kernel
theorem dX3_init_16 : decode cX3_init 16 = .ok (.newarray .int, 2) := by decide +kernel
theorem dX3_init_18 : decode cX3_init 18 = .ok (.putfield 13, 3) := by decide +kernel
theorem dX3_init_21 : decode cX3_init 21 = .ok (.aload_n 0, 1) := by decide +kernel
theorem dX3_init_22 : decode cX3_init 22 = .ok (.bipush 112, 2) := by decide +kernel
theorem dX3_init_24 : decode cX3_init 24 = .ok (.newarray .int, 2) := by decide +kernel
theorem dX3_init_26 : decode cX3_init 26 = .ok (.putfield 16, 3) := by decide +kernel
theorem dX3_init_29 : decode cX3_init 29 = .ok (.aload_n 0, 1) := by decide +kernel
theorem dX3_init_30 : decode cX3_init 30 = .ok (.iconst 2, 1) := by decide +kernel
theorem dX3_init_31 : decode cX3_init 31 = .ok (.newarray .boolean, 2) := by decide +kernel
theorem dX3_init_33 : decode cX3_init 33 = .ok (.putfield 19, 3) := by decide +kernel
theorem dX3_init_36 : decode cX3_init 36 = .ok (.aload_n 0, 1) := by decide +kernel
theorem dX3_init_37 : decode cX3_init 37 = .ok (.bipush 60, 2) := by decide +kernel
theorem dX3_init_39 : decode cX3_init 39 = .ok (.newarray .int, 2) := by decide +kernel
theorem dX3_init_41 : decode cX3_init 41 = .ok (.putfield 23, 3) := by decide +kernel
theorem dX3_init_44 : decode cX3_init 44 = .ok (.aload_n 0, 1) := by decide +kernel
theorem dX3_init_45 : decode cX3_init 45 = .ok (.bipush 9, 2) := by decide +kernel
theorem dX3_init_47 : decode cX3_init 47 = .ok (.newarray .int, 2) := by decide +kernel
theorem dX3_init_49 : decode cX3_init 49 = .ok (.putfield 26, 3) := by decide +kernel
theorem dX3_init_52 : decode cX3_init 52 = .ok (.aload_n 0, 1) := by decide +kernel
theorem dX3_init_53 : decode cX3_init 53 = .ok (.bipush 9, 2) := by decide +kernel
theorem dX3_init_55 : decode cX3_init 55 = .ok (.newarray .int, 2) := by decide +kernel
theorem dX3_init_57 : decode cX3_init 57 = .ok (.putfield 29, 3) := by decide +kernel
theorem dX3_init_60 : decode cX3_init 60 = .ok (.aload_n 0, 1) := by decide +kernel
theorem dX3_init_61 : decode cX3_init 61 = .ok (.bipush 9, 2) := by decide +kernel
theorem dX3_init_63 : decode cX3_init 63 = .ok (.newarray .long, 2) := by decide +kernel
theorem dX3_init_65 : decode cX3_init 65 = .ok (.putfield 32, 3) := by decide +kernel
theorem dX3_init_68 : decode cX3_init 68 = .ok (.aload_n 0, 1) := by decide +kernel
theorem dX3_init_69 : decode cX3_init 69 = .ok (.iconst 0, 1) := by decide +kernel
theorem dX3_init_70 : decode cX3_init 70 = .ok (.putfield 36, 3) := by decide +kernel
theorem dX3_init_73 : decode cX3_init 73 = .ok (.iconst 0, 1) := by decide +kernel
theorem dX3_init_74 : decode cX3_init 74 = .ok (.istore_n 1, 1) := by decide +kernel
theorem dX3_init_75 : decode cX3_init 75 = .ok (.iload_n 1, 1) := by decide +kernel
theorem dX3_init_76 : decode cX3_init 76 = .ok (.iconst 5, 1) := by decide +kernel
theorem dX3_init_77 : decode cX3_init 77 = .ok (.if_icmp .ge 21, 3) := by decide +kernel
theorem dX3_init_80 : decode cX3_init 80 = .ok (.aload_n 0, 1) := by decide +kernel
theorem dX3_init_81 : decode cX3_init 81 = .ok (.getfield 7, 3) := by decide +kernel
theorem dX3_init_84 : decode cX3_init 84 = .ok (.iconst 0, 1) := by decide +kernel
theorem dX3_init_85 : decode cX3_init 85 = .ok (.bipush 9, 2) := by decide +kernel
theorem dX3_init_87 : decode cX3_init 87 = .ok (.iload_n 1, 1) := by decide +kernel
theorem dX3_init_88 : decode cX3_init 88 = .ok (.imul, 1) := by decide +kernel
theorem dX3_init_89 : decode cX3_init 89 = .ok (.iadd, 1) := by decide +kernel
theorem dX3_init_90 : decode cX3_init 90 = .ok (.iconst 1, 1) := by decide +kernel
theorem dX3_init_91 : decode cX3_init 91 = .ok (.iastore, 1) := by decide +kernel
theorem dX3_init_92 : decode cX3_init 92 = .ok (.iinc 1 1, 3) := by decide +kernel
theorem dX3_init_95 : decode cX3_init 95 = .ok (.goto (-20), 3) := by decide +kernel
theorem dX3_init_98 : decode cX3_init 98 = .ok (.return_, 1) := by decide +kernel
theorem dX3_thrown_0 : decode cX3_thrown 0 = .ok (.aload_n 0, 1) := by decide +kernel
theorem dX3_thrown_1 : decode cX3_thrown 1 = .ok (.getfield 36, 3) := by decide +kernel
theorem dX3_thrown_4 : decode cX3_thrown 4 = .ok (.ireturn, 1) := by decide +kernel
theorem dX3_in_0 : decode cX3_in 0 = .ok (.iload_n 0, 1) := by decide +kernel
theorem dX3_in_1 : decode cX3_in 1 = .ok (.iload_n 1, 1) := by decide +kernel
theorem dX3_in_2 : decode cX3_in 2 = .ok (.if_icmp .lt 12, 3) := by decide +kernel
theorem dX3_in_5 : decode cX3_in 5 = .ok (.iload_n 0, 1) := by decide +kernel
theorem dX3_in_6 : decode cX3_in 6 = .ok (.iload_n 2, 1) := by decide +kernel
theorem dX3_in_7 : decode cX3_in 7 = .ok (.if_icmp .gt 7, 3) := by decide +kernel
theorem dX3_in_10 : decode cX3_in 10 = .ok (.iconst 1, 1) := by decide +kernel
theorem dX3_in_11 : decode cX3_in 11 = .ok (.goto 4, 3) := by decide +kernel
theorem dX3_in_14 : decode cX3_in 14 = .ok (.iconst 0, 1) := by decide +kernel
theorem dX3_in_15 : decode cX3_in 15 = .ok (.ireturn, 1) := by decide +kernel
theorem dX3_fails_0 : decode cX3_fails 0 = .ok (.aload_n 0, 1) := by decide +kernel
theorem dX3_fails_1 : decode cX3_fails 1 = .ok (.iload_n 1, 1) := by decide +kernel
theorem dX3_fails_2 : decode cX3_fails 2 = .ok (.putfield 36, 3) := by decide +kernel
theorem dX3_fails_5 : decode cX3_fails 5 = .ok (.iconst 0, 1) := by decide +kernel
theorem dX3_fails_6 : decode cX3_fails 6 = .ok (.ireturn, 1) := by decide +kernel
theorem dX3_isPoly_0 : decode cX3_isPoly 0 = .ok (.iload_n 0, 1) := by decide +kernel
theorem dX3_isPoly_1 : decode cX3_isPoly 1 = .ok (.iconst 0, 1) := by decide +kernel
theorem dX3_isPoly_2 : decode cX3_isPoly 2 = .ok (.iconst 4, 1) := by decide +kernel
theorem dX3_isPoly_3 : decode cX3_isPoly 3 = .ok (.invokestatic 40, 3) := by decide +kernel
theorem dX3_isPoly_6 : decode cX3_isPoly 6 = .ok (.ireturn, 1) := by decide +kernel
theorem dX3_isSign_0 : decode cX3_isSign 0 = .ok (.iload_n 0, 1) := by decide +kernel
theorem dX3_isSign_1 : decode cX3_isSign 1 = .ok (.iconst (-1), 1) := by decide +kernel
theorem dX3_isSign_2 : decode cX3_isSign 2 = .ok (.iconst 1, 1) := by decide +kernel
theorem dX3_isSign_3 : decode cX3_isSign 3 = .ok (.invokestatic 40, 3) := by decide +kernel
theorem dX3_isSign_6 : decode cX3_isSign 6 = .ok (.ireturn, 1) := by decide +kernel
theorem dX3_signAt_0 : decode cX3_signAt 0 = .ok (.iload_n 2, 1) := by decide +kernel
theorem dX3_signAt_1 : decode cX3_signAt 1 = .ok (.ifCond .lt 9, 3) := by decide +kernel
theorem dX3_signAt_4 : decode cX3_signAt 4 = .ok (.iload_n 2, 1) := by decide +kernel
theorem dX3_signAt_5 : decode cX3_signAt 5 = .ok (.bipush 9, 2) := by decide +kernel
theorem dX3_signAt_7 : decode cX3_signAt 7 = .ok (.if_icmp .lt 7, 3) := by decide +kernel
theorem dX3_signAt_10 : decode cX3_signAt 10 = .ok (.iconst 0, 1) := by decide +kernel
theorem dX3_signAt_11 : decode cX3_signAt 11 = .ok (.goto 16, 3) := by decide +kernel
theorem dX3_signAt_14 : decode cX3_signAt 14 = .ok (.aload_n 0, 1) := by decide +kernel
theorem dX3_signAt_15 : decode cX3_signAt 15 = .ok (.getfield 7, 3) := by decide +kernel
theorem dX3_signAt_18 : decode cX3_signAt 18 = .ok (.iconst 0, 1) := by decide +kernel
theorem dX3_signAt_19 : decode cX3_signAt 19 = .ok (.bipush 9, 2) := by decide +kernel
theorem dX3_signAt_21 : decode cX3_signAt 21 = .ok (.iload_n 1, 1) := by decide +kernel
theorem dX3_signAt_22 : decode cX3_signAt 22 = .ok (.imul, 1) := by decide +kernel
theorem dX3_signAt_23 : decode cX3_signAt 23 = .ok (.iadd, 1) := by decide +kernel
theorem dX3_signAt_24 : decode cX3_signAt 24 = .ok (.iload_n 2, 1) := by decide +kernel
theorem dX3_signAt_25 : decode cX3_signAt 25 = .ok (.iadd, 1) := by decide +kernel
theorem dX3_signAt_26 : decode cX3_signAt 26 = .ok (.iaload, 1) := by decide +kernel
theorem dX3_signAt_27 : decode cX3_signAt 27 = .ok (.ireturn, 1) := by decide +kernel
theorem dX3_degree_0 : decode cX3_degree 0 = .ok (.iconst 0, 1) := by decide +kernel
theorem dX3_degree_1 : decode cX3_degree 1 = .ok (.istore_n 2, 1) := by decide +kernel
theorem dX3_degree_2 : decode cX3_degree 2 = .ok (.iconst 0, 1) := by decide +kernel
theorem dX3_degree_3 : decode cX3_degree 3 = .ok (.istore_n 3, 1) := by decide +kernel
theorem dX3_degree_4 : decode cX3_degree 4 = .ok (.iload_n 3, 1) := by decide +kernel
theorem dX3_degree_5 : decode cX3_degree 5 = .ok (.bipush 9, 2) := by decide +kernel
theorem dX3_degree_7 : decode cX3_degree 7 = .ok (.if_icmp .ge 24, 3) := by decide +kernel
theorem dX3_degree_10 : decode cX3_degree 10 = .ok (.aload_n 0, 1) := by decide +kernel
theorem dX3_degree_11 : decode cX3_degree 11 = .ok (.iload_n 1, 1) := by decide +kernel
theorem dX3_degree_12 : decode cX3_degree 12 = .ok (.iload_n 3, 1) := by decide +kernel
theorem dX3_degree_13 : decode cX3_degree 13 = .ok (.invokevirtual 44, 3) := by decide +kernel
theorem dX3_degree_16 : decode cX3_degree 16 = .ok (.ifCond .eq 7, 3) := by decide +kernel
theorem dX3_degree_19 : decode cX3_degree 19 = .ok (.iload_n 3, 1) := by decide +kernel
theorem dX3_degree_20 : decode cX3_degree 20 = .ok (.goto 4, 3) := by decide +kernel
theorem dX3_degree_23 : decode cX3_degree 23 = .ok (.iload_n 2, 1) := by decide +kernel
theorem dX3_degree_24 : decode cX3_degree 24 = .ok (.istore_n 2, 1) := by decide +kernel
theorem dX3_degree_25 : decode cX3_degree 25 = .ok (.iinc 3 1, 3) := by decide +kernel
theorem dX3_degree_28 : decode cX3_degree 28 = .ok (.goto (-24), 3) := by decide +kernel
theorem dX3_degree_31 : decode cX3_degree 31 = .ok (.iload_n 2, 1) := by decide +kernel
theorem dX3_degree_32 : decode cX3_degree 32 = .ok (.ireturn, 1) := by decide +kernel
theorem dX3_saves_0 : decode cX3_saves 0 = .ok (.aload_n 0, 1) := by decide +kernel
theorem dX3_saves_1 : decode cX3_saves 1 = .ok (.getfield 48, 3) := by decide +kernel
theorem dX3_saves_4 : decode cX3_saves 4 = .ok (.bipush 6, 2) := by decide +kernel
theorem dX3_saves_6 : decode cX3_saves 6 = .ok (.if_icmp .ne 43, 3) := by decide +kernel
theorem dX3_saves_9 : decode cX3_saves 9 = .ok (.iconst 0, 1) := by decide +kernel
theorem dX3_saves_10 : decode cX3_saves 10 = .ok (.istore_n 1, 1) := by decide +kernel
theorem dX3_saves_11 : decode cX3_saves 11 = .ok (.iload_n 1, 1) := by decide +kernel
theorem dX3_saves_12 : decode cX3_saves 12 = .ok (.sipush 280, 3) := by decide +kernel
theorem dX3_saves_15 : decode cX3_saves 15 = .ok (.if_icmp .ge 24, 3) := by decide +kernel
theorem dX3_saves_18 : decode cX3_saves 18 = .ok (.aload_n 0, 1) := by decide +kernel
theorem dX3_saves_19 : decode cX3_saves 19 = .ok (.getfield 13, 3) := by decide +kernel
theorem dX3_saves_22 : decode cX3_saves 22 = .ok (.iload_n 1, 1) := by decide +kernel
theorem dX3_saves_23 : decode cX3_saves 23 = .ok (.aload_n 0, 1) := by decide +kernel
theorem dX3_saves_24 : decode cX3_saves 24 = .ok (.getfield 13, 3) := by decide +kernel
theorem dX3_saves_27 : decode cX3_saves 27 = .ok (.iload_n 1, 1) := by decide +kernel
theorem dX3_saves_28 : decode cX3_saves 28 = .ok (.bipush 56, 2) := by decide +kernel
theorem dX3_saves_30 : decode cX3_saves 30 = .ok (.iadd, 1) := by decide +kernel
theorem dX3_saves_31 : decode cX3_saves 31 = .ok (.iaload, 1) := by decide +kernel
theorem dX3_saves_32 : decode cX3_saves 32 = .ok (.iastore, 1) := by decide +kernel
theorem dX3_saves_33 : decode cX3_saves 33 = .ok (.iinc 1 1, 3) := by decide +kernel
theorem dX3_saves_36 : decode cX3_saves 36 = .ok (.goto (-25), 3) := by decide +kernel
theorem dX3_saves_39 : decode cX3_saves 39 = .ok (.aload_n 0, 1) := by decide +kernel
theorem dX3_saves_40 : decode cX3_saves 40 = .ok (.dup, 1) := by decide +kernel
theorem dX3_saves_41 : decode cX3_saves 41 = .ok (.getfield 48, 3) := by decide +kernel
theorem dX3_saves_44 : decode cX3_saves 44 = .ok (.iconst 1, 1) := by decide +kernel
theorem dX3_saves_45 : decode cX3_saves 45 = .ok (.isub, 1) := by decide +kernel
theorem dX3_saves_46 : decode cX3_saves 46 = .ok (.putfield 48, 3) := by decide +kernel
theorem dX3_saves_49 : decode cX3_saves 49 = .ok (.iconst 0, 1) := by decide +kernel
theorem dX3_saves_50 : decode cX3_saves 50 = .ok (.istore_n 1, 1) := by decide +kernel
theorem dX3_saves_51 : decode cX3_saves 51 = .ok (.iload_n 1, 1) := by decide +kernel
theorem dX3_saves_52 : decode cX3_saves 52 = .ok (.bipush 56, 2) := by decide +kernel
theorem dX3_saves_54 : decode cX3_saves 54 = .ok (.if_icmp .ge 29, 3) := by decide +kernel
theorem dX3_saves_57 : decode cX3_saves 57 = .ok (.aload_n 0, 1) := by decide +kernel
theorem dX3_saves_58 : decode cX3_saves 58 = .ok (.getfield 13, 3) := by decide +kernel
theorem dX3_saves_61 : decode cX3_saves 61 = .ok (.bipush 56, 2) := by decide +kernel
theorem dX3_saves_63 : decode cX3_saves 63 = .ok (.aload_n 0, 1) := by decide +kernel
theorem dX3_saves_64 : decode cX3_saves 64 = .ok (.getfield 48, 3) := by decide +kernel
theorem dX3_saves_67 : decode cX3_saves 67 = .ok (.imul, 1) := by decide +kernel
theorem dX3_saves_68 : decode cX3_saves 68 = .ok (.iload_n 1, 1) := by decide +kernel
theorem dX3_saves_69 : decode cX3_saves 69 = .ok (.iadd, 1) := by decide +kernel
theorem dX3_saves_70 : decode cX3_saves 70 = .ok (.aload_n 0, 1) := by decide +kernel
theorem dX3_saves_71 : decode cX3_saves 71 = .ok (.getfield 7, 3) := by decide +kernel
theorem dX3_saves_74 : decode cX3_saves 74 = .ok (.iload_n 1, 1) := by decide +kernel
theorem dX3_saves_75 : decode cX3_saves 75 = .ok (.iaload, 1) := by decide +kernel
theorem dX3_saves_76 : decode cX3_saves 76 = .ok (.iastore, 1) := by decide +kernel
theorem dX3_saves_77 : decode cX3_saves 77 = .ok (.iinc 1 1, 3) := by decide +kernel
theorem dX3_saves_80 : decode cX3_saves 80 = .ok (.goto (-29), 3) := by decide +kernel
theorem dX3_saves_83 : decode cX3_saves 83 = .ok (.aload_n 0, 1) := by decide +kernel
theorem dX3_saves_84 : decode cX3_saves 84 = .ok (.dup, 1) := by decide +kernel
theorem dX3_saves_85 : decode cX3_saves 85 = .ok (.getfield 48, 3) := by decide +kernel
theorem dX3_saves_88 : decode cX3_saves 88 = .ok (.iconst 1, 1) := by decide +kernel
theorem dX3_saves_89 : decode cX3_saves 89 = .ok (.iadd, 1) := by decide +kernel
theorem dX3_saves_90 : decode cX3_saves 90 = .ok (.putfield 48, 3) := by decide +kernel
theorem dX3_saves_93 : decode cX3_saves 93 = .ok (.return_, 1) := by decide +kernel
theorem dX3_refuses_0 : decode cX3_refuses 0 = .ok (.aload_n 0, 1) := by decide +kernel
theorem dX3_refuses_1 : decode cX3_refuses 1 = .ok (.getfield 7, 3) := by decide +kernel
theorem dX3_refuses_4 : decode cX3_refuses 4 = .ok (.bipush 55, 2) := by decide +kernel
theorem dX3_refuses_6 : decode cX3_refuses 6 = .ok (.dup2, 1) := by decide +kernel
theorem dX3_refuses_7 : decode cX3_refuses 7 = .ok (.iaload, 1) := by decide +kernel
theorem dX3_refuses_8 : decode cX3_refuses 8 = .ok (.iconst 1, 1) := by decide +kernel
theorem dX3_refuses_9 : decode cX3_refuses 9 = .ok (.iadd, 1) := by decide +kernel
theorem dX3_refuses_10 : decode cX3_refuses 10 = .ok (.iastore, 1) := by decide +kernel
theorem dX3_refuses_11 : decode cX3_refuses 11 = .ok (.iload_n 1, 1) := by decide +kernel
theorem dX3_refuses_12 : decode cX3_refuses 12 = .ok (.ireturn, 1) := by decide +kernel
theorem dX3_isInSum_0 : decode cX3_isInSum 0 = .ok (.iload_n 1, 1) := by decide +kernel
theorem dX3_isInSum_1 : decode cX3_isInSum 1 = .ok (.ifCond .eq 9, 3) := by decide +kernel
theorem dX3_isInSum_4 : decode cX3_isInSum 4 = .ok (.iload_n 1, 1) := by decide +kernel
theorem dX3_isInSum_5 : decode cX3_isInSum 5 = .ok (.iload_n 2, 1) := by decide +kernel
theorem dX3_isInSum_6 : decode cX3_isInSum 6 = .ok (.ineg, 1) := by decide +kernel
theorem dX3_isInSum_7 : decode cX3_isInSum 7 = .ok (.if_icmp .eq 16, 3) := by decide +kernel
theorem dX3_isInSum_10 : decode cX3_isInSum 10 = .ok (.iload_n 0, 1) := by decide +kernel
theorem dX3_isInSum_11 : decode cX3_isInSum 11 = .ok (.iload_n 1, 1) := by decide +kernel
theorem dX3_isInSum_12 : decode cX3_isInSum 12 = .ok (.ifCond .ne 7, 3) := by decide +kernel
theorem dX3_isInSum_15 : decode cX3_isInSum 15 = .ok (.iload_n 2, 1) := by decide +kernel
theorem dX3_isInSum_16 : decode cX3_isInSum 16 = .ok (.goto 4, 3) := by decide +kernel
theorem dX3_isInSum_19 : decode cX3_isInSum 19 = .ok (.iload_n 1, 1) := by decide +kernel
theorem dX3_isInSum_20 : decode cX3_isInSum 20 = .ok (.if_icmp .ne 7, 3) := by decide +kernel
theorem dX3_isInSum_23 : decode cX3_isInSum 23 = .ok (.iconst 1, 1) := by decide +kernel
theorem dX3_isInSum_24 : decode cX3_isInSum 24 = .ok (.goto 4, 3) := by decide +kernel
theorem dX3_isInSum_27 : decode cX3_isInSum 27 = .ok (.iconst 0, 1) := by decide +kernel
theorem dX3_isInSum_28 : decode cX3_isInSum 28 = .ok (.ireturn, 1) := by decide +kernel
theorem dX3_changes_0 : decode cX3_changes 0 = .ok (.iconst 0, 1) := by decide +kernel
theorem dX3_changes_1 : decode cX3_changes 1 = .ok (.istore_n 3, 1) := by decide +kernel
theorem dX3_changes_2 : decode cX3_changes 2 = .ok (.iconst 0, 1) := by decide +kernel
theorem dX3_changes_3 : decode cX3_changes 3 = .ok (.istore 4, 2) := by decide +kernel
theorem dX3_changes_5 : decode cX3_changes 5 = .ok (.iconst 0, 1) := by decide +kernel
theorem dX3_changes_6 : decode cX3_changes 6 = .ok (.istore 5, 2) := by decide +kernel
theorem dX3_changes_8 : decode cX3_changes 8 = .ok (.iload 5, 2) := by decide +kernel
theorem dX3_changes_10 : decode cX3_changes 10 = .ok (.iload_n 1, 1) := by decide +kernel
theorem dX3_changes_11 : decode cX3_changes 11 = .ok (.if_icmp .gt 100, 3) := by decide +kernel
theorem dX3_changes_14 : decode cX3_changes 14 = .ok (.iload_n 2, 1) := by decide +kernel
theorem dX3_changes_15 : decode cX3_changes 15 = .ok (.ifCond .ge 19, 3) := by decide +kernel
theorem dX3_changes_18 : decode cX3_changes 18 = .ok (.iload 5, 2) := by decide +kernel
theorem dX3_changes_20 : decode cX3_changes 20 = .ok (.iconst 2, 1) := by decide +kernel
theorem dX3_changes_21 : decode cX3_changes 21 = .ok (.irem, 1) := by decide +kernel
theorem dX3_changes_22 : decode cX3_changes 22 = .ok (.iconst 1, 1) := by decide +kernel
theorem dX3_changes_23 : decode cX3_changes 23 = .ok (.if_icmp .ne 11, 3) := by decide +kernel
theorem dX3_changes_26 : decode cX3_changes 26 = .ok (.aload_n 0, 1) := by decide +kernel
theorem dX3_changes_27 : decode cX3_changes 27 = .ok (.iload 5, 2) := by decide +kernel
theorem dX3_changes_29 : decode cX3_changes 29 = .ok (.iaload, 1) := by decide +kernel
theorem dX3_changes_30 : decode cX3_changes 30 = .ok (.ineg, 1) := by decide +kernel
theorem dX3_changes_31 : decode cX3_changes 31 = .ok (.goto 7, 3) := by decide +kernel
theorem dX3_changes_34 : decode cX3_changes 34 = .ok (.aload_n 0, 1) := by decide +kernel
theorem dX3_changes_35 : decode cX3_changes 35 = .ok (.iload 5, 2) := by decide +kernel
theorem dX3_changes_37 : decode cX3_changes 37 = .ok (.iaload, 1) := by decide +kernel
theorem dX3_changes_38 : decode cX3_changes 38 = .ok (.istore 6, 2) := by decide +kernel
theorem dX3_changes_40 : decode cX3_changes 40 = .ok (.iload_n 3, 1) := by decide +kernel
theorem dX3_changes_41 : decode cX3_changes 41 = .ok (.iload_n 2, 1) := by decide +kernel
theorem dX3_changes_42 : decode cX3_changes 42 = .ok (.ifCond .eq 24, 3) := by decide +kernel
theorem dX3_changes_45 : decode cX3_changes 45 = .ok (.iload 6, 2) := by decide +kernel
theorem dX3_changes_47 : decode cX3_changes 47 = .ok (.ifCond .eq 19, 3) := by decide +kernel
theorem dX3_changes_50 : decode cX3_changes 50 = .ok (.iload 4, 2) := by decide +kernel
theorem dX3_changes_52 : decode cX3_changes 52 = .ok (.ifCond .eq 14, 3) := by decide +kernel
theorem dX3_changes_55 : decode cX3_changes 55 = .ok (.iload 6, 2) := by decide +kernel
theorem dX3_changes_57 : decode cX3_changes 57 = .ok (.iload 4, 2) := by decide +kernel
theorem dX3_changes_59 : decode cX3_changes 59 = .ok (.if_icmp .eq 7, 3) := by decide +kernel
theorem dX3_changes_62 : decode cX3_changes 62 = .ok (.iconst 1, 1) := by decide +kernel
theorem dX3_changes_63 : decode cX3_changes 63 = .ok (.goto 4, 3) := by decide +kernel
theorem dX3_changes_66 : decode cX3_changes 66 = .ok (.iconst 0, 1) := by decide +kernel
theorem dX3_changes_67 : decode cX3_changes 67 = .ok (.iadd, 1) := by decide +kernel
theorem dX3_changes_68 : decode cX3_changes 68 = .ok (.istore_n 3, 1) := by decide +kernel
theorem dX3_changes_69 : decode cX3_changes 69 = .ok (.iload_n 3, 1) := by decide +kernel
theorem dX3_changes_70 : decode cX3_changes 70 = .ok (.iload_n 2, 1) := by decide +kernel
theorem dX3_changes_71 : decode cX3_changes 71 = .ok (.ifCond .ne 17, 3) := by decide +kernel
theorem dX3_changes_74 : decode cX3_changes 74 = .ok (.iload 6, 2) := by decide +kernel
theorem dX3_changes_76 : decode cX3_changes 76 = .ok (.ifCond .ne 12, 3) := by decide +kernel
theorem dX3_changes_79 : decode cX3_changes 79 = .ok (.iload 4, 2) := by decide +kernel
theorem dX3_changes_81 : decode cX3_changes 81 = .ok (.ifCond .ne 7, 3) := by decide +kernel
theorem dX3_changes_84 : decode cX3_changes 84 = .ok (.iconst 1, 1) := by decide +kernel
theorem dX3_changes_85 : decode cX3_changes 85 = .ok (.goto 4, 3) := by decide +kernel
theorem dX3_changes_88 : decode cX3_changes 88 = .ok (.iconst 0, 1) := by decide +kernel
theorem dX3_changes_89 : decode cX3_changes 89 = .ok (.iadd, 1) := by decide +kernel
theorem dX3_changes_90 : decode cX3_changes 90 = .ok (.istore_n 3, 1) := by decide +kernel
theorem dX3_changes_91 : decode cX3_changes 91 = .ok (.iload 6, 2) := by decide +kernel
theorem dX3_changes_93 : decode cX3_changes 93 = .ok (.ifCond .ne 8, 3) := by decide +kernel
theorem dX3_changes_96 : decode cX3_changes 96 = .ok (.iload 4, 2) := by decide +kernel
theorem dX3_changes_98 : decode cX3_changes 98 = .ok (.goto 5, 3) := by decide +kernel
theorem dX3_changes_101 : decode cX3_changes 101 = .ok (.iload 6, 2) := by decide +kernel
theorem dX3_changes_103 : decode cX3_changes 103 = .ok (.istore 4, 2) := by decide +kernel
theorem dX3_changes_105 : decode cX3_changes 105 = .ok (.iinc 5 1, 3) := by decide +kernel
theorem dX3_changes_108 : decode cX3_changes 108 = .ok (.goto (-100), 3) := by decide +kernel
theorem dX3_changes_111 : decode cX3_changes 111 = .ok (.iload_n 3, 1) := by decide +kernel
theorem dX3_changes_112 : decode cX3_changes 112 = .ok (.ireturn, 1) := by decide +kernel
theorem dX3_often_0 : decode cX3_often 0 = .ok (.iconst 0, 1) := by decide +kernel
theorem dX3_often_1 : decode cX3_often 1 = .ok (.istore_n 3, 1) := by decide +kernel
theorem dX3_often_2 : decode cX3_often 2 = .ok (.iload_n 3, 1) := by decide +kernel
theorem dX3_often_3 : decode cX3_often 3 = .ok (.bipush 9, 2) := by decide +kernel
theorem dX3_often_5 : decode cX3_often 5 = .ok (.if_icmp .ge 21, 3) := by decide +kernel
theorem dX3_often_8 : decode cX3_often 8 = .ok (.aload_n 0, 1) := by decide +kernel
theorem dX3_often_9 : decode cX3_often 9 = .ok (.getfield 26, 3) := by decide +kernel
theorem dX3_often_12 : decode cX3_often 12 = .ok (.iload_n 3, 1) := by decide +kernel
theorem dX3_often_13 : decode cX3_often 13 = .ok (.aload_n 0, 1) := by decide +kernel
theorem dX3_often_14 : decode cX3_often 14 = .ok (.iload_n 1, 1) := by decide +kernel
theorem dX3_often_15 : decode cX3_often 15 = .ok (.iload_n 3, 1) := by decide +kernel
theorem dX3_often_16 : decode cX3_often 16 = .ok (.invokevirtual 44, 3) := by decide +kernel
theorem dX3_often_19 : decode cX3_often 19 = .ok (.iastore, 1) := by decide +kernel
theorem dX3_often_20 : decode cX3_often 20 = .ok (.iinc 3 1, 3) := by decide +kernel
theorem dX3_often_23 : decode cX3_often 23 = .ok (.goto (-21), 3) := by decide +kernel
theorem dX3_often_26 : decode cX3_often 26 = .ok (.aload_n 0, 1) := by decide +kernel
theorem dX3_often_27 : decode cX3_often 27 = .ok (.getfield 26, 3) := by decide +kernel
theorem dX3_often_30 : decode cX3_often 30 = .ok (.aload_n 0, 1) := by decide +kernel
theorem dX3_often_31 : decode cX3_often 31 = .ok (.iload_n 1, 1) := by decide +kernel
theorem dX3_often_32 : decode cX3_often 32 = .ok (.invokevirtual 51, 3) := by decide +kernel
theorem dX3_often_35 : decode cX3_often 35 = .ok (.iload_n 2, 1) := by decide +kernel
theorem dX3_often_36 : decode cX3_often 36 = .ok (.invokestatic 55, 3) := by decide +kernel
theorem dX3_often_39 : decode cX3_often 39 = .ok (.ireturn, 1) := by decide +kernel
theorem dX3_laysRow_0 : decode cX3_laysRow 0 = .ok (.iload_n 1, 1) := by decide +kernel
theorem dX3_laysRow_1 : decode cX3_laysRow 1 = .ok (.istore_n 3, 1) := by decide +kernel
theorem dX3_laysRow_2 : decode cX3_laysRow 2 = .ok (.iload_n 2, 1) := by decide +kernel
theorem dX3_laysRow_3 : decode cX3_laysRow 3 = .ok (.istore 4, 2) := by decide +kernel
theorem dX3_laysRow_5 : decode cX3_laysRow 5 = .ok (.iload 4, 2) := by decide +kernel
theorem dX3_laysRow_7 : decode cX3_laysRow 7 = .ok (.ifCond .lt 25, 3) := by decide +kernel
theorem dX3_laysRow_10 : decode cX3_laysRow 10 = .ok (.aload_n 0, 1) := by decide +kernel
theorem dX3_laysRow_11 : decode cX3_laysRow 11 = .ok (.getfield 26, 3) := by decide +kernel
theorem dX3_laysRow_14 : decode cX3_laysRow 14 = .ok (.iload 4, 2) := by decide +kernel
theorem dX3_laysRow_16 : decode cX3_laysRow 16 = .ok (.iload_n 3, 1) := by decide +kernel
theorem dX3_laysRow_17 : decode cX3_laysRow 17 = .ok (.iconst 3, 1) := by decide +kernel
theorem dX3_laysRow_18 : decode cX3_laysRow 18 = .ok (.irem, 1) := by decide +kernel
theorem dX3_laysRow_19 : decode cX3_laysRow 19 = .ok (.iconst 1, 1) := by decide +kernel
theorem dX3_laysRow_20 : decode cX3_laysRow 20 = .ok (.isub, 1) := by decide +kernel
theorem dX3_laysRow_21 : decode cX3_laysRow 21 = .ok (.iastore, 1) := by decide +kernel
theorem dX3_laysRow_22 : decode cX3_laysRow 22 = .ok (.iload_n 3, 1) := by decide +kernel
theorem dX3_laysRow_23 : decode cX3_laysRow 23 = .ok (.iconst 3, 1) := by decide +kernel
theorem dX3_laysRow_24 : decode cX3_laysRow 24 = .ok (.idiv, 1) := by decide +kernel
theorem dX3_laysRow_25 : decode cX3_laysRow 25 = .ok (.istore_n 3, 1) := by decide +kernel
theorem dX3_laysRow_26 : decode cX3_laysRow 26 = .ok (.iinc 4 (-1), 3) := by decide +kernel
theorem dX3_laysRow_29 : decode cX3_laysRow 29 = .ok (.goto (-24), 3) := by decide +kernel
theorem dX3_laysRow_32 : decode cX3_laysRow 32 = .ok (.return_, 1) := by decide +kernel
theorem dX3_isQuotient_0 : decode cX3_isQuotient 0 = .ok (.aload_n 0, 1) := by decide +kernel
theorem dX3_isQuotient_1 : decode cX3_isQuotient 1 = .ok (.getfield 26, 3) := by decide +kernel
theorem dX3_isQuotient_4 : decode cX3_isQuotient 4 = .ok (.iload_n 3, 1) := by decide +kernel
theorem dX3_isQuotient_5 : decode cX3_isQuotient 5 = .ok (.iaload, 1) := by decide +kernel
theorem dX3_isQuotient_6 : decode cX3_isQuotient 6 = .ok (.ifCond .eq 7, 3) := by decide +kernel
theorem dX3_isQuotient_9 : decode cX3_isQuotient 9 = .ok (.iconst 1, 1) := by decide +kernel
theorem dX3_isQuotient_10 : decode cX3_isQuotient 10 = .ok (.goto 4, 3) := by decide +kernel
theorem dX3_isQuotient_13 : decode cX3_isQuotient 13 = .ok (.iconst 0, 1) := by decide +kernel
theorem dX3_isQuotient_14 : decode cX3_isQuotient 14 = .ok (.istore 4, 2) := by decide +kernel
theorem dX3_isQuotient_16 : decode cX3_isQuotient 16 = .ok (.iconst 0, 1) := by decide +kernel
theorem dX3_isQuotient_17 : decode cX3_isQuotient 17 = .ok (.istore 5, 2) := by decide +kernel
theorem dX3_isQuotient_19 : decode cX3_isQuotient 19 = .ok (.iload 5, 2) := by decide +kernel
theorem dX3_isQuotient_21 : decode cX3_isQuotient 21 = .ok (.iload_n 3, 1) := by decide +kernel
theorem dX3_isQuotient_22 : decode cX3_isQuotient 22 = .ok (.iconst 1, 1) := by decide +kernel
theorem dX3_isQuotient_23 : decode cX3_isQuotient 23 = .ok (.iadd, 1) := by decide +kernel
theorem dX3_isQuotient_24 : decode cX3_isQuotient 24 = .ok (.if_icmp .gt 72, 3) := by decide +kernel
theorem dX3_isQuotient_27 : decode cX3_isQuotient 27 = .ok (.iload 4, 2) := by decide +kernel
theorem dX3_isQuotient_29 : decode cX3_isQuotient 29 = .ok (.ifCond .eq 67, 3) := by decide +kernel
theorem dX3_isQuotient_32 : decode cX3_isQuotient 32 = .ok (.iload 5, 2) := by decide +kernel
theorem dX3_isQuotient_34 : decode cX3_isQuotient 34 = .ok (.ifCond .ne 7, 3) := by decide +kernel
theorem dX3_isQuotient_37 : decode cX3_isQuotient 37 = .ok (.iconst 0, 1) := by decide +kernel
theorem dX3_isQuotient_38 : decode cX3_isQuotient 38 = .ok (.goto 12, 3) := by decide +kernel
theorem dX3_isQuotient_41 : decode cX3_isQuotient 41 = .ok (.aload_n 0, 1) := by decide +kernel
theorem dX3_isQuotient_42 : decode cX3_isQuotient 42 = .ok (.getfield 26, 3) := by decide +kernel
theorem dX3_isQuotient_45 : decode cX3_isQuotient 45 = .ok (.iload 5, 2) := by decide +kernel
theorem dX3_isQuotient_47 : decode cX3_isQuotient 47 = .ok (.iconst 1, 1) := by decide +kernel
theorem dX3_isQuotient_48 : decode cX3_isQuotient 48 = .ok (.isub, 1) := by decide +kernel
theorem dX3_isQuotient_49 : decode cX3_isQuotient 49 = .ok (.iaload, 1) := by decide +kernel
theorem dX3_isQuotient_50 : decode cX3_isQuotient 50 = .ok (.istore 6, 2) := by decide +kernel
theorem dX3_isQuotient_52 : decode cX3_isQuotient 52 = .ok (.iload 5, 2) := by decide +kernel
theorem dX3_isQuotient_54 : decode cX3_isQuotient 54 = .ok (.iload_n 3, 1) := by decide +kernel
theorem dX3_isQuotient_55 : decode cX3_isQuotient 55 = .ok (.if_icmp .le 7, 3) := by decide +kernel
theorem dX3_isQuotient_58 : decode cX3_isQuotient 58 = .ok (.iconst 0, 1) := by decide +kernel
theorem dX3_isQuotient_59 : decode cX3_isQuotient 59 = .ok (.goto 13, 3) := by decide +kernel
theorem dX3_isQuotient_62 : decode cX3_isQuotient 62 = .ok (.iload_n 2, 1) := by decide +kernel
theorem dX3_isQuotient_63 : decode cX3_isQuotient 63 = .ok (.ineg, 1) := by decide +kernel
theorem dX3_isQuotient_64 : decode cX3_isQuotient 64 = .ok (.aload_n 0, 1) := by decide +kernel
theorem dX3_isQuotient_65 : decode cX3_isQuotient 65 = .ok (.getfield 26, 3) := by decide +kernel
theorem dX3_isQuotient_68 : decode cX3_isQuotient 68 = .ok (.iload 5, 2) := by decide +kernel
theorem dX3_isQuotient_70 : decode cX3_isQuotient 70 = .ok (.iaload, 1) := by decide +kernel
theorem dX3_isQuotient_71 : decode cX3_isQuotient 71 = .ok (.imul, 1) := by decide +kernel
theorem dX3_isQuotient_72 : decode cX3_isQuotient 72 = .ok (.istore 7, 2) := by decide +kernel
theorem dX3_isQuotient_74 : decode cX3_isQuotient 74 = .ok (.aload_n 0, 1) := by decide +kernel
theorem dX3_isQuotient_75 : decode cX3_isQuotient 75 = .ok (.iload_n 1, 1) := by decide +kernel
theorem dX3_isQuotient_76 : decode cX3_isQuotient 76 = .ok (.iload 5, 2) := by decide +kernel
theorem dX3_isQuotient_78 : decode cX3_isQuotient 78 = .ok (.invokevirtual 44, 3) := by decide +kernel
theorem dX3_isQuotient_81 : decode cX3_isQuotient 81 = .ok (.iload 6, 2) := by decide +kernel
theorem dX3_isQuotient_83 : decode cX3_isQuotient 83 = .ok (.iload 7, 2) := by decide +kernel
theorem dX3_isQuotient_85 : decode cX3_isQuotient 85 = .ok (.invokestatic 59, 3) := by decide +kernel
theorem dX3_isQuotient_88 : decode cX3_isQuotient 88 = .ok (.istore 4, 2) := by decide +kernel
theorem dX3_isQuotient_90 : decode cX3_isQuotient 90 = .ok (.iinc 5 1, 3) := by decide +kernel
theorem dX3_isQuotient_93 : decode cX3_isQuotient 93 = .ok (.goto (-74), 3) := by decide +kernel
theorem dX3_isQuotient_96 : decode cX3_isQuotient 96 = .ok (.iload 4, 2) := by decide +kernel
theorem dX3_isQuotient_98 : decode cX3_isQuotient 98 = .ok (.ireturn, 1) := by decide +kernel
theorem dX3_divides_0 : decode cX3_divides 0 = .ok (.aload_n 0, 1) := by decide +kernel
theorem dX3_divides_1 : decode cX3_divides 1 = .ok (.iload_n 1, 1) := by decide +kernel
theorem dX3_divides_2 : decode cX3_divides 2 = .ok (.invokevirtual 51, 3) := by decide +kernel
theorem dX3_divides_5 : decode cX3_divides 5 = .ok (.iconst 1, 1) := by decide +kernel
theorem dX3_divides_6 : decode cX3_divides 6 = .ok (.isub, 1) := by decide +kernel
theorem dX3_divides_7 : decode cX3_divides 7 = .ok (.istore_n 3, 1) := by decide +kernel
theorem dX3_divides_8 : decode cX3_divides 8 = .ok (.iconst 1, 1) := by decide +kernel
theorem dX3_divides_9 : decode cX3_divides 9 = .ok (.istore 4, 2) := by decide +kernel
theorem dX3_divides_11 : decode cX3_divides 11 = .ok (.iconst 0, 1) := by decide +kernel
theorem dX3_divides_12 : decode cX3_divides 12 = .ok (.istore 5, 2) := by decide +kernel
theorem dX3_divides_14 : decode cX3_divides 14 = .ok (.iload 5, 2) := by decide +kernel
theorem dX3_divides_16 : decode cX3_divides 16 = .ok (.iload_n 3, 1) := by decide +kernel
theorem dX3_divides_17 : decode cX3_divides 17 = .ok (.if_icmp .gt 15, 3) := by decide +kernel
theorem dX3_divides_20 : decode cX3_divides 20 = .ok (.iload 4, 2) := by decide +kernel
theorem dX3_divides_22 : decode cX3_divides 22 = .ok (.iconst 3, 1) := by decide +kernel
theorem dX3_divides_23 : decode cX3_divides 23 = .ok (.imul, 1) := by decide +kernel
theorem dX3_divides_24 : decode cX3_divides 24 = .ok (.istore 4, 2) := by decide +kernel
theorem dX3_divides_26 : decode cX3_divides 26 = .ok (.iinc 5 1, 3) := by decide +kernel
theorem dX3_divides_29 : decode cX3_divides 29 = .ok (.goto (-15), 3) := by decide +kernel
theorem dX3_divides_32 : decode cX3_divides 32 = .ok (.iconst 0, 1) := by decide +kernel
theorem dX3_divides_33 : decode cX3_divides 33 = .ok (.istore 5, 2) := by decide +kernel
theorem dX3_divides_35 : decode cX3_divides 35 = .ok (.aload_n 0, 1) := by decide +kernel
theorem dX3_divides_36 : decode cX3_divides 36 = .ok (.bipush (-9), 2) := by decide +kernel
theorem dX3_divides_38 : decode cX3_divides 38 = .ok (.putfield 62, 3) := by decide +kernel
theorem dX3_divides_41 : decode cX3_divides 41 = .ok (.iconst 0, 1) := by decide +kernel
theorem dX3_divides_42 : decode cX3_divides 42 = .ok (.istore 6, 2) := by decide +kernel
theorem dX3_divides_44 : decode cX3_divides 44 = .ok (.iload 6, 2) := by decide +kernel
theorem dX3_divides_46 : decode cX3_divides 46 = .ok (.iload 4, 2) := by decide +kernel
theorem dX3_divides_48 : decode cX3_divides 48 = .ok (.if_icmp .ge 39, 3) := by decide +kernel
theorem dX3_divides_51 : decode cX3_divides 51 = .ok (.iload_n 3, 1) := by decide +kernel
theorem dX3_divides_52 : decode cX3_divides 52 = .ok (.ifCond .lt 35, 3) := by decide +kernel
theorem dX3_divides_55 : decode cX3_divides 55 = .ok (.aload_n 0, 1) := by decide +kernel
theorem dX3_divides_56 : decode cX3_divides 56 = .ok (.iload 6, 2) := by decide +kernel
theorem dX3_divides_58 : decode cX3_divides 58 = .ok (.iload_n 3, 1) := by decide +kernel
theorem dX3_divides_59 : decode cX3_divides 59 = .ok (.invokevirtual 65, 3) := by decide +kernel
theorem dX3_divides_62 : decode cX3_divides 62 = .ok (.aload_n 0, 1) := by decide +kernel
theorem dX3_divides_63 : decode cX3_divides 63 = .ok (.iload_n 1, 1) := by decide +kernel
theorem dX3_divides_64 : decode cX3_divides 64 = .ok (.iload_n 2, 1) := by decide +kernel
theorem dX3_divides_65 : decode cX3_divides 65 = .ok (.iload_n 3, 1) := by decide +kernel
theorem dX3_divides_66 : decode cX3_divides 66 = .ok (.invokevirtual 69, 3) := by decide +kernel
theorem dX3_divides_69 : decode cX3_divides 69 = .ok (.ifCond .eq 12, 3) := by decide +kernel
theorem dX3_divides_72 : decode cX3_divides 72 = .ok (.iinc 5 1, 3) := by decide +kernel
theorem dX3_divides_75 : decode cX3_divides 75 = .ok (.aload_n 0, 1) := by decide +kernel
theorem dX3_divides_76 : decode cX3_divides 76 = .ok (.iload_n 3, 1) := by decide +kernel
theorem dX3_divides_77 : decode cX3_divides 77 = .ok (.iload_n 2, 1) := by decide +kernel
theorem dX3_divides_78 : decode cX3_divides 78 = .ok (.invokevirtual 72, 3) := by decide +kernel
theorem dX3_divides_81 : decode cX3_divides 81 = .ok (.iinc 6 1, 3) := by decide +kernel
theorem dX3_divides_84 : decode cX3_divides 84 = .ok (.goto (-40), 3) := by decide +kernel
theorem dX3_divides_87 : decode cX3_divides 87 = .ok (.iload 5, 2) := by decide +kernel
theorem dX3_divides_89 : decode cX3_divides 89 = .ok (.ireturn, 1) := by decide +kernel
theorem dX3_notes_0 : decode cX3_notes 0 = .ok (.aload_n 0, 1) := by decide +kernel
theorem dX3_notes_1 : decode cX3_notes 1 = .ok (.getfield 26, 3) := by decide +kernel
theorem dX3_notes_4 : decode cX3_notes 4 = .ok (.iload_n 1, 1) := by decide +kernel
theorem dX3_notes_5 : decode cX3_notes 5 = .ok (.iload_n 2, 1) := by decide +kernel
theorem dX3_notes_6 : decode cX3_notes 6 = .ok (.invokestatic 55, 3) := by decide +kernel
theorem dX3_notes_9 : decode cX3_notes 9 = .ok (.istore_n 3, 1) := by decide +kernel
theorem dX3_notes_10 : decode cX3_notes 10 = .ok (.iload_n 3, 1) := by decide +kernel
theorem dX3_notes_11 : decode cX3_notes 11 = .ok (.aload_n 0, 1) := by decide +kernel
theorem dX3_notes_12 : decode cX3_notes 12 = .ok (.getfield 62, 3) := by decide +kernel
theorem dX3_notes_15 : decode cX3_notes 15 = .ok (.if_icmp .le 48, 3) := by decide +kernel
theorem dX3_notes_18 : decode cX3_notes 18 = .ok (.aload_n 0, 1) := by decide +kernel
theorem dX3_notes_19 : decode cX3_notes 19 = .ok (.iload_n 3, 1) := by decide +kernel
theorem dX3_notes_20 : decode cX3_notes 20 = .ok (.putfield 62, 3) := by decide +kernel
theorem dX3_notes_23 : decode cX3_notes 23 = .ok (.iconst 0, 1) := by decide +kernel
theorem dX3_notes_24 : decode cX3_notes 24 = .ok (.istore 4, 2) := by decide +kernel
theorem dX3_notes_26 : decode cX3_notes 26 = .ok (.iload 4, 2) := by decide +kernel
theorem dX3_notes_28 : decode cX3_notes 28 = .ok (.bipush 9, 2) := by decide +kernel
theorem dX3_notes_30 : decode cX3_notes 30 = .ok (.if_icmp .ge 33, 3) := by decide +kernel
theorem dX3_notes_33 : decode cX3_notes 33 = .ok (.aload_n 0, 1) := by decide +kernel
theorem dX3_notes_34 : decode cX3_notes 34 = .ok (.getfield 29, 3) := by decide +kernel
theorem dX3_notes_37 : decode cX3_notes 37 = .ok (.iload 4, 2) := by decide +kernel
theorem dX3_notes_39 : decode cX3_notes 39 = .ok (.iload 4, 2) := by decide +kernel
theorem dX3_notes_41 : decode cX3_notes 41 = .ok (.iload_n 1, 1) := by decide +kernel
theorem dX3_notes_42 : decode cX3_notes 42 = .ok (.if_icmp .gt 13, 3) := by decide +kernel
theorem dX3_notes_45 : decode cX3_notes 45 = .ok (.aload_n 0, 1) := by decide +kernel
theorem dX3_notes_46 : decode cX3_notes 46 = .ok (.getfield 26, 3) := by decide +kernel
theorem dX3_notes_49 : decode cX3_notes 49 = .ok (.iload 4, 2) := by decide +kernel
theorem dX3_notes_51 : decode cX3_notes 51 = .ok (.iaload, 1) := by decide +kernel
theorem dX3_notes_52 : decode cX3_notes 52 = .ok (.goto 4, 3) := by decide +kernel
theorem dX3_notes_55 : decode cX3_notes 55 = .ok (.iconst 0, 1) := by decide +kernel
theorem dX3_notes_56 : decode cX3_notes 56 = .ok (.iastore, 1) := by decide +kernel
theorem dX3_notes_57 : decode cX3_notes 57 = .ok (.iinc 4 1, 3) := by decide +kernel
theorem dX3_notes_60 : decode cX3_notes 60 = .ok (.goto (-34), 3) := by decide +kernel
theorem dX3_notes_63 : decode cX3_notes 63 = .ok (.return_, 1) := by decide +kernel
theorem dX3_form_0 : decode cX3_form 0 = .ok (.iconst 0, 1) := by decide +kernel
theorem dX3_form_1 : decode cX3_form 1 = .ok (.istore_n 1, 1) := by decide +kernel
theorem dX3_form_2 : decode cX3_form 2 = .ok (.bipush 8, 2) := by decide +kernel
theorem dX3_form_4 : decode cX3_form 4 = .ok (.istore_n 2, 1) := by decide +kernel
theorem dX3_form_5 : decode cX3_form 5 = .ok (.iload_n 2, 1) := by decide +kernel
theorem dX3_form_6 : decode cX3_form 6 = .ok (.ifCond .lt 19, 3) := by decide +kernel
theorem dX3_form_9 : decode cX3_form 9 = .ok (.iconst 3, 1) := by decide +kernel
theorem dX3_form_10 : decode cX3_form 10 = .ok (.iload_n 1, 1) := by decide +kernel
theorem dX3_form_11 : decode cX3_form 11 = .ok (.imul, 1) := by decide +kernel
theorem dX3_form_12 : decode cX3_form 12 = .ok (.aload_n 0, 1) := by decide +kernel
theorem dX3_form_13 : decode cX3_form 13 = .ok (.iload_n 2, 1) := by decide +kernel
theorem dX3_form_14 : decode cX3_form 14 = .ok (.iaload, 1) := by decide +kernel
theorem dX3_form_15 : decode cX3_form 15 = .ok (.iadd, 1) := by decide +kernel
theorem dX3_form_16 : decode cX3_form 16 = .ok (.iconst 1, 1) := by decide +kernel
theorem dX3_form_17 : decode cX3_form 17 = .ok (.iadd, 1) := by decide +kernel
theorem dX3_form_18 : decode cX3_form 18 = .ok (.istore_n 1, 1) := by decide +kernel
theorem dX3_form_19 : decode cX3_form 19 = .ok (.iinc 2 (-1), 3) := by decide +kernel
theorem dX3_form_22 : decode cX3_form 22 = .ok (.goto (-17), 3) := by decide +kernel
theorem dX3_form_25 : decode cX3_form 25 = .ok (.iload_n 1, 1) := by decide +kernel
theorem dX3_form_26 : decode cX3_form 26 = .ok (.ireturn, 1) := by decide +kernel
theorem dX3_put_0 : decode cX3_put 0 = .ok (.aload_n 0, 1) := by decide +kernel
theorem dX3_put_1 : decode cX3_put 1 = .ok (.iconst 0, 1) := by decide +kernel
theorem dX3_put_2 : decode cX3_put 2 = .ok (.putfield 36, 3) := by decide +kernel
theorem dX3_put_5 : decode cX3_put 5 = .ok (.iload_n 1, 1) := by decide +kernel
theorem dX3_put_6 : decode cX3_put 6 = .ok (.invokestatic 75, 3) := by decide +kernel
theorem dX3_put_9 : decode cX3_put 9 = .ok (.ifCond .ne 9, 3) := by decide +kernel
theorem dX3_put_12 : decode cX3_put 12 = .ok (.aload_n 0, 1) := by decide +kernel
theorem dX3_put_13 : decode cX3_put 13 = .ok (.iconst 1, 1) := by decide +kernel
theorem dX3_put_14 : decode cX3_put 14 = .ok (.invokevirtual 79, 3) := by decide +kernel
theorem dX3_put_17 : decode cX3_put 17 = .ok (.ireturn, 1) := by decide +kernel
theorem dX3_put_18 : decode cX3_put 18 = .ok (.iload_n 2, 1) := by decide +kernel
theorem dX3_put_19 : decode cX3_put 19 = .ok (.iconst 0, 1) := by decide +kernel
theorem dX3_put_20 : decode cX3_put 20 = .ok (.bipush 8, 2) := by decide +kernel
theorem dX3_put_22 : decode cX3_put 22 = .ok (.invokestatic 40, 3) := by decide +kernel
theorem dX3_put_25 : decode cX3_put 25 = .ok (.ifCond .eq 10, 3) := by decide +kernel
theorem dX3_put_28 : decode cX3_put 28 = .ok (.iload_n 3, 1) := by decide +kernel
theorem dX3_put_29 : decode cX3_put 29 = .ok (.invokestatic 82, 3) := by decide +kernel
theorem dX3_put_32 : decode cX3_put 32 = .ok (.ifCond .ne 9, 3) := by decide +kernel
theorem dX3_put_35 : decode cX3_put 35 = .ok (.aload_n 0, 1) := by decide +kernel
theorem dX3_put_36 : decode cX3_put 36 = .ok (.iconst 2, 1) := by decide +kernel
theorem dX3_put_37 : decode cX3_put 37 = .ok (.invokevirtual 79, 3) := by decide +kernel
theorem dX3_put_40 : decode cX3_put 40 = .ok (.ireturn, 1) := by decide +kernel
theorem dX3_put_41 : decode cX3_put 41 = .ok (.aload_n 0, 1) := by decide +kernel
theorem dX3_put_42 : decode cX3_put 42 = .ok (.invokevirtual 85, 3) := by decide +kernel
theorem dX3_put_45 : decode cX3_put 45 = .ok (.iconst 0, 1) := by decide +kernel
theorem dX3_put_46 : decode cX3_put 46 = .ok (.bipush 9, 2) := by decide +kernel
theorem dX3_put_48 : decode cX3_put 48 = .ok (.iload_n 1, 1) := by decide +kernel
theorem dX3_put_49 : decode cX3_put 49 = .ok (.imul, 1) := by decide +kernel
theorem dX3_put_50 : decode cX3_put 50 = .ok (.iadd, 1) := by decide +kernel
theorem dX3_put_51 : decode cX3_put 51 = .ok (.iload_n 2, 1) := by decide +kernel
theorem dX3_put_52 : decode cX3_put 52 = .ok (.iadd, 1) := by decide +kernel
theorem dX3_put_53 : decode cX3_put 53 = .ok (.istore 4, 2) := by decide +kernel
theorem dX3_put_55 : decode cX3_put 55 = .ok (.aload_n 0, 1) := by decide +kernel
theorem dX3_put_56 : decode cX3_put 56 = .ok (.getfield 7, 3) := by decide +kernel
theorem dX3_put_59 : decode cX3_put 59 = .ok (.iload 4, 2) := by decide +kernel
theorem dX3_put_61 : decode cX3_put 61 = .ok (.iaload, 1) := by decide +kernel
theorem dX3_put_62 : decode cX3_put 62 = .ok (.istore 5, 2) := by decide +kernel
theorem dX3_put_64 : decode cX3_put 64 = .ok (.aload_n 0, 1) := by decide +kernel
theorem dX3_put_65 : decode cX3_put 65 = .ok (.getfield 7, 3) := by decide +kernel
theorem dX3_put_68 : decode cX3_put 68 = .ok (.iload 4, 2) := by decide +kernel
theorem dX3_put_70 : decode cX3_put 70 = .ok (.iload_n 3, 1) := by decide +kernel
theorem dX3_put_71 : decode cX3_put 71 = .ok (.iastore, 1) := by decide +kernel
theorem dX3_put_72 : decode cX3_put 72 = .ok (.aload_n 0, 1) := by decide +kernel
theorem dX3_put_73 : decode cX3_put 73 = .ok (.iload_n 1, 1) := by decide +kernel
theorem dX3_put_74 : decode cX3_put 74 = .ok (.aload_n 0, 1) := by decide +kernel
theorem dX3_put_75 : decode cX3_put 75 = .ok (.iload_n 1, 1) := by decide +kernel
theorem dX3_put_76 : decode cX3_put 76 = .ok (.invokevirtual 51, 3) := by decide +kernel
theorem dX3_put_79 : decode cX3_put 79 = .ok (.invokevirtual 44, 3) := by decide +kernel
theorem dX3_put_82 : decode cX3_put 82 = .ok (.ifCond .ne 19, 3) := by decide +kernel
theorem dX3_put_85 : decode cX3_put 85 = .ok (.aload_n 0, 1) := by decide +kernel
theorem dX3_put_86 : decode cX3_put 86 = .ok (.getfield 7, 3) := by decide +kernel
theorem dX3_put_89 : decode cX3_put 89 = .ok (.iload 4, 2) := by decide +kernel
theorem dX3_put_91 : decode cX3_put 91 = .ok (.iload 5, 2) := by decide +kernel
theorem dX3_put_93 : decode cX3_put 93 = .ok (.iastore, 1) := by decide +kernel
theorem dX3_put_94 : decode cX3_put 94 = .ok (.aload_n 0, 1) := by decide +kernel
theorem dX3_put_95 : decode cX3_put 95 = .ok (.bipush (-9), 2) := by decide +kernel
theorem dX3_put_97 : decode cX3_put 97 = .ok (.invokevirtual 88, 3) := by decide +kernel
theorem dX3_put_100 : decode cX3_put 100 = .ok (.ireturn, 1) := by decide +kernel
theorem dX3_put_101 : decode cX3_put 101 = .ok (.aload_n 0, 1) := by decide +kernel
theorem dX3_put_102 : decode cX3_put 102 = .ok (.iload_n 1, 1) := by decide +kernel
theorem dX3_put_103 : decode cX3_put 103 = .ok (.invokevirtual 51, 3) := by decide +kernel
theorem dX3_put_106 : decode cX3_put 106 = .ok (.ireturn, 1) := by decide +kernel
theorem dX3_copy_0 : decode cX3_copy 0 = .ok (.aload_n 0, 1) := by decide +kernel
theorem dX3_copy_1 : decode cX3_copy 1 = .ok (.iconst 0, 1) := by decide +kernel
theorem dX3_copy_2 : decode cX3_copy 2 = .ok (.putfield 36, 3) := by decide +kernel
theorem dX3_copy_5 : decode cX3_copy 5 = .ok (.iload_n 1, 1) := by decide +kernel
theorem dX3_copy_6 : decode cX3_copy 6 = .ok (.invokestatic 75, 3) := by decide +kernel
theorem dX3_copy_9 : decode cX3_copy 9 = .ok (.ifCond .eq 10, 3) := by decide +kernel
theorem dX3_copy_12 : decode cX3_copy 12 = .ok (.iload_n 2, 1) := by decide +kernel
theorem dX3_copy_13 : decode cX3_copy 13 = .ok (.invokestatic 75, 3) := by decide +kernel
theorem dX3_copy_16 : decode cX3_copy 16 = .ok (.ifCond .ne 9, 3) := by decide +kernel
theorem dX3_copy_19 : decode cX3_copy 19 = .ok (.aload_n 0, 1) := by decide +kernel
theorem dX3_copy_20 : decode cX3_copy 20 = .ok (.iconst 1, 1) := by decide +kernel
theorem dX3_copy_21 : decode cX3_copy 21 = .ok (.invokevirtual 79, 3) := by decide +kernel
theorem dX3_copy_24 : decode cX3_copy 24 = .ok (.ireturn, 1) := by decide +kernel
theorem dX3_copy_25 : decode cX3_copy 25 = .ok (.aload_n 0, 1) := by decide +kernel
theorem dX3_copy_26 : decode cX3_copy 26 = .ok (.invokevirtual 85, 3) := by decide +kernel
theorem dX3_copy_29 : decode cX3_copy 29 = .ok (.iconst 0, 1) := by decide +kernel
theorem dX3_copy_30 : decode cX3_copy 30 = .ok (.istore_n 3, 1) := by decide +kernel
theorem dX3_copy_31 : decode cX3_copy 31 = .ok (.iload_n 3, 1) := by decide +kernel
theorem dX3_copy_32 : decode cX3_copy 32 = .ok (.bipush 9, 2) := by decide +kernel
theorem dX3_copy_34 : decode cX3_copy 34 = .ok (.if_icmp .ge 35, 3) := by decide +kernel
theorem dX3_copy_37 : decode cX3_copy 37 = .ok (.aload_n 0, 1) := by decide +kernel
theorem dX3_copy_38 : decode cX3_copy 38 = .ok (.getfield 7, 3) := by decide +kernel
theorem dX3_copy_41 : decode cX3_copy 41 = .ok (.iconst 0, 1) := by decide +kernel
theorem dX3_copy_42 : decode cX3_copy 42 = .ok (.bipush 9, 2) := by decide +kernel
theorem dX3_copy_44 : decode cX3_copy 44 = .ok (.iload_n 2, 1) := by decide +kernel
theorem dX3_copy_45 : decode cX3_copy 45 = .ok (.imul, 1) := by decide +kernel
theorem dX3_copy_46 : decode cX3_copy 46 = .ok (.iadd, 1) := by decide +kernel
theorem dX3_copy_47 : decode cX3_copy 47 = .ok (.iload_n 3, 1) := by decide +kernel
theorem dX3_copy_48 : decode cX3_copy 48 = .ok (.iadd, 1) := by decide +kernel
theorem dX3_copy_49 : decode cX3_copy 49 = .ok (.aload_n 0, 1) := by decide +kernel
theorem dX3_copy_50 : decode cX3_copy 50 = .ok (.getfield 7, 3) := by decide +kernel
theorem dX3_copy_53 : decode cX3_copy 53 = .ok (.iconst 0, 1) := by decide +kernel
theorem dX3_copy_54 : decode cX3_copy 54 = .ok (.bipush 9, 2) := by decide +kernel
theorem dX3_copy_56 : decode cX3_copy 56 = .ok (.iload_n 1, 1) := by decide +kernel
theorem dX3_copy_57 : decode cX3_copy 57 = .ok (.imul, 1) := by decide +kernel
theorem dX3_copy_58 : decode cX3_copy 58 = .ok (.iadd, 1) := by decide +kernel
theorem dX3_copy_59 : decode cX3_copy 59 = .ok (.iload_n 3, 1) := by decide +kernel
theorem dX3_copy_60 : decode cX3_copy 60 = .ok (.iadd, 1) := by decide +kernel
theorem dX3_copy_61 : decode cX3_copy 61 = .ok (.iaload, 1) := by decide +kernel
theorem dX3_copy_62 : decode cX3_copy 62 = .ok (.iastore, 1) := by decide +kernel
theorem dX3_copy_63 : decode cX3_copy 63 = .ok (.iinc 3 1, 3) := by decide +kernel
theorem dX3_copy_66 : decode cX3_copy 66 = .ok (.goto (-35), 3) := by decide +kernel
theorem dX3_copy_69 : decode cX3_copy 69 = .ok (.aload_n 0, 1) := by decide +kernel
theorem dX3_copy_70 : decode cX3_copy 70 = .ok (.iload_n 2, 1) := by decide +kernel
theorem dX3_copy_71 : decode cX3_copy 71 = .ok (.invokevirtual 51, 3) := by decide +kernel
theorem dX3_copy_74 : decode cX3_copy 74 = .ok (.ireturn, 1) := by decide +kernel
theorem dX3_divide_0 : decode cX3_divide 0 = .ok (.aload_n 0, 1) := by decide +kernel
theorem dX3_divide_1 : decode cX3_divide 1 = .ok (.iconst 0, 1) := by decide +kernel
theorem dX3_divide_2 : decode cX3_divide 2 = .ok (.putfield 36, 3) := by decide +kernel
theorem dX3_divide_5 : decode cX3_divide 5 = .ok (.iload_n 1, 1) := by decide +kernel
theorem dX3_divide_6 : decode cX3_divide 6 = .ok (.invokestatic 75, 3) := by decide +kernel
theorem dX3_divide_9 : decode cX3_divide 9 = .ok (.ifCond .ne 9, 3) := by decide +kernel
theorem dX3_divide_12 : decode cX3_divide 12 = .ok (.aload_n 0, 1) := by decide +kernel
theorem dX3_divide_13 : decode cX3_divide 13 = .ok (.iconst 1, 1) := by decide +kernel
theorem dX3_divide_14 : decode cX3_divide 14 = .ok (.invokevirtual 79, 3) := by decide +kernel
theorem dX3_divide_17 : decode cX3_divide 17 = .ok (.ireturn, 1) := by decide +kernel
theorem dX3_divide_18 : decode cX3_divide 18 = .ok (.iload_n 2, 1) := by decide +kernel
theorem dX3_divide_19 : decode cX3_divide 19 = .ok (.invokestatic 82, 3) := by decide +kernel
theorem dX3_divide_22 : decode cX3_divide 22 = .ok (.ifCond .ne 9, 3) := by decide +kernel
theorem dX3_divide_25 : decode cX3_divide 25 = .ok (.aload_n 0, 1) := by decide +kernel
theorem dX3_divide_26 : decode cX3_divide 26 = .ok (.iconst 2, 1) := by decide +kernel
theorem dX3_divide_27 : decode cX3_divide 27 = .ok (.invokevirtual 79, 3) := by decide +kernel
theorem dX3_divide_30 : decode cX3_divide 30 = .ok (.ireturn, 1) := by decide +kernel
theorem dX3_divide_31 : decode cX3_divide 31 = .ok (.aload_n 0, 1) := by decide +kernel
theorem dX3_divide_32 : decode cX3_divide 32 = .ok (.invokevirtual 85, 3) := by decide +kernel
theorem dX3_divide_35 : decode cX3_divide 35 = .ok (.aload_n 0, 1) := by decide +kernel
theorem dX3_divide_36 : decode cX3_divide 36 = .ok (.iload_n 1, 1) := by decide +kernel
theorem dX3_divide_37 : decode cX3_divide 37 = .ok (.iload_n 2, 1) := by decide +kernel
theorem dX3_divide_38 : decode cX3_divide 38 = .ok (.invokevirtual 91, 3) := by decide +kernel
theorem dX3_divide_41 : decode cX3_divide 41 = .ok (.ifCond .ne 10, 3) := by decide +kernel
theorem dX3_divide_44 : decode cX3_divide 44 = .ok (.aload_n 0, 1) := by decide +kernel
theorem dX3_divide_45 : decode cX3_divide 45 = .ok (.bipush (-9), 2) := by decide +kernel
theorem dX3_divide_47 : decode cX3_divide 47 = .ok (.invokevirtual 88, 3) := by decide +kernel
theorem dX3_divide_50 : decode cX3_divide 50 = .ok (.ireturn, 1) := by decide +kernel
theorem dX3_divide_51 : decode cX3_divide 51 = .ok (.iconst 0, 1) := by decide +kernel
theorem dX3_divide_52 : decode cX3_divide 52 = .ok (.istore_n 3, 1) := by decide +kernel
theorem dX3_divide_53 : decode cX3_divide 53 = .ok (.iload_n 3, 1) := by decide +kernel
theorem dX3_divide_54 : decode cX3_divide 54 = .ok (.bipush 9, 2) := by decide +kernel
theorem dX3_divide_56 : decode cX3_divide 56 = .ok (.if_icmp .ge 28, 3) := by decide +kernel
theorem dX3_divide_59 : decode cX3_divide 59 = .ok (.aload_n 0, 1) := by decide +kernel
theorem dX3_divide_60 : decode cX3_divide 60 = .ok (.getfield 7, 3) := by decide +kernel
theorem dX3_divide_63 : decode cX3_divide 63 = .ok (.iconst 0, 1) := by decide +kernel
theorem dX3_divide_64 : decode cX3_divide 64 = .ok (.bipush 9, 2) := by decide +kernel
theorem dX3_divide_66 : decode cX3_divide 66 = .ok (.iload_n 1, 1) := by decide +kernel
theorem dX3_divide_67 : decode cX3_divide 67 = .ok (.imul, 1) := by decide +kernel
theorem dX3_divide_68 : decode cX3_divide 68 = .ok (.iadd, 1) := by decide +kernel
theorem dX3_divide_69 : decode cX3_divide 69 = .ok (.iload_n 3, 1) := by decide +kernel
theorem dX3_divide_70 : decode cX3_divide 70 = .ok (.iadd, 1) := by decide +kernel
theorem dX3_divide_71 : decode cX3_divide 71 = .ok (.aload_n 0, 1) := by decide +kernel
theorem dX3_divide_72 : decode cX3_divide 72 = .ok (.getfield 29, 3) := by decide +kernel
theorem dX3_divide_75 : decode cX3_divide 75 = .ok (.iload_n 3, 1) := by decide +kernel
theorem dX3_divide_76 : decode cX3_divide 76 = .ok (.iaload, 1) := by decide +kernel
theorem dX3_divide_77 : decode cX3_divide 77 = .ok (.iastore, 1) := by decide +kernel
theorem dX3_divide_78 : decode cX3_divide 78 = .ok (.iinc 3 1, 3) := by decide +kernel
theorem dX3_divide_81 : decode cX3_divide 81 = .ok (.goto (-28), 3) := by decide +kernel
theorem dX3_divide_84 : decode cX3_divide 84 = .ok (.aload_n 0, 1) := by decide +kernel
theorem dX3_divide_85 : decode cX3_divide 85 = .ok (.getfield 7, 3) := by decide +kernel
theorem dX3_divide_88 : decode cX3_divide 88 = .ok (.bipush 54, 2) := by decide +kernel
theorem dX3_divide_90 : decode cX3_divide 90 = .ok (.dup2, 1) := by decide +kernel
theorem dX3_divide_91 : decode cX3_divide 91 = .ok (.iaload, 1) := by decide +kernel
theorem dX3_divide_92 : decode cX3_divide 92 = .ok (.iconst 1, 1) := by decide +kernel
theorem dX3_divide_93 : decode cX3_divide 93 = .ok (.iadd, 1) := by decide +kernel
theorem dX3_divide_94 : decode cX3_divide 94 = .ok (.iastore, 1) := by decide +kernel
theorem dX3_divide_95 : decode cX3_divide 95 = .ok (.aload_n 0, 1) := by decide +kernel
theorem dX3_divide_96 : decode cX3_divide 96 = .ok (.iload_n 1, 1) := by decide +kernel
theorem dX3_divide_97 : decode cX3_divide 97 = .ok (.invokevirtual 51, 3) := by decide +kernel
theorem dX3_divide_100 : decode cX3_divide 100 = .ok (.ireturn, 1) := by decide +kernel
theorem dX3_root_0 : decode cX3_root 0 = .ok (.aload_n 0, 1) := by decide +kernel
theorem dX3_root_1 : decode cX3_root 1 = .ok (.iconst 0, 1) := by decide +kernel
theorem dX3_root_2 : decode cX3_root 2 = .ok (.putfield 36, 3) := by decide +kernel
theorem dX3_root_5 : decode cX3_root 5 = .ok (.iload_n 1, 1) := by decide +kernel
theorem dX3_root_6 : decode cX3_root 6 = .ok (.bipush (-9), 2) := by decide +kernel
theorem dX3_root_8 : decode cX3_root 8 = .ok (.bipush 9, 2) := by decide +kernel
theorem dX3_root_10 : decode cX3_root 10 = .ok (.invokestatic 40, 3) := by decide +kernel
theorem dX3_root_13 : decode cX3_root 13 = .ok (.ifCond .ne 9, 3) := by decide +kernel
theorem dX3_root_16 : decode cX3_root 16 = .ok (.aload_n 0, 1) := by decide +kernel
theorem dX3_root_17 : decode cX3_root 17 = .ok (.iconst 1, 1) := by decide +kernel
theorem dX3_root_18 : decode cX3_root 18 = .ok (.invokevirtual 79, 3) := by decide +kernel
theorem dX3_root_21 : decode cX3_root 21 = .ok (.ireturn, 1) := by decide +kernel
theorem dX3_root_22 : decode cX3_root 22 = .ok (.aload_n 0, 1) := by decide +kernel
theorem dX3_root_23 : decode cX3_root 23 = .ok (.invokevirtual 85, 3) := by decide +kernel
theorem dX3_root_26 : decode cX3_root 26 = .ok (.aload_n 0, 1) := by decide +kernel
theorem dX3_root_27 : decode cX3_root 27 = .ok (.getfield 7, 3) := by decide +kernel
theorem dX3_root_30 : decode cX3_root 30 = .ok (.bipush 45, 2) := by decide +kernel
theorem dX3_root_32 : decode cX3_root 32 = .ok (.iaload, 1) := by decide +kernel
theorem dX3_root_33 : decode cX3_root 33 = .ok (.bipush 8, 2) := by decide +kernel
theorem dX3_root_35 : decode cX3_root 35 = .ok (.if_icmp .ne 10, 3) := by decide +kernel
theorem dX3_root_38 : decode cX3_root 38 = .ok (.aload_n 0, 1) := by decide +kernel
theorem dX3_root_39 : decode cX3_root 39 = .ok (.bipush (-9), 2) := by decide +kernel
theorem dX3_root_41 : decode cX3_root 41 = .ok (.invokevirtual 88, 3) := by decide +kernel
theorem dX3_root_44 : decode cX3_root 44 = .ok (.ireturn, 1) := by decide +kernel
theorem dX3_root_45 : decode cX3_root 45 = .ok (.aload_n 0, 1) := by decide +kernel
theorem dX3_root_46 : decode cX3_root 46 = .ok (.getfield 7, 3) := by decide +kernel
theorem dX3_root_49 : decode cX3_root 49 = .ok (.bipush 46, 2) := by decide +kernel
theorem dX3_root_51 : decode cX3_root 51 = .ok (.aload_n 0, 1) := by decide +kernel
theorem dX3_root_52 : decode cX3_root 52 = .ok (.getfield 7, 3) := by decide +kernel
theorem dX3_root_55 : decode cX3_root 55 = .ok (.bipush 45, 2) := by decide +kernel
theorem dX3_root_57 : decode cX3_root 57 = .ok (.iaload, 1) := by decide +kernel
theorem dX3_root_58 : decode cX3_root 58 = .ok (.iadd, 1) := by decide +kernel
theorem dX3_root_59 : decode cX3_root 59 = .ok (.iload_n 1, 1) := by decide +kernel
theorem dX3_root_60 : decode cX3_root 60 = .ok (.iastore, 1) := by decide +kernel
theorem dX3_root_61 : decode cX3_root 61 = .ok (.aload_n 0, 1) := by decide +kernel
theorem dX3_root_62 : decode cX3_root 62 = .ok (.getfield 7, 3) := by decide +kernel
theorem dX3_root_65 : decode cX3_root 65 = .ok (.bipush 45, 2) := by decide +kernel
theorem dX3_root_67 : decode cX3_root 67 = .ok (.dup2, 1) := by decide +kernel
theorem dX3_root_68 : decode cX3_root 68 = .ok (.iaload, 1) := by decide +kernel
theorem dX3_root_69 : decode cX3_root 69 = .ok (.iconst 1, 1) := by decide +kernel
theorem dX3_root_70 : decode cX3_root 70 = .ok (.iadd, 1) := by decide +kernel
theorem dX3_root_71 : decode cX3_root 71 = .ok (.iastore, 1) := by decide +kernel
theorem dX3_root_72 : decode cX3_root 72 = .ok (.aload_n 0, 1) := by decide +kernel
theorem dX3_root_73 : decode cX3_root 73 = .ok (.getfield 7, 3) := by decide +kernel
theorem dX3_root_76 : decode cX3_root 76 = .ok (.bipush 45, 2) := by decide +kernel
theorem dX3_root_78 : decode cX3_root 78 = .ok (.iaload, 1) := by decide +kernel
theorem dX3_root_79 : decode cX3_root 79 = .ok (.ireturn, 1) := by decide +kernel
theorem dX3_unroot_0 : decode cX3_unroot 0 = .ok (.aload_n 0, 1) := by decide +kernel
theorem dX3_unroot_1 : decode cX3_unroot 1 = .ok (.iconst 0, 1) := by decide +kernel
theorem dX3_unroot_2 : decode cX3_unroot 2 = .ok (.putfield 36, 3) := by decide +kernel
theorem dX3_unroot_5 : decode cX3_unroot 5 = .ok (.aload_n 0, 1) := by decide +kernel
theorem dX3_unroot_6 : decode cX3_unroot 6 = .ok (.invokevirtual 85, 3) := by decide +kernel
theorem dX3_unroot_9 : decode cX3_unroot 9 = .ok (.aload_n 0, 1) := by decide +kernel
theorem dX3_unroot_10 : decode cX3_unroot 10 = .ok (.getfield 7, 3) := by decide +kernel
theorem dX3_unroot_13 : decode cX3_unroot 13 = .ok (.bipush 45, 2) := by decide +kernel
theorem dX3_unroot_15 : decode cX3_unroot 15 = .ok (.iaload, 1) := by decide +kernel
theorem dX3_unroot_16 : decode cX3_unroot 16 = .ok (.ifCond .ne 10, 3) := by decide +kernel
theorem dX3_unroot_19 : decode cX3_unroot 19 = .ok (.aload_n 0, 1) := by decide +kernel
theorem dX3_unroot_20 : decode cX3_unroot 20 = .ok (.bipush 99, 2) := by decide +kernel
theorem dX3_unroot_22 : decode cX3_unroot 22 = .ok (.invokevirtual 88, 3) := by decide +kernel
theorem dX3_unroot_25 : decode cX3_unroot 25 = .ok (.ireturn, 1) := by decide +kernel
theorem dX3_unroot_26 : decode cX3_unroot 26 = .ok (.aload_n 0, 1) := by decide +kernel
theorem dX3_unroot_27 : decode cX3_unroot 27 = .ok (.getfield 7, 3) := by decide +kernel
theorem dX3_unroot_30 : decode cX3_unroot 30 = .ok (.bipush 45, 2) := by decide +kernel
theorem dX3_unroot_32 : decode cX3_unroot 32 = .ok (.dup2, 1) := by decide +kernel
theorem dX3_unroot_33 : decode cX3_unroot 33 = .ok (.iaload, 1) := by decide +kernel
theorem dX3_unroot_34 : decode cX3_unroot 34 = .ok (.iconst 1, 1) := by decide +kernel
theorem dX3_unroot_35 : decode cX3_unroot 35 = .ok (.isub, 1) := by decide +kernel
theorem dX3_unroot_36 : decode cX3_unroot 36 = .ok (.iastore, 1) := by decide +kernel
theorem dX3_unroot_37 : decode cX3_unroot 37 = .ok (.aload_n 0, 1) := by decide +kernel
theorem dX3_unroot_38 : decode cX3_unroot 38 = .ok (.getfield 7, 3) := by decide +kernel
theorem dX3_unroot_41 : decode cX3_unroot 41 = .ok (.bipush 46, 2) := by decide +kernel
theorem dX3_unroot_43 : decode cX3_unroot 43 = .ok (.aload_n 0, 1) := by decide +kernel
theorem dX3_unroot_44 : decode cX3_unroot 44 = .ok (.getfield 7, 3) := by decide +kernel
theorem dX3_unroot_47 : decode cX3_unroot 47 = .ok (.bipush 45, 2) := by decide +kernel
theorem dX3_unroot_49 : decode cX3_unroot 49 = .ok (.iaload, 1) := by decide +kernel
theorem dX3_unroot_50 : decode cX3_unroot 50 = .ok (.iadd, 1) := by decide +kernel
theorem dX3_unroot_51 : decode cX3_unroot 51 = .ok (.iaload, 1) := by decide +kernel
theorem dX3_unroot_52 : decode cX3_unroot 52 = .ok (.istore_n 1, 1) := by decide +kernel
theorem dX3_unroot_53 : decode cX3_unroot 53 = .ok (.aload_n 0, 1) := by decide +kernel
theorem dX3_unroot_54 : decode cX3_unroot 54 = .ok (.getfield 7, 3) := by decide +kernel
theorem dX3_unroot_57 : decode cX3_unroot 57 = .ok (.bipush 46, 2) := by decide +kernel
theorem dX3_unroot_59 : decode cX3_unroot 59 = .ok (.aload_n 0, 1) := by decide +kernel
theorem dX3_unroot_60 : decode cX3_unroot 60 = .ok (.getfield 7, 3) := by decide +kernel
theorem dX3_unroot_63 : decode cX3_unroot 63 = .ok (.bipush 45, 2) := by decide +kernel
theorem dX3_unroot_65 : decode cX3_unroot 65 = .ok (.iaload, 1) := by decide +kernel
theorem dX3_unroot_66 : decode cX3_unroot 66 = .ok (.iadd, 1) := by decide +kernel
theorem dX3_unroot_67 : decode cX3_unroot 67 = .ok (.iconst 0, 1) := by decide +kernel
theorem dX3_unroot_68 : decode cX3_unroot 68 = .ok (.iastore, 1) := by decide +kernel
theorem dX3_unroot_69 : decode cX3_unroot 69 = .ok (.iload_n 1, 1) := by decide +kernel
theorem dX3_unroot_70 : decode cX3_unroot 70 = .ok (.ireturn, 1) := by decide +kernel
theorem dX3_multiplies_0 : decode cX3_multiplies 0 = .ok (.iconst 0, 1) := by decide +kernel
theorem dX3_multiplies_1 : decode cX3_multiplies 1 = .ok (.istore_n 1, 1) := by decide +kernel
theorem dX3_multiplies_2 : decode cX3_multiplies 2 = .ok (.iload_n 1, 1) := by decide +kernel
theorem dX3_multiplies_3 : decode cX3_multiplies 3 = .ok (.bipush 9, 2) := by decide +kernel
theorem dX3_multiplies_5 : decode cX3_multiplies 5 = .ok (.if_icmp .ge 16, 3) := by decide +kernel
theorem dX3_multiplies_8 : decode cX3_multiplies 8 = .ok (.aload_n 0, 1) := by decide +kernel
theorem dX3_multiplies_9 : decode cX3_multiplies 9 = .ok (.getfield 32, 3) := by decide +kernel
theorem dX3_multiplies_12 : decode cX3_multiplies 12 = .ok (.iload_n 1, 1) := by decide +kernel
theorem dX3_multiplies_13 : decode cX3_multiplies 13 = .ok (.lconst 0, 1) := by decide +kernel
theorem dX3_multiplies_14 : decode cX3_multiplies 14 = .ok (.lastore, 1) := by decide +kernel
theorem dX3_multiplies_15 : decode cX3_multiplies 15 = .ok (.iinc 1 1, 3) := by decide +kernel
theorem dX3_multiplies_18 : decode cX3_multiplies 18 = .ok (.goto (-16), 3) := by decide +kernel
theorem dX3_multiplies_21 : decode cX3_multiplies 21 = .ok (.aload_n 0, 1) := by decide +kernel
theorem dX3_multiplies_22 : decode cX3_multiplies 22 = .ok (.getfield 32, 3) := by decide +kernel
theorem dX3_multiplies_25 : decode cX3_multiplies 25 = .ok (.iconst 0, 1) := by decide +kernel
theorem dX3_multiplies_26 : decode cX3_multiplies 26 = .ok (.lconst 1, 1) := by decide +kernel
theorem dX3_multiplies_27 : decode cX3_multiplies 27 = .ok (.lastore, 1) := by decide +kernel
theorem dX3_multiplies_28 : decode cX3_multiplies 28 = .ok (.iconst 0, 1) := by decide +kernel
theorem dX3_multiplies_29 : decode cX3_multiplies 29 = .ok (.istore_n 1, 1) := by decide +kernel
theorem dX3_multiplies_30 : decode cX3_multiplies 30 = .ok (.iload_n 1, 1) := by decide +kernel
theorem dX3_multiplies_31 : decode cX3_multiplies 31 = .ok (.aload_n 0, 1) := by decide +kernel
theorem dX3_multiplies_32 : decode cX3_multiplies 32 = .ok (.getfield 7, 3) := by decide +kernel
theorem dX3_multiplies_35 : decode cX3_multiplies 35 = .ok (.bipush 45, 2) := by decide +kernel
theorem dX3_multiplies_37 : decode cX3_multiplies 37 = .ok (.iaload, 1) := by decide +kernel
theorem dX3_multiplies_38 : decode cX3_multiplies 38 = .ok (.if_icmp .ge 62, 3) := by decide +kernel
theorem dX3_multiplies_41 : decode cX3_multiplies 41 = .ok (.bipush 8, 2) := by decide +kernel
theorem dX3_multiplies_43 : decode cX3_multiplies 43 = .ok (.istore_n 2, 1) := by decide +kernel
theorem dX3_multiplies_44 : decode cX3_multiplies 44 = .ok (.iload_n 2, 1) := by decide +kernel
theorem dX3_multiplies_45 : decode cX3_multiplies 45 = .ok (.ifCond .lt 49, 3) := by decide +kernel
theorem dX3_multiplies_48 : decode cX3_multiplies 48 = .ok (.aload_n 0, 1) := by decide +kernel
theorem dX3_multiplies_49 : decode cX3_multiplies 49 = .ok (.getfield 32, 3) := by decide +kernel
theorem dX3_multiplies_52 : decode cX3_multiplies 52 = .ok (.iload_n 2, 1) := by decide +kernel
theorem dX3_multiplies_53 : decode cX3_multiplies 53 = .ok (.iload_n 2, 1) := by decide +kernel
theorem dX3_multiplies_54 : decode cX3_multiplies 54 = .ok (.ifCond .ne 7, 3) := by decide +kernel
theorem dX3_multiplies_57 : decode cX3_multiplies 57 = .ok (.lconst 0, 1) := by decide +kernel
theorem dX3_multiplies_58 : decode cX3_multiplies 58 = .ok (.goto 11, 3) := by decide +kernel
theorem dX3_multiplies_61 : decode cX3_multiplies 61 = .ok (.aload_n 0, 1) := by decide +kernel
theorem dX3_multiplies_62 : decode cX3_multiplies 62 = .ok (.getfield 32, 3) := by decide +kernel
theorem dX3_multiplies_65 : decode cX3_multiplies 65 = .ok (.iload_n 2, 1) := by decide +kernel
theorem dX3_multiplies_66 : decode cX3_multiplies 66 = .ok (.iconst 1, 1) := by decide +kernel
theorem dX3_multiplies_67 : decode cX3_multiplies 67 = .ok (.isub, 1) := by decide +kernel
theorem dX3_multiplies_68 : decode cX3_multiplies 68 = .ok (.laload, 1) := by decide +kernel
theorem dX3_multiplies_69 : decode cX3_multiplies 69 = .ok (.aload_n 0, 1) := by decide +kernel
theorem dX3_multiplies_70 : decode cX3_multiplies 70 = .ok (.getfield 7, 3) := by decide +kernel
theorem dX3_multiplies_73 : decode cX3_multiplies 73 = .ok (.bipush 46, 2) := by decide +kernel
theorem dX3_multiplies_75 : decode cX3_multiplies 75 = .ok (.iload_n 1, 1) := by decide +kernel
theorem dX3_multiplies_76 : decode cX3_multiplies 76 = .ok (.iadd, 1) := by decide +kernel
theorem dX3_multiplies_77 : decode cX3_multiplies 77 = .ok (.iaload, 1) := by decide +kernel
theorem dX3_multiplies_78 : decode cX3_multiplies 78 = .ok (.i2l, 1) := by decide +kernel
theorem dX3_multiplies_79 : decode cX3_multiplies 79 = .ok (.aload_n 0, 1) := by decide +kernel
theorem dX3_multiplies_80 : decode cX3_multiplies 80 = .ok (.getfield 32, 3) := by decide +kernel
theorem dX3_multiplies_83 : decode cX3_multiplies 83 = .ok (.iload_n 2, 1) := by decide +kernel
theorem dX3_multiplies_84 : decode cX3_multiplies 84 = .ok (.laload, 1) := by decide +kernel
theorem dX3_multiplies_85 : decode cX3_multiplies 85 = .ok (.lmul, 1) := by decide +kernel
theorem dX3_multiplies_86 : decode cX3_multiplies 86 = .ok (.lsub, 1) := by decide +kernel
theorem dX3_multiplies_87 : decode cX3_multiplies 87 = .ok (.lastore, 1) := by decide +kernel
theorem dX3_multiplies_88 : decode cX3_multiplies 88 = .ok (.iinc 2 (-1), 3) := by decide +kernel
theorem dX3_multiplies_91 : decode cX3_multiplies 91 = .ok (.goto (-47), 3) := by decide +kernel
theorem dX3_multiplies_94 : decode cX3_multiplies 94 = .ok (.iinc 1 1, 3) := by decide +kernel
theorem dX3_multiplies_97 : decode cX3_multiplies 97 = .ok (.goto (-67), 3) := by decide +kernel
theorem dX3_multiplies_100 : decode cX3_multiplies 100 = .ok (.return_, 1) := by decide +kernel
theorem dX3_lower_0 : decode cX3_lower 0 = .ok (.aload_n 0, 1) := by decide +kernel
theorem dX3_lower_1 : decode cX3_lower 1 = .ok (.iconst 0, 1) := by decide +kernel
theorem dX3_lower_2 : decode cX3_lower 2 = .ok (.putfield 36, 3) := by decide +kernel
theorem dX3_lower_5 : decode cX3_lower 5 = .ok (.iload_n 1, 1) := by decide +kernel
theorem dX3_lower_6 : decode cX3_lower 6 = .ok (.invokestatic 75, 3) := by decide +kernel
theorem dX3_lower_9 : decode cX3_lower 9 = .ok (.ifCond .ne 9, 3) := by decide +kernel
theorem dX3_lower_12 : decode cX3_lower 12 = .ok (.aload_n 0, 1) := by decide +kernel
theorem dX3_lower_13 : decode cX3_lower 13 = .ok (.iconst 1, 1) := by decide +kernel
theorem dX3_lower_14 : decode cX3_lower 14 = .ok (.invokevirtual 79, 3) := by decide +kernel
theorem dX3_lower_17 : decode cX3_lower 17 = .ok (.ireturn, 1) := by decide +kernel
theorem dX3_lower_18 : decode cX3_lower 18 = .ok (.aload_n 0, 1) := by decide +kernel
theorem dX3_lower_19 : decode cX3_lower 19 = .ok (.invokevirtual 85, 3) := by decide +kernel
theorem dX3_lower_22 : decode cX3_lower 22 = .ok (.aload_n 0, 1) := by decide +kernel
theorem dX3_lower_23 : decode cX3_lower 23 = .ok (.invokevirtual 94, 3) := by decide +kernel
theorem dX3_lower_26 : decode cX3_lower 26 = .ok (.iconst 0, 1) := by decide +kernel
theorem dX3_lower_27 : decode cX3_lower 27 = .ok (.istore_n 2, 1) := by decide +kernel
theorem dX3_lower_28 : decode cX3_lower 28 = .ok (.iload_n 2, 1) := by decide +kernel
theorem dX3_lower_29 : decode cX3_lower 29 = .ok (.bipush 9, 2) := by decide +kernel
theorem dX3_lower_31 : decode cX3_lower 31 = .ok (.if_icmp .ge 53, 3) := by decide +kernel
theorem dX3_lower_34 : decode cX3_lower 34 = .ok (.aload_n 0, 1) := by decide +kernel
theorem dX3_lower_35 : decode cX3_lower 35 = .ok (.getfield 7, 3) := by decide +kernel
theorem dX3_lower_38 : decode cX3_lower 38 = .ok (.iconst 0, 1) := by decide +kernel
theorem dX3_lower_39 : decode cX3_lower 39 = .ok (.bipush 9, 2) := by decide +kernel
theorem dX3_lower_41 : decode cX3_lower 41 = .ok (.iload_n 1, 1) := by decide +kernel
theorem dX3_lower_42 : decode cX3_lower 42 = .ok (.imul, 1) := by decide +kernel
theorem dX3_lower_43 : decode cX3_lower 43 = .ok (.iadd, 1) := by decide +kernel
theorem dX3_lower_44 : decode cX3_lower 44 = .ok (.iload_n 2, 1) := by decide +kernel
theorem dX3_lower_45 : decode cX3_lower 45 = .ok (.iadd, 1) := by decide +kernel
theorem dX3_lower_46 : decode cX3_lower 46 = .ok (.aload_n 0, 1) := by decide +kernel
theorem dX3_lower_47 : decode cX3_lower 47 = .ok (.getfield 32, 3) := by decide +kernel
theorem dX3_lower_50 : decode cX3_lower 50 = .ok (.iload_n 2, 1) := by decide +kernel
theorem dX3_lower_51 : decode cX3_lower 51 = .ok (.laload, 1) := by decide +kernel
theorem dX3_lower_52 : decode cX3_lower 52 = .ok (.lconst 0, 1) := by decide +kernel
theorem dX3_lower_53 : decode cX3_lower 53 = .ok (.lcmp, 1) := by decide +kernel
theorem dX3_lower_54 : decode cX3_lower 54 = .ok (.ifCond .le 7, 3) := by decide +kernel
theorem dX3_lower_57 : decode cX3_lower 57 = .ok (.iconst 1, 1) := by decide +kernel
theorem dX3_lower_58 : decode cX3_lower 58 = .ok (.goto 19, 3) := by decide +kernel
theorem dX3_lower_61 : decode cX3_lower 61 = .ok (.aload_n 0, 1) := by decide +kernel
theorem dX3_lower_62 : decode cX3_lower 62 = .ok (.getfield 32, 3) := by decide +kernel
theorem dX3_lower_65 : decode cX3_lower 65 = .ok (.iload_n 2, 1) := by decide +kernel
theorem dX3_lower_66 : decode cX3_lower 66 = .ok (.laload, 1) := by decide +kernel
theorem dX3_lower_67 : decode cX3_lower 67 = .ok (.lconst 0, 1) := by decide +kernel
theorem dX3_lower_68 : decode cX3_lower 68 = .ok (.lcmp, 1) := by decide +kernel
theorem dX3_lower_69 : decode cX3_lower 69 = .ok (.ifCond .ge 7, 3) := by decide +kernel
theorem dX3_lower_72 : decode cX3_lower 72 = .ok (.iconst (-1), 1) := by decide +kernel
theorem dX3_lower_73 : decode cX3_lower 73 = .ok (.goto 4, 3) := by decide +kernel
theorem dX3_lower_76 : decode cX3_lower 76 = .ok (.iconst 0, 1) := by decide +kernel
theorem dX3_lower_77 : decode cX3_lower 77 = .ok (.iastore, 1) := by decide +kernel
theorem dX3_lower_78 : decode cX3_lower 78 = .ok (.iinc 2 1, 3) := by decide +kernel
theorem dX3_lower_81 : decode cX3_lower 81 = .ok (.goto (-53), 3) := by decide +kernel
theorem dX3_lower_84 : decode cX3_lower 84 = .ok (.aload_n 0, 1) := by decide +kernel
theorem dX3_lower_85 : decode cX3_lower 85 = .ok (.iload_n 1, 1) := by decide +kernel
theorem dX3_lower_86 : decode cX3_lower 86 = .ok (.invokevirtual 51, 3) := by decide +kernel
theorem dX3_lower_89 : decode cX3_lower 89 = .ok (.ireturn, 1) := by decide +kernel
theorem dX3_append_0 : decode cX3_append 0 = .ok (.aload_n 0, 1) := by decide +kernel
theorem dX3_append_1 : decode cX3_append 1 = .ok (.iconst 0, 1) := by decide +kernel
theorem dX3_append_2 : decode cX3_append 2 = .ok (.putfield 36, 3) := by decide +kernel
theorem dX3_append_5 : decode cX3_append 5 = .ok (.iload_n 1, 1) := by decide +kernel
theorem dX3_append_6 : decode cX3_append 6 = .ok (.bipush 33, 2) := by decide +kernel
theorem dX3_append_8 : decode cX3_append 8 = .ok (.bipush 126, 2) := by decide +kernel
theorem dX3_append_10 : decode cX3_append 10 = .ok (.invokestatic 40, 3) := by decide +kernel
theorem dX3_append_13 : decode cX3_append 13 = .ok (.ifCond .ne 9, 3) := by decide +kernel
theorem dX3_append_16 : decode cX3_append 16 = .ok (.aload_n 0, 1) := by decide +kernel
theorem dX3_append_17 : decode cX3_append 17 = .ok (.iconst 1, 1) := by decide +kernel
theorem dX3_append_18 : decode cX3_append 18 = .ok (.invokevirtual 79, 3) := by decide +kernel
theorem dX3_append_21 : decode cX3_append 21 = .ok (.ireturn, 1) := by decide +kernel
theorem dX3_append_22 : decode cX3_append 22 = .ok (.aload_n 0, 1) := by decide +kernel
theorem dX3_append_23 : decode cX3_append 23 = .ok (.getfield 97, 3) := by decide +kernel
theorem dX3_append_26 : decode cX3_append 26 = .ok (.bipush 60, 2) := by decide +kernel
theorem dX3_append_28 : decode cX3_append 28 = .ok (.if_icmp .ne 9, 3) := by decide +kernel
theorem dX3_append_31 : decode cX3_append 31 = .ok (.aload_n 0, 1) := by decide +kernel
theorem dX3_append_32 : decode cX3_append 32 = .ok (.iconst 2, 1) := by decide +kernel
theorem dX3_append_33 : decode cX3_append 33 = .ok (.invokevirtual 79, 3) := by decide +kernel
theorem dX3_append_36 : decode cX3_append 36 = .ok (.ireturn, 1) := by decide +kernel
theorem dX3_append_37 : decode cX3_append 37 = .ok (.aload_n 0, 1) := by decide +kernel
theorem dX3_append_38 : decode cX3_append 38 = .ok (.getfield 23, 3) := by decide +kernel
theorem dX3_append_41 : decode cX3_append 41 = .ok (.aload_n 0, 1) := by decide +kernel
theorem dX3_append_42 : decode cX3_append 42 = .ok (.getfield 97, 3) := by decide +kernel
theorem dX3_append_45 : decode cX3_append 45 = .ok (.iload_n 1, 1) := by decide +kernel
theorem dX3_append_46 : decode cX3_append 46 = .ok (.iastore, 1) := by decide +kernel
theorem dX3_append_47 : decode cX3_append 47 = .ok (.aload_n 0, 1) := by decide +kernel
theorem dX3_append_48 : decode cX3_append 48 = .ok (.dup, 1) := by decide +kernel
theorem dX3_append_49 : decode cX3_append 49 = .ok (.getfield 97, 3) := by decide +kernel
theorem dX3_append_52 : decode cX3_append 52 = .ok (.iconst 1, 1) := by decide +kernel
theorem dX3_append_53 : decode cX3_append 53 = .ok (.iadd, 1) := by decide +kernel
theorem dX3_append_54 : decode cX3_append 54 = .ok (.putfield 97, 3) := by decide +kernel
theorem dX3_append_57 : decode cX3_append 57 = .ok (.aload_n 0, 1) := by decide +kernel
theorem dX3_append_58 : decode cX3_append 58 = .ok (.getfield 97, 3) := by decide +kernel
theorem dX3_append_61 : decode cX3_append 61 = .ok (.ireturn, 1) := by decide +kernel
theorem dX3_clearBuffer_0 : decode cX3_clearBuffer 0 = .ok (.aload_n 0, 1) := by decide +kernel
theorem dX3_clearBuffer_1 : decode cX3_clearBuffer 1 = .ok (.iconst 0, 1) := by decide +kernel
theorem dX3_clearBuffer_2 : decode cX3_clearBuffer 2 = .ok (.putfield 36, 3) := by decide +kernel
theorem dX3_clearBuffer_5 : decode cX3_clearBuffer 5 = .ok (.aload_n 0, 1) := by decide +kernel
theorem dX3_clearBuffer_6 : decode cX3_clearBuffer 6 = .ok (.getfield 97, 3) := by decide +kernel
theorem dX3_clearBuffer_9 : decode cX3_clearBuffer 9 = .ok (.istore_n 1, 1) := by decide +kernel
theorem dX3_clearBuffer_10 : decode cX3_clearBuffer 10 = .ok (.aload_n 0, 1) := by decide +kernel
theorem dX3_clearBuffer_11 : decode cX3_clearBuffer 11 = .ok (.iconst 0, 1) := by decide +kernel
theorem dX3_clearBuffer_12 : decode cX3_clearBuffer 12 = .ok (.putfield 97, 3) := by decide +kernel
theorem dX3_clearBuffer_15 : decode cX3_clearBuffer 15 = .ok (.iload_n 1, 1) := by decide +kernel
theorem dX3_clearBuffer_16 : decode cX3_clearBuffer 16 = .ok (.ireturn, 1) := by decide +kernel
theorem dX3_error_0 : decode cX3_error 0 = .ok (.iconst 0, 1) := by decide +kernel
theorem dX3_error_1 : decode cX3_error 1 = .ok (.istore_n 1, 1) := by decide +kernel
theorem dX3_error_2 : decode cX3_error 2 = .ok (.iconst 1, 1) := by decide +kernel
theorem dX3_error_3 : decode cX3_error 3 = .ok (.istore_n 2, 1) := by decide +kernel
theorem dX3_error_4 : decode cX3_error 4 = .ok (.iload_n 1, 1) := by decide +kernel
theorem dX3_error_5 : decode cX3_error 5 = .ok (.aload_n 0, 1) := by decide +kernel
theorem dX3_error_6 : decode cX3_error 6 = .ok (.getfield 97, 3) := by decide +kernel
theorem dX3_error_9 : decode cX3_error 9 = .ok (.if_icmp .ge 71, 3) := by decide +kernel
theorem dX3_error_12 : decode cX3_error 12 = .ok (.iload_n 2, 1) := by decide +kernel
theorem dX3_error_13 : decode cX3_error 13 = .ok (.ifCond .eq 67, 3) := by decide +kernel
theorem dX3_error_16 : decode cX3_error 16 = .ok (.iload_n 1, 1) := by decide +kernel
theorem dX3_error_17 : decode cX3_error 17 = .ok (.bipush 9, 2) := by decide +kernel
theorem dX3_error_19 : decode cX3_error 19 = .ok (.if_icmp .ge 44, 3) := by decide +kernel
theorem dX3_error_22 : decode cX3_error 22 = .ok (.aload_n 0, 1) := by decide +kernel
theorem dX3_error_23 : decode cX3_error 23 = .ok (.getfield 23, 3) := by decide +kernel
theorem dX3_error_26 : decode cX3_error 26 = .ok (.iload_n 1, 1) := by decide +kernel
theorem dX3_error_27 : decode cX3_error 27 = .ok (.iaload, 1) := by decide +kernel
theorem dX3_error_28 : decode cX3_error 28 = .ok (.bipush 43, 2) := by decide +kernel
theorem dX3_error_30 : decode cX3_error 30 = .ok (.if_icmp .eq 29, 3) := by decide +kernel
theorem dX3_error_33 : decode cX3_error 33 = .ok (.aload_n 0, 1) := by decide +kernel
theorem dX3_error_34 : decode cX3_error 34 = .ok (.getfield 23, 3) := by decide +kernel
theorem dX3_error_37 : decode cX3_error 37 = .ok (.iload_n 1, 1) := by decide +kernel
theorem dX3_error_38 : decode cX3_error 38 = .ok (.iaload, 1) := by decide +kernel
theorem dX3_error_39 : decode cX3_error 39 = .ok (.bipush 45, 2) := by decide +kernel
theorem dX3_error_41 : decode cX3_error 41 = .ok (.if_icmp .eq 18, 3) := by decide +kernel
theorem dX3_error_44 : decode cX3_error 44 = .ok (.aload_n 0, 1) := by decide +kernel
theorem dX3_error_45 : decode cX3_error 45 = .ok (.getfield 23, 3) := by decide +kernel
theorem dX3_error_48 : decode cX3_error 48 = .ok (.iload_n 1, 1) := by decide +kernel
theorem dX3_error_49 : decode cX3_error 49 = .ok (.iaload, 1) := by decide +kernel
theorem dX3_error_50 : decode cX3_error 50 = .ok (.bipush 48, 2) := by decide +kernel
theorem dX3_error_52 : decode cX3_error 52 = .ok (.if_icmp .ne 11, 3) := by decide +kernel
theorem dX3_error_55 : decode cX3_error 55 = .ok (.iload_n 1, 1) := by decide +kernel
theorem dX3_error_56 : decode cX3_error 56 = .ok (.ifCond .le 7, 3) := by decide +kernel
theorem dX3_error_59 : decode cX3_error 59 = .ok (.iconst 1, 1) := by decide +kernel
theorem dX3_error_60 : decode cX3_error 60 = .ok (.goto 4, 3) := by decide +kernel
theorem dX3_error_63 : decode cX3_error 63 = .ok (.iconst 0, 1) := by decide +kernel
theorem dX3_error_64 : decode cX3_error 64 = .ok (.istore_n 2, 1) := by decide +kernel
theorem dX3_error_65 : decode cX3_error 65 = .ok (.iload_n 1, 1) := by decide +kernel
theorem dX3_error_66 : decode cX3_error 66 = .ok (.iload_n 2, 1) := by decide +kernel
theorem dX3_error_67 : decode cX3_error 67 = .ok (.ifCond .eq 7, 3) := by decide +kernel
theorem dX3_error_70 : decode cX3_error 70 = .ok (.iconst 1, 1) := by decide +kernel
theorem dX3_error_71 : decode cX3_error 71 = .ok (.goto 4, 3) := by decide +kernel
theorem dX3_error_74 : decode cX3_error 74 = .ok (.iconst 0, 1) := by decide +kernel
theorem dX3_error_75 : decode cX3_error 75 = .ok (.iadd, 1) := by decide +kernel
theorem dX3_error_76 : decode cX3_error 76 = .ok (.istore_n 1, 1) := by decide +kernel
theorem dX3_error_77 : decode cX3_error 77 = .ok (.goto (-73), 3) := by decide +kernel
theorem dX3_error_80 : decode cX3_error 80 = .ok (.iload_n 1, 1) := by decide +kernel
theorem dX3_error_81 : decode cX3_error 81 = .ok (.ireturn, 1) := by decide +kernel
theorem dX3_firstError_0 : decode cX3_firstError 0 = .ok (.aload_n 0, 1) := by decide +kernel
theorem dX3_firstError_1 : decode cX3_firstError 1 = .ok (.iconst 0, 1) := by decide +kernel
theorem dX3_firstError_2 : decode cX3_firstError 2 = .ok (.putfield 36, 3) := by decide +kernel
theorem dX3_firstError_5 : decode cX3_firstError 5 = .ok (.aload_n 0, 1) := by decide +kernel
theorem dX3_firstError_6 : decode cX3_firstError 6 = .ok (.invokevirtual 100, 3) := by decide +kernel
theorem dX3_firstError_9 : decode cX3_firstError 9 = .ok (.ireturn, 1) := by decide +kernel
theorem dX3_load_0 : decode cX3_load 0 = .ok (.aload_n 0, 1) := by decide +kernel
theorem dX3_load_1 : decode cX3_load 1 = .ok (.iconst 0, 1) := by decide +kernel
theorem dX3_load_2 : decode cX3_load 2 = .ok (.putfield 36, 3) := by decide +kernel
theorem dX3_load_5 : decode cX3_load 5 = .ok (.iload_n 1, 1) := by decide +kernel
theorem dX3_load_6 : decode cX3_load 6 = .ok (.invokestatic 75, 3) := by decide +kernel
theorem dX3_load_9 : decode cX3_load 9 = .ok (.ifCond .ne 9, 3) := by decide +kernel
theorem dX3_load_12 : decode cX3_load 12 = .ok (.aload_n 0, 1) := by decide +kernel
theorem dX3_load_13 : decode cX3_load 13 = .ok (.iconst 1, 1) := by decide +kernel
theorem dX3_load_14 : decode cX3_load 14 = .ok (.invokevirtual 79, 3) := by decide +kernel
theorem dX3_load_17 : decode cX3_load 17 = .ok (.ireturn, 1) := by decide +kernel
theorem dX3_load_18 : decode cX3_load 18 = .ok (.aload_n 0, 1) := by decide +kernel
theorem dX3_load_19 : decode cX3_load 19 = .ok (.getfield 97, 3) := by decide +kernel
theorem dX3_load_22 : decode cX3_load 22 = .ok (.ifCond .eq 14, 3) := by decide +kernel
theorem dX3_load_25 : decode cX3_load 25 = .ok (.aload_n 0, 1) := by decide +kernel
theorem dX3_load_26 : decode cX3_load 26 = .ok (.invokevirtual 100, 3) := by decide +kernel
theorem dX3_load_29 : decode cX3_load 29 = .ok (.aload_n 0, 1) := by decide +kernel
theorem dX3_load_30 : decode cX3_load 30 = .ok (.getfield 97, 3) := by decide +kernel
theorem dX3_load_33 : decode cX3_load 33 = .ok (.if_icmp .ge 9, 3) := by decide +kernel
theorem dX3_load_36 : decode cX3_load 36 = .ok (.aload_n 0, 1) := by decide +kernel
theorem dX3_load_37 : decode cX3_load 37 = .ok (.iconst 2, 1) := by decide +kernel
theorem dX3_load_38 : decode cX3_load 38 = .ok (.invokevirtual 79, 3) := by decide +kernel
theorem dX3_load_41 : decode cX3_load 41 = .ok (.ireturn, 1) := by decide +kernel
theorem dX3_load_42 : decode cX3_load 42 = .ok (.aload_n 0, 1) := by decide +kernel
theorem dX3_load_43 : decode cX3_load 43 = .ok (.invokevirtual 85, 3) := by decide +kernel
theorem dX3_load_46 : decode cX3_load 46 = .ok (.iconst 0, 1) := by decide +kernel
theorem dX3_load_47 : decode cX3_load 47 = .ok (.istore_n 2, 1) := by decide +kernel
theorem dX3_load_48 : decode cX3_load 48 = .ok (.iload_n 2, 1) := by decide +kernel
theorem dX3_load_49 : decode cX3_load 49 = .ok (.bipush 9, 2) := by decide +kernel
theorem dX3_load_51 : decode cX3_load 51 = .ok (.if_icmp .ge 70, 3) := by decide +kernel
theorem dX3_load_54 : decode cX3_load 54 = .ok (.iload_n 2, 1) := by decide +kernel
theorem dX3_load_55 : decode cX3_load 55 = .ok (.aload_n 0, 1) := by decide +kernel
theorem dX3_load_56 : decode cX3_load 56 = .ok (.getfield 97, 3) := by decide +kernel
theorem dX3_load_59 : decode cX3_load 59 = .ok (.if_icmp .ge 19, 3) := by decide +kernel
theorem dX3_load_62 : decode cX3_load 62 = .ok (.aload_n 0, 1) := by decide +kernel
theorem dX3_load_63 : decode cX3_load 63 = .ok (.getfield 23, 3) := by decide +kernel
theorem dX3_load_66 : decode cX3_load 66 = .ok (.aload_n 0, 1) := by decide +kernel
theorem dX3_load_67 : decode cX3_load 67 = .ok (.getfield 97, 3) := by decide +kernel
theorem dX3_load_70 : decode cX3_load 70 = .ok (.iconst 1, 1) := by decide +kernel
theorem dX3_load_71 : decode cX3_load 71 = .ok (.isub, 1) := by decide +kernel
theorem dX3_load_72 : decode cX3_load 72 = .ok (.iload_n 2, 1) := by decide +kernel
theorem dX3_load_73 : decode cX3_load 73 = .ok (.isub, 1) := by decide +kernel
theorem dX3_load_74 : decode cX3_load 74 = .ok (.iaload, 1) := by decide +kernel
theorem dX3_load_75 : decode cX3_load 75 = .ok (.goto 5, 3) := by decide +kernel
theorem dX3_load_78 : decode cX3_load 78 = .ok (.bipush 48, 2) := by decide +kernel
theorem dX3_load_80 : decode cX3_load 80 = .ok (.istore_n 3, 1) := by decide +kernel
theorem dX3_load_81 : decode cX3_load 81 = .ok (.aload_n 0, 1) := by decide +kernel
theorem dX3_load_82 : decode cX3_load 82 = .ok (.getfield 7, 3) := by decide +kernel
theorem dX3_load_85 : decode cX3_load 85 = .ok (.iconst 0, 1) := by decide +kernel
theorem dX3_load_86 : decode cX3_load 86 = .ok (.bipush 9, 2) := by decide +kernel
theorem dX3_load_88 : decode cX3_load 88 = .ok (.iload_n 1, 1) := by decide +kernel
theorem dX3_load_89 : decode cX3_load 89 = .ok (.imul, 1) := by decide +kernel
theorem dX3_load_90 : decode cX3_load 90 = .ok (.iadd, 1) := by decide +kernel
theorem dX3_load_91 : decode cX3_load 91 = .ok (.iload_n 2, 1) := by decide +kernel
theorem dX3_load_92 : decode cX3_load 92 = .ok (.iadd, 1) := by decide +kernel
theorem dX3_load_93 : decode cX3_load 93 = .ok (.iload_n 3, 1) := by decide +kernel
theorem dX3_load_94 : decode cX3_load 94 = .ok (.bipush 43, 2) := by decide +kernel
theorem dX3_load_96 : decode cX3_load 96 = .ok (.if_icmp .ne 7, 3) := by decide +kernel
theorem dX3_load_99 : decode cX3_load 99 = .ok (.iconst 1, 1) := by decide +kernel
theorem dX3_load_100 : decode cX3_load 100 = .ok (.goto 14, 3) := by decide +kernel
theorem dX3_load_103 : decode cX3_load 103 = .ok (.iload_n 3, 1) := by decide +kernel
theorem dX3_load_104 : decode cX3_load 104 = .ok (.bipush 45, 2) := by decide +kernel
theorem dX3_load_106 : decode cX3_load 106 = .ok (.if_icmp .ne 7, 3) := by decide +kernel
theorem dX3_load_109 : decode cX3_load 109 = .ok (.iconst (-1), 1) := by decide +kernel
theorem dX3_load_110 : decode cX3_load 110 = .ok (.goto 4, 3) := by decide +kernel
theorem dX3_load_113 : decode cX3_load 113 = .ok (.iconst 0, 1) := by decide +kernel
theorem dX3_load_114 : decode cX3_load 114 = .ok (.iastore, 1) := by decide +kernel
theorem dX3_load_115 : decode cX3_load 115 = .ok (.iinc 2 1, 3) := by decide +kernel
theorem dX3_load_118 : decode cX3_load 118 = .ok (.goto (-70), 3) := by decide +kernel
theorem dX3_load_121 : decode cX3_load 121 = .ok (.aload_n 0, 1) := by decide +kernel
theorem dX3_load_122 : decode cX3_load 122 = .ok (.iconst 0, 1) := by decide +kernel
theorem dX3_load_123 : decode cX3_load 123 = .ok (.putfield 97, 3) := by decide +kernel
theorem dX3_load_126 : decode cX3_load 126 = .ok (.aload_n 0, 1) := by decide +kernel
theorem dX3_load_127 : decode cX3_load 127 = .ok (.iload_n 1, 1) := by decide +kernel
theorem dX3_load_128 : decode cX3_load 128 = .ok (.invokevirtual 51, 3) := by decide +kernel
theorem dX3_load_131 : decode cX3_load 131 = .ok (.ireturn, 1) := by decide +kernel
theorem dX3_degrees_0 : decode cX3_degrees 0 = .ok (.iconst 0, 1) := by decide +kernel
theorem dX3_degrees_1 : decode cX3_degrees 1 = .ok (.istore_n 1, 1) := by decide +kernel
theorem dX3_degrees_2 : decode cX3_degrees 2 = .ok (.iconst 0, 1) := by decide +kernel
theorem dX3_degrees_3 : decode cX3_degrees 3 = .ok (.istore_n 2, 1) := by decide +kernel
theorem dX3_degrees_4 : decode cX3_degrees 4 = .ok (.iload_n 2, 1) := by decide +kernel
theorem dX3_degrees_5 : decode cX3_degrees 5 = .ok (.iconst 5, 1) := by decide +kernel
theorem dX3_degrees_6 : decode cX3_degrees 6 = .ok (.if_icmp .ge 17, 3) := by decide +kernel
theorem dX3_degrees_9 : decode cX3_degrees 9 = .ok (.iload_n 1, 1) := by decide +kernel
theorem dX3_degrees_10 : decode cX3_degrees 10 = .ok (.aload_n 0, 1) := by decide +kernel
theorem dX3_degrees_11 : decode cX3_degrees 11 = .ok (.iload_n 2, 1) := by decide +kernel
theorem dX3_degrees_12 : decode cX3_degrees 12 = .ok (.invokevirtual 51, 3) := by decide +kernel
theorem dX3_degrees_15 : decode cX3_degrees 15 = .ok (.iadd, 1) := by decide +kernel
theorem dX3_degrees_16 : decode cX3_degrees 16 = .ok (.istore_n 1, 1) := by decide +kernel
theorem dX3_degrees_17 : decode cX3_degrees 17 = .ok (.iinc 2 1, 3) := by decide +kernel
theorem dX3_degrees_20 : decode cX3_degrees 20 = .ok (.goto (-16), 3) := by decide +kernel
theorem dX3_degrees_23 : decode cX3_degrees 23 = .ok (.iload_n 1, 1) := by decide +kernel
theorem dX3_degrees_24 : decode cX3_degrees 24 = .ok (.ireturn, 1) := by decide +kernel
theorem dX3_keep_0 : decode cX3_keep 0 = .ok (.aload_n 0, 1) := by decide +kernel
theorem dX3_keep_1 : decode cX3_keep 1 = .ok (.iconst 0, 1) := by decide +kernel
theorem dX3_keep_2 : decode cX3_keep 2 = .ok (.putfield 36, 3) := by decide +kernel
theorem dX3_keep_5 : decode cX3_keep 5 = .ok (.iload_n 1, 1) := by decide +kernel
theorem dX3_keep_6 : decode cX3_keep 6 = .ok (.iconst 0, 1) := by decide +kernel
theorem dX3_keep_7 : decode cX3_keep 7 = .ok (.iconst 1, 1) := by decide +kernel
theorem dX3_keep_8 : decode cX3_keep 8 = .ok (.invokestatic 40, 3) := by decide +kernel
theorem dX3_keep_11 : decode cX3_keep 11 = .ok (.ifCond .ne 9, 3) := by decide +kernel
theorem dX3_keep_14 : decode cX3_keep 14 = .ok (.aload_n 0, 1) := by decide +kernel
theorem dX3_keep_15 : decode cX3_keep 15 = .ok (.iconst 1, 1) := by decide +kernel
theorem dX3_keep_16 : decode cX3_keep 16 = .ok (.invokevirtual 79, 3) := by decide +kernel
theorem dX3_keep_19 : decode cX3_keep 19 = .ok (.ireturn, 1) := by decide +kernel
theorem dX3_keep_20 : decode cX3_keep 20 = .ok (.iconst 0, 1) := by decide +kernel
theorem dX3_keep_21 : decode cX3_keep 21 = .ok (.istore_n 2, 1) := by decide +kernel
theorem dX3_keep_22 : decode cX3_keep 22 = .ok (.iload_n 2, 1) := by decide +kernel
theorem dX3_keep_23 : decode cX3_keep 23 = .ok (.bipush 56, 2) := by decide +kernel
theorem dX3_keep_25 : decode cX3_keep 25 = .ok (.if_icmp .ge 26, 3) := by decide +kernel
theorem dX3_keep_28 : decode cX3_keep 28 = .ok (.aload_n 0, 1) := by decide +kernel
theorem dX3_keep_29 : decode cX3_keep 29 = .ok (.getfield 16, 3) := by decide +kernel
theorem dX3_keep_32 : decode cX3_keep 32 = .ok (.bipush 56, 2) := by decide +kernel
theorem dX3_keep_34 : decode cX3_keep 34 = .ok (.iload_n 1, 1) := by decide +kernel
theorem dX3_keep_35 : decode cX3_keep 35 = .ok (.imul, 1) := by decide +kernel
theorem dX3_keep_36 : decode cX3_keep 36 = .ok (.iload_n 2, 1) := by decide +kernel
theorem dX3_keep_37 : decode cX3_keep 37 = .ok (.iadd, 1) := by decide +kernel
theorem dX3_keep_38 : decode cX3_keep 38 = .ok (.aload_n 0, 1) := by decide +kernel
theorem dX3_keep_39 : decode cX3_keep 39 = .ok (.getfield 7, 3) := by decide +kernel
theorem dX3_keep_42 : decode cX3_keep 42 = .ok (.iload_n 2, 1) := by decide +kernel
theorem dX3_keep_43 : decode cX3_keep 43 = .ok (.iaload, 1) := by decide +kernel
theorem dX3_keep_44 : decode cX3_keep 44 = .ok (.iastore, 1) := by decide +kernel
theorem dX3_keep_45 : decode cX3_keep 45 = .ok (.iinc 2 1, 3) := by decide +kernel
theorem dX3_keep_48 : decode cX3_keep 48 = .ok (.goto (-26), 3) := by decide +kernel
theorem dX3_keep_51 : decode cX3_keep 51 = .ok (.aload_n 0, 1) := by decide +kernel
theorem dX3_keep_52 : decode cX3_keep 52 = .ok (.getfield 19, 3) := by decide +kernel
theorem dX3_keep_55 : decode cX3_keep 55 = .ok (.iload_n 1, 1) := by decide +kernel
theorem dX3_keep_56 : decode cX3_keep 56 = .ok (.iconst 1, 1) := by decide +kernel
theorem dX3_keep_57 : decode cX3_keep 57 = .ok (.bastore, 1) := by decide +kernel
theorem dX3_keep_58 : decode cX3_keep 58 = .ok (.aload_n 0, 1) := by decide +kernel
theorem dX3_keep_59 : decode cX3_keep 59 = .ok (.invokevirtual 104, 3) := by decide +kernel
theorem dX3_keep_62 : decode cX3_keep 62 = .ok (.ireturn, 1) := by decide +kernel
theorem dX3_goBack_0 : decode cX3_goBack 0 = .ok (.aload_n 0, 1) := by decide +kernel
theorem dX3_goBack_1 : decode cX3_goBack 1 = .ok (.iconst 0, 1) := by decide +kernel
theorem dX3_goBack_2 : decode cX3_goBack 2 = .ok (.putfield 36, 3) := by decide +kernel
theorem dX3_goBack_5 : decode cX3_goBack 5 = .ok (.iload_n 1, 1) := by decide +kernel
theorem dX3_goBack_6 : decode cX3_goBack 6 = .ok (.iconst 0, 1) := by decide +kernel
theorem dX3_goBack_7 : decode cX3_goBack 7 = .ok (.iconst 1, 1) := by decide +kernel
theorem dX3_goBack_8 : decode cX3_goBack 8 = .ok (.invokestatic 40, 3) := by decide +kernel
theorem dX3_goBack_11 : decode cX3_goBack 11 = .ok (.ifCond .ne 9, 3) := by decide +kernel
theorem dX3_goBack_14 : decode cX3_goBack 14 = .ok (.aload_n 0, 1) := by decide +kernel
theorem dX3_goBack_15 : decode cX3_goBack 15 = .ok (.iconst 1, 1) := by decide +kernel
theorem dX3_goBack_16 : decode cX3_goBack 16 = .ok (.invokevirtual 79, 3) := by decide +kernel
theorem dX3_goBack_19 : decode cX3_goBack 19 = .ok (.ireturn, 1) := by decide +kernel
theorem dX3_goBack_20 : decode cX3_goBack 20 = .ok (.aload_n 0, 1) := by decide +kernel
theorem dX3_goBack_21 : decode cX3_goBack 21 = .ok (.getfield 19, 3) := by decide +kernel
theorem dX3_goBack_24 : decode cX3_goBack 24 = .ok (.iload_n 1, 1) := by decide +kernel
theorem dX3_goBack_25 : decode cX3_goBack 25 = .ok (.baload, 1) := by decide +kernel
theorem dX3_goBack_26 : decode cX3_goBack 26 = .ok (.ifCond .ne 9, 3) := by decide +kernel
theorem dX3_goBack_29 : decode cX3_goBack 29 = .ok (.aload_n 0, 1) := by decide +kernel
theorem dX3_goBack_30 : decode cX3_goBack 30 = .ok (.iconst 2, 1) := by decide +kernel
theorem dX3_goBack_31 : decode cX3_goBack 31 = .ok (.invokevirtual 79, 3) := by decide +kernel
theorem dX3_goBack_34 : decode cX3_goBack 34 = .ok (.ireturn, 1) := by decide +kernel
theorem dX3_goBack_35 : decode cX3_goBack 35 = .ok (.aload_n 0, 1) := by decide +kernel
theorem dX3_goBack_36 : decode cX3_goBack 36 = .ok (.invokevirtual 85, 3) := by decide +kernel
theorem dX3_goBack_39 : decode cX3_goBack 39 = .ok (.iconst 0, 1) := by decide +kernel
theorem dX3_goBack_40 : decode cX3_goBack 40 = .ok (.istore_n 2, 1) := by decide +kernel
theorem dX3_goBack_41 : decode cX3_goBack 41 = .ok (.iload_n 2, 1) := by decide +kernel
theorem dX3_goBack_42 : decode cX3_goBack 42 = .ok (.bipush 56, 2) := by decide +kernel
theorem dX3_goBack_44 : decode cX3_goBack 44 = .ok (.if_icmp .ge 26, 3) := by decide +kernel
theorem dX3_goBack_47 : decode cX3_goBack 47 = .ok (.aload_n 0, 1) := by decide +kernel
theorem dX3_goBack_48 : decode cX3_goBack 48 = .ok (.getfield 7, 3) := by decide +kernel
theorem dX3_goBack_51 : decode cX3_goBack 51 = .ok (.iload_n 2, 1) := by decide +kernel
theorem dX3_goBack_52 : decode cX3_goBack 52 = .ok (.aload_n 0, 1) := by decide +kernel
theorem dX3_goBack_53 : decode cX3_goBack 53 = .ok (.getfield 16, 3) := by decide +kernel
theorem dX3_goBack_56 : decode cX3_goBack 56 = .ok (.bipush 56, 2) := by decide +kernel
theorem dX3_goBack_58 : decode cX3_goBack 58 = .ok (.iload_n 1, 1) := by decide +kernel
theorem dX3_goBack_59 : decode cX3_goBack 59 = .ok (.imul, 1) := by decide +kernel
theorem dX3_goBack_60 : decode cX3_goBack 60 = .ok (.iload_n 2, 1) := by decide +kernel
theorem dX3_goBack_61 : decode cX3_goBack 61 = .ok (.iadd, 1) := by decide +kernel
theorem dX3_goBack_62 : decode cX3_goBack 62 = .ok (.iaload, 1) := by decide +kernel
theorem dX3_goBack_63 : decode cX3_goBack 63 = .ok (.iastore, 1) := by decide +kernel
theorem dX3_goBack_64 : decode cX3_goBack 64 = .ok (.iinc 2 1, 3) := by decide +kernel
theorem dX3_goBack_67 : decode cX3_goBack 67 = .ok (.goto (-26), 3) := by decide +kernel
theorem dX3_goBack_70 : decode cX3_goBack 70 = .ok (.aload_n 0, 1) := by decide +kernel
theorem dX3_goBack_71 : decode cX3_goBack 71 = .ok (.invokevirtual 104, 3) := by decide +kernel
theorem dX3_goBack_74 : decode cX3_goBack 74 = .ok (.ireturn, 1) := by decide +kernel
theorem dX3_undo_0 : decode cX3_undo 0 = .ok (.aload_n 0, 1) := by decide +kernel
theorem dX3_undo_1 : decode cX3_undo 1 = .ok (.iconst 0, 1) := by decide +kernel
theorem dX3_undo_2 : decode cX3_undo 2 = .ok (.putfield 36, 3) := by decide +kernel
theorem dX3_undo_5 : decode cX3_undo 5 = .ok (.aload_n 0, 1) := by decide +kernel
theorem dX3_undo_6 : decode cX3_undo 6 = .ok (.getfield 48, 3) := by decide +kernel
theorem dX3_undo_9 : decode cX3_undo 9 = .ok (.ifCond .ne 9, 3) := by decide +kernel
theorem dX3_undo_12 : decode cX3_undo 12 = .ok (.aload_n 0, 1) := by decide +kernel
theorem dX3_undo_13 : decode cX3_undo 13 = .ok (.iconst 1, 1) := by decide +kernel
theorem dX3_undo_14 : decode cX3_undo 14 = .ok (.invokevirtual 79, 3) := by decide +kernel
theorem dX3_undo_17 : decode cX3_undo 17 = .ok (.ireturn, 1) := by decide +kernel
theorem dX3_undo_18 : decode cX3_undo 18 = .ok (.aload_n 0, 1) := by decide +kernel
theorem dX3_undo_19 : decode cX3_undo 19 = .ok (.dup, 1) := by decide +kernel
theorem dX3_undo_20 : decode cX3_undo 20 = .ok (.getfield 48, 3) := by decide +kernel
theorem dX3_undo_23 : decode cX3_undo 23 = .ok (.iconst 1, 1) := by decide +kernel
theorem dX3_undo_24 : decode cX3_undo 24 = .ok (.isub, 1) := by decide +kernel
theorem dX3_undo_25 : decode cX3_undo 25 = .ok (.putfield 48, 3) := by decide +kernel
theorem dX3_undo_28 : decode cX3_undo 28 = .ok (.iconst 0, 1) := by decide +kernel
theorem dX3_undo_29 : decode cX3_undo 29 = .ok (.istore_n 1, 1) := by decide +kernel
theorem dX3_undo_30 : decode cX3_undo 30 = .ok (.iload_n 1, 1) := by decide +kernel
theorem dX3_undo_31 : decode cX3_undo 31 = .ok (.bipush 56, 2) := by decide +kernel
theorem dX3_undo_33 : decode cX3_undo 33 = .ok (.if_icmp .ge 29, 3) := by decide +kernel
theorem dX3_undo_36 : decode cX3_undo 36 = .ok (.aload_n 0, 1) := by decide +kernel
theorem dX3_undo_37 : decode cX3_undo 37 = .ok (.getfield 7, 3) := by decide +kernel
theorem dX3_undo_40 : decode cX3_undo 40 = .ok (.iload_n 1, 1) := by decide +kernel
theorem dX3_undo_41 : decode cX3_undo 41 = .ok (.aload_n 0, 1) := by decide +kernel
theorem dX3_undo_42 : decode cX3_undo 42 = .ok (.getfield 13, 3) := by decide +kernel
theorem dX3_undo_45 : decode cX3_undo 45 = .ok (.bipush 56, 2) := by decide +kernel
theorem dX3_undo_47 : decode cX3_undo 47 = .ok (.aload_n 0, 1) := by decide +kernel
theorem dX3_undo_48 : decode cX3_undo 48 = .ok (.getfield 48, 3) := by decide +kernel
theorem dX3_undo_51 : decode cX3_undo 51 = .ok (.imul, 1) := by decide +kernel
theorem dX3_undo_52 : decode cX3_undo 52 = .ok (.iload_n 1, 1) := by decide +kernel
theorem dX3_undo_53 : decode cX3_undo 53 = .ok (.iadd, 1) := by decide +kernel
theorem dX3_undo_54 : decode cX3_undo 54 = .ok (.iaload, 1) := by decide +kernel
theorem dX3_undo_55 : decode cX3_undo 55 = .ok (.iastore, 1) := by decide +kernel
theorem dX3_undo_56 : decode cX3_undo 56 = .ok (.iinc 1 1, 3) := by decide +kernel
theorem dX3_undo_59 : decode cX3_undo 59 = .ok (.goto (-29), 3) := by decide +kernel
theorem dX3_undo_62 : decode cX3_undo 62 = .ok (.aload_n 0, 1) := by decide +kernel
theorem dX3_undo_63 : decode cX3_undo 63 = .ok (.getfield 48, 3) := by decide +kernel
theorem dX3_undo_66 : decode cX3_undo 66 = .ok (.ireturn, 1) := by decide +kernel
theorem dX3_sign_0 : decode cX3_sign 0 = .ok (.aload_n 0, 1) := by decide +kernel
theorem dX3_sign_1 : decode cX3_sign 1 = .ok (.iconst 0, 1) := by decide +kernel
theorem dX3_sign_2 : decode cX3_sign 2 = .ok (.putfield 36, 3) := by decide +kernel
theorem dX3_sign_5 : decode cX3_sign 5 = .ok (.iload_n 1, 1) := by decide +kernel
theorem dX3_sign_6 : decode cX3_sign 6 = .ok (.invokestatic 75, 3) := by decide +kernel
theorem dX3_sign_9 : decode cX3_sign 9 = .ok (.ifCond .ne 9, 3) := by decide +kernel
theorem dX3_sign_12 : decode cX3_sign 12 = .ok (.aload_n 0, 1) := by decide +kernel
theorem dX3_sign_13 : decode cX3_sign 13 = .ok (.iconst 1, 1) := by decide +kernel
theorem dX3_sign_14 : decode cX3_sign 14 = .ok (.invokevirtual 79, 3) := by decide +kernel
theorem dX3_sign_17 : decode cX3_sign 17 = .ok (.ireturn, 1) := by decide +kernel
theorem dX3_sign_18 : decode cX3_sign 18 = .ok (.iload_n 2, 1) := by decide +kernel
theorem dX3_sign_19 : decode cX3_sign 19 = .ok (.iconst 0, 1) := by decide +kernel
theorem dX3_sign_20 : decode cX3_sign 20 = .ok (.bipush 8, 2) := by decide +kernel
theorem dX3_sign_22 : decode cX3_sign 22 = .ok (.invokestatic 40, 3) := by decide +kernel
theorem dX3_sign_25 : decode cX3_sign 25 = .ok (.ifCond .eq 12, 3) := by decide +kernel
theorem dX3_sign_28 : decode cX3_sign 28 = .ok (.aload_n 0, 1) := by decide +kernel
theorem dX3_sign_29 : decode cX3_sign 29 = .ok (.iload_n 1, 1) := by decide +kernel
theorem dX3_sign_30 : decode cX3_sign 30 = .ok (.iload_n 2, 1) := by decide +kernel
theorem dX3_sign_31 : decode cX3_sign 31 = .ok (.invokevirtual 44, 3) := by decide +kernel
theorem dX3_sign_34 : decode cX3_sign 34 = .ok (.goto 8, 3) := by decide +kernel
theorem dX3_sign_37 : decode cX3_sign 37 = .ok (.aload_n 0, 1) := by decide +kernel
theorem dX3_sign_38 : decode cX3_sign 38 = .ok (.iconst 2, 1) := by decide +kernel
theorem dX3_sign_39 : decode cX3_sign 39 = .ok (.invokevirtual 79, 3) := by decide +kernel
theorem dX3_sign_42 : decode cX3_sign 42 = .ok (.ireturn, 1) := by decide +kernel
theorem dX3_tells_0 : decode cX3_tells 0 = .ok (.iload_n 2, 1) := by decide +kernel
theorem dX3_tells_1 : decode cX3_tells 1 = .ok (.ifCond .ne 9, 3) := by decide +kernel
theorem dX3_tells_4 : decode cX3_tells 4 = .ok (.aload_n 0, 1) := by decide +kernel
theorem dX3_tells_5 : decode cX3_tells 5 = .ok (.iload_n 1, 1) := by decide +kernel
theorem dX3_tells_6 : decode cX3_tells 6 = .ok (.invokevirtual 51, 3) := by decide +kernel
theorem dX3_tells_9 : decode cX3_tells 9 = .ok (.ireturn, 1) := by decide +kernel
theorem dX3_tells_10 : decode cX3_tells 10 = .ok (.iload_n 2, 1) := by decide +kernel
theorem dX3_tells_11 : decode cX3_tells 11 = .ok (.iconst 2, 1) := by decide +kernel
theorem dX3_tells_12 : decode cX3_tells 12 = .ok (.if_icmp .ne 10, 3) := by decide +kernel
theorem dX3_tells_15 : decode cX3_tells 15 = .ok (.aload_n 0, 1) := by decide +kernel
theorem dX3_tells_16 : decode cX3_tells 16 = .ok (.iload_n 1, 1) := by decide +kernel
theorem dX3_tells_17 : decode cX3_tells 17 = .ok (.iconst 1, 1) := by decide +kernel
theorem dX3_tells_18 : decode cX3_tells 18 = .ok (.invokevirtual 107, 3) := by decide +kernel
theorem dX3_tells_21 : decode cX3_tells 21 = .ok (.ireturn, 1) := by decide +kernel
theorem dX3_tells_22 : decode cX3_tells 22 = .ok (.iconst 0, 1) := by decide +kernel
theorem dX3_tells_23 : decode cX3_tells 23 = .ok (.istore_n 3, 1) := by decide +kernel
theorem dX3_tells_24 : decode cX3_tells 24 = .ok (.iconst 0, 1) := by decide +kernel
theorem dX3_tells_25 : decode cX3_tells 25 = .ok (.istore 4, 2) := by decide +kernel
theorem dX3_tells_27 : decode cX3_tells 27 = .ok (.iload 4, 2) := by decide +kernel
theorem dX3_tells_29 : decode cX3_tells 29 = .ok (.bipush 9, 2) := by decide +kernel
theorem dX3_tells_31 : decode cX3_tells 31 = .ok (.if_icmp .ge 41, 3) := by decide +kernel
theorem dX3_tells_34 : decode cX3_tells 34 = .ok (.aload_n 0, 1) := by decide +kernel
theorem dX3_tells_35 : decode cX3_tells 35 = .ok (.getfield 26, 3) := by decide +kernel
theorem dX3_tells_38 : decode cX3_tells 38 = .ok (.iload 4, 2) := by decide +kernel
theorem dX3_tells_40 : decode cX3_tells 40 = .ok (.aload_n 0, 1) := by decide +kernel
theorem dX3_tells_41 : decode cX3_tells 41 = .ok (.iload_n 1, 1) := by decide +kernel
theorem dX3_tells_42 : decode cX3_tells 42 = .ok (.iload 4, 2) := by decide +kernel
theorem dX3_tells_44 : decode cX3_tells 44 = .ok (.invokevirtual 44, 3) := by decide +kernel
theorem dX3_tells_47 : decode cX3_tells 47 = .ok (.iastore, 1) := by decide +kernel
theorem dX3_tells_48 : decode cX3_tells 48 = .ok (.iload_n 3, 1) := by decide +kernel
theorem dX3_tells_49 : decode cX3_tells 49 = .ok (.aload_n 0, 1) := by decide +kernel
theorem dX3_tells_50 : decode cX3_tells 50 = .ok (.getfield 26, 3) := by decide +kernel
theorem dX3_tells_53 : decode cX3_tells 53 = .ok (.iload 4, 2) := by decide +kernel
theorem dX3_tells_55 : decode cX3_tells 55 = .ok (.iaload, 1) := by decide +kernel
theorem dX3_tells_56 : decode cX3_tells 56 = .ok (.ifCond .eq 7, 3) := by decide +kernel
theorem dX3_tells_59 : decode cX3_tells 59 = .ok (.iconst 1, 1) := by decide +kernel
theorem dX3_tells_60 : decode cX3_tells 60 = .ok (.goto 4, 3) := by decide +kernel
theorem dX3_tells_63 : decode cX3_tells 63 = .ok (.iconst 0, 1) := by decide +kernel
theorem dX3_tells_64 : decode cX3_tells 64 = .ok (.iadd, 1) := by decide +kernel
theorem dX3_tells_65 : decode cX3_tells 65 = .ok (.istore_n 3, 1) := by decide +kernel
theorem dX3_tells_66 : decode cX3_tells 66 = .ok (.iinc 4 1, 3) := by decide +kernel
theorem dX3_tells_69 : decode cX3_tells 69 = .ok (.goto (-42), 3) := by decide +kernel
theorem dX3_tells_72 : decode cX3_tells 72 = .ok (.iload_n 2, 1) := by decide +kernel
theorem dX3_tells_73 : decode cX3_tells 73 = .ok (.iconst 1, 1) := by decide +kernel
theorem dX3_tells_74 : decode cX3_tells 74 = .ok (.if_icmp .ne 7, 3) := by decide +kernel
theorem dX3_tells_77 : decode cX3_tells 77 = .ok (.iload_n 3, 1) := by decide +kernel
theorem dX3_tells_78 : decode cX3_tells 78 = .ok (.goto 10, 3) := by decide +kernel
theorem dX3_tells_81 : decode cX3_tells 81 = .ok (.aload_n 0, 1) := by decide +kernel
theorem dX3_tells_82 : decode cX3_tells 82 = .ok (.getfield 26, 3) := by decide +kernel
theorem dX3_tells_85 : decode cX3_tells 85 = .ok (.invokestatic 110, 3) := by decide +kernel
theorem dX3_tells_88 : decode cX3_tells 88 = .ok (.ireturn, 1) := by decide +kernel
theorem dX3_of_0 : decode cX3_of 0 = .ok (.aload_n 0, 1) := by decide +kernel
theorem dX3_of_1 : decode cX3_of 1 = .ok (.iconst 0, 1) := by decide +kernel
theorem dX3_of_2 : decode cX3_of 2 = .ok (.putfield 36, 3) := by decide +kernel
theorem dX3_of_5 : decode cX3_of 5 = .ok (.iload_n 1, 1) := by decide +kernel
theorem dX3_of_6 : decode cX3_of 6 = .ok (.invokestatic 75, 3) := by decide +kernel
theorem dX3_of_9 : decode cX3_of 9 = .ok (.ifCond .ne 9, 3) := by decide +kernel
theorem dX3_of_12 : decode cX3_of 12 = .ok (.aload_n 0, 1) := by decide +kernel
theorem dX3_of_13 : decode cX3_of 13 = .ok (.iconst 1, 1) := by decide +kernel
theorem dX3_of_14 : decode cX3_of 14 = .ok (.invokevirtual 79, 3) := by decide +kernel
theorem dX3_of_17 : decode cX3_of 17 = .ok (.ireturn, 1) := by decide +kernel
theorem dX3_of_18 : decode cX3_of 18 = .ok (.iload_n 2, 1) := by decide +kernel
theorem dX3_of_19 : decode cX3_of 19 = .ok (.iconst 0, 1) := by decide +kernel
theorem dX3_of_20 : decode cX3_of 20 = .ok (.iconst 3, 1) := by decide +kernel
theorem dX3_of_21 : decode cX3_of 21 = .ok (.invokestatic 40, 3) := by decide +kernel
theorem dX3_of_24 : decode cX3_of 24 = .ok (.ifCond .eq 12, 3) := by decide +kernel
theorem dX3_of_27 : decode cX3_of 27 = .ok (.aload_n 0, 1) := by decide +kernel
theorem dX3_of_28 : decode cX3_of 28 = .ok (.iload_n 1, 1) := by decide +kernel
theorem dX3_of_29 : decode cX3_of 29 = .ok (.iload_n 2, 1) := by decide +kernel
theorem dX3_of_30 : decode cX3_of 30 = .ok (.invokevirtual 114, 3) := by decide +kernel
theorem dX3_of_33 : decode cX3_of 33 = .ok (.goto 8, 3) := by decide +kernel
theorem dX3_of_36 : decode cX3_of 36 = .ok (.aload_n 0, 1) := by decide +kernel
theorem dX3_of_37 : decode cX3_of 37 = .ok (.iconst 2, 1) := by decide +kernel
theorem dX3_of_38 : decode cX3_of 38 = .ok (.invokevirtual 79, 3) := by decide +kernel
theorem dX3_of_41 : decode cX3_of 41 = .ok (.ireturn, 1) := by decide +kernel
theorem dX3_has_0 : decode cX3_has 0 = .ok (.iconst 0, 1) := by decide +kernel
theorem dX3_has_1 : decode cX3_has 1 = .ok (.istore_n 3, 1) := by decide +kernel
theorem dX3_has_2 : decode cX3_has 2 = .ok (.iconst 0, 1) := by decide +kernel
theorem dX3_has_3 : decode cX3_has 3 = .ok (.istore 4, 2) := by decide +kernel
theorem dX3_has_5 : decode cX3_has 5 = .ok (.iconst 0, 1) := by decide +kernel
theorem dX3_has_6 : decode cX3_has 6 = .ok (.istore 5, 2) := by decide +kernel
theorem dX3_has_8 : decode cX3_has 8 = .ok (.iload 5, 2) := by decide +kernel
theorem dX3_has_10 : decode cX3_has 10 = .ok (.bipush 9, 2) := by decide +kernel
theorem dX3_has_12 : decode cX3_has 12 = .ok (.if_icmp .ge 86, 3) := by decide +kernel
theorem dX3_has_15 : decode cX3_has 15 = .ok (.iload_n 2, 1) := by decide +kernel
theorem dX3_has_16 : decode cX3_has 16 = .ok (.ifCond .ne 12, 3) := by decide +kernel
theorem dX3_has_19 : decode cX3_has 19 = .ok (.iload 5, 2) := by decide +kernel
theorem dX3_has_21 : decode cX3_has 21 = .ok (.ifCond .le 7, 3) := by decide +kernel
theorem dX3_has_24 : decode cX3_has 24 = .ok (.iconst 0, 1) := by decide +kernel
theorem dX3_has_25 : decode cX3_has 25 = .ok (.goto 33, 3) := by decide +kernel
theorem dX3_has_28 : decode cX3_has 28 = .ok (.iload_n 2, 1) := by decide +kernel
theorem dX3_has_29 : decode cX3_has 29 = .ok (.ifCond .ge 22, 3) := by decide +kernel
theorem dX3_has_32 : decode cX3_has 32 = .ok (.iload 5, 2) := by decide +kernel
theorem dX3_has_34 : decode cX3_has 34 = .ok (.iconst 2, 1) := by decide +kernel
theorem dX3_has_35 : decode cX3_has 35 = .ok (.irem, 1) := by decide +kernel
theorem dX3_has_36 : decode cX3_has 36 = .ok (.iconst 1, 1) := by decide +kernel
theorem dX3_has_37 : decode cX3_has 37 = .ok (.if_icmp .ne 14, 3) := by decide +kernel
theorem dX3_has_40 : decode cX3_has 40 = .ok (.aload_n 0, 1) := by decide +kernel
theorem dX3_has_41 : decode cX3_has 41 = .ok (.iload_n 1, 1) := by decide +kernel
theorem dX3_has_42 : decode cX3_has 42 = .ok (.iload 5, 2) := by decide +kernel
theorem dX3_has_44 : decode cX3_has 44 = .ok (.invokevirtual 44, 3) := by decide +kernel
theorem dX3_has_47 : decode cX3_has 47 = .ok (.ineg, 1) := by decide +kernel
theorem dX3_has_48 : decode cX3_has 48 = .ok (.goto 10, 3) := by decide +kernel
theorem dX3_has_51 : decode cX3_has 51 = .ok (.aload_n 0, 1) := by decide +kernel
theorem dX3_has_52 : decode cX3_has 52 = .ok (.iload_n 1, 1) := by decide +kernel
theorem dX3_has_53 : decode cX3_has 53 = .ok (.iload 5, 2) := by decide +kernel
theorem dX3_has_55 : decode cX3_has 55 = .ok (.invokevirtual 44, 3) := by decide +kernel
theorem dX3_has_58 : decode cX3_has 58 = .ok (.istore 6, 2) := by decide +kernel
theorem dX3_has_60 : decode cX3_has 60 = .ok (.iload_n 3, 1) := by decide +kernel
theorem dX3_has_61 : decode cX3_has 61 = .ok (.ifCond .ne 8, 3) := by decide +kernel
theorem dX3_has_64 : decode cX3_has 64 = .ok (.iload 6, 2) := by decide +kernel
theorem dX3_has_66 : decode cX3_has 66 = .ok (.ifCond .le 7, 3) := by decide +kernel
theorem dX3_has_69 : decode cX3_has 69 = .ok (.iconst 1, 1) := by decide +kernel
theorem dX3_has_70 : decode cX3_has 70 = .ok (.goto 4, 3) := by decide +kernel
theorem dX3_has_73 : decode cX3_has 73 = .ok (.iconst 0, 1) := by decide +kernel
theorem dX3_has_74 : decode cX3_has 74 = .ok (.istore_n 3, 1) := by decide +kernel
theorem dX3_has_75 : decode cX3_has 75 = .ok (.iload 4, 2) := by decide +kernel
theorem dX3_has_77 : decode cX3_has 77 = .ok (.ifCond .ne 8, 3) := by decide +kernel
theorem dX3_has_80 : decode cX3_has 80 = .ok (.iload 6, 2) := by decide +kernel
theorem dX3_has_82 : decode cX3_has 82 = .ok (.ifCond .ge 7, 3) := by decide +kernel
theorem dX3_has_85 : decode cX3_has 85 = .ok (.iconst 1, 1) := by decide +kernel
theorem dX3_has_86 : decode cX3_has 86 = .ok (.goto 4, 3) := by decide +kernel
theorem dX3_has_89 : decode cX3_has 89 = .ok (.iconst 0, 1) := by decide +kernel
theorem dX3_has_90 : decode cX3_has 90 = .ok (.istore 4, 2) := by decide +kernel
theorem dX3_has_92 : decode cX3_has 92 = .ok (.iinc 5 1, 3) := by decide +kernel
theorem dX3_has_95 : decode cX3_has 95 = .ok (.goto (-87), 3) := by decide +kernel
theorem dX3_has_98 : decode cX3_has 98 = .ok (.iload_n 3, 1) := by decide +kernel
theorem dX3_has_99 : decode cX3_has 99 = .ok (.iload 4, 2) := by decide +kernel
theorem dX3_has_101 : decode cX3_has 101 = .ok (.if_icmp .ne 7, 3) := by decide +kernel
theorem dX3_has_104 : decode cX3_has 104 = .ok (.iconst 1, 1) := by decide +kernel
theorem dX3_has_105 : decode cX3_has 105 = .ok (.goto 4, 3) := by decide +kernel
theorem dX3_has_108 : decode cX3_has 108 = .ok (.iconst 0, 1) := by decide +kernel
theorem dX3_has_109 : decode cX3_has 109 = .ok (.ireturn, 1) := by decide +kernel
theorem dX3_isRoot_0 : decode cX3_isRoot 0 = .ok (.aload_n 0, 1) := by decide +kernel
theorem dX3_isRoot_1 : decode cX3_isRoot 1 = .ok (.iconst 0, 1) := by decide +kernel
theorem dX3_isRoot_2 : decode cX3_isRoot 2 = .ok (.putfield 36, 3) := by decide +kernel
theorem dX3_isRoot_5 : decode cX3_isRoot 5 = .ok (.iload_n 1, 1) := by decide +kernel
theorem dX3_isRoot_6 : decode cX3_isRoot 6 = .ok (.invokestatic 75, 3) := by decide +kernel
theorem dX3_isRoot_9 : decode cX3_isRoot 9 = .ok (.ifCond .ne 9, 3) := by decide +kernel
theorem dX3_isRoot_12 : decode cX3_isRoot 12 = .ok (.aload_n 0, 1) := by decide +kernel
theorem dX3_isRoot_13 : decode cX3_isRoot 13 = .ok (.iconst 1, 1) := by decide +kernel
theorem dX3_isRoot_14 : decode cX3_isRoot 14 = .ok (.invokevirtual 79, 3) := by decide +kernel
theorem dX3_isRoot_17 : decode cX3_isRoot 17 = .ok (.ireturn, 1) := by decide +kernel
theorem dX3_isRoot_18 : decode cX3_isRoot 18 = .ok (.iload_n 2, 1) := by decide +kernel
theorem dX3_isRoot_19 : decode cX3_isRoot 19 = .ok (.invokestatic 82, 3) := by decide +kernel
theorem dX3_isRoot_22 : decode cX3_isRoot 22 = .ok (.ifCond .ne 11, 3) := by decide +kernel
theorem dX3_isRoot_25 : decode cX3_isRoot 25 = .ok (.aload_n 0, 1) := by decide +kernel
theorem dX3_isRoot_26 : decode cX3_isRoot 26 = .ok (.iconst 2, 1) := by decide +kernel
theorem dX3_isRoot_27 : decode cX3_isRoot 27 = .ok (.invokevirtual 79, 3) := by decide +kernel
theorem dX3_isRoot_30 : decode cX3_isRoot 30 = .ok (.goto 17, 3) := by decide +kernel
theorem dX3_isRoot_33 : decode cX3_isRoot 33 = .ok (.aload_n 0, 1) := by decide +kernel
theorem dX3_isRoot_34 : decode cX3_isRoot 34 = .ok (.iload_n 1, 1) := by decide +kernel
theorem dX3_isRoot_35 : decode cX3_isRoot 35 = .ok (.iload_n 2, 1) := by decide +kernel
theorem dX3_isRoot_36 : decode cX3_isRoot 36 = .ok (.invokevirtual 117, 3) := by decide +kernel
theorem dX3_isRoot_39 : decode cX3_isRoot 39 = .ok (.ifCond .eq 7, 3) := by decide +kernel
theorem dX3_isRoot_42 : decode cX3_isRoot 42 = .ok (.iconst 1, 1) := by decide +kernel
theorem dX3_isRoot_43 : decode cX3_isRoot 43 = .ok (.goto 4, 3) := by decide +kernel
theorem dX3_isRoot_46 : decode cX3_isRoot 46 = .ok (.iconst 0, 1) := by decide +kernel
theorem dX3_isRoot_47 : decode cX3_isRoot 47 = .ok (.ireturn, 1) := by decide +kernel
theorem dX3_times_0 : decode cX3_times 0 = .ok (.aload_n 0, 1) := by decide +kernel
theorem dX3_times_1 : decode cX3_times 1 = .ok (.iconst 0, 1) := by decide +kernel
theorem dX3_times_2 : decode cX3_times 2 = .ok (.putfield 36, 3) := by decide +kernel
theorem dX3_times_5 : decode cX3_times 5 = .ok (.iload_n 1, 1) := by decide +kernel
theorem dX3_times_6 : decode cX3_times 6 = .ok (.invokestatic 75, 3) := by decide +kernel
theorem dX3_times_9 : decode cX3_times 9 = .ok (.ifCond .ne 9, 3) := by decide +kernel
theorem dX3_times_12 : decode cX3_times 12 = .ok (.aload_n 0, 1) := by decide +kernel
theorem dX3_times_13 : decode cX3_times 13 = .ok (.iconst 1, 1) := by decide +kernel
theorem dX3_times_14 : decode cX3_times 14 = .ok (.invokevirtual 79, 3) := by decide +kernel
theorem dX3_times_17 : decode cX3_times 17 = .ok (.ireturn, 1) := by decide +kernel
theorem dX3_times_18 : decode cX3_times 18 = .ok (.iload_n 2, 1) := by decide +kernel
theorem dX3_times_19 : decode cX3_times 19 = .ok (.invokestatic 82, 3) := by decide +kernel
theorem dX3_times_22 : decode cX3_times 22 = .ok (.ifCond .eq 21, 3) := by decide +kernel
theorem dX3_times_25 : decode cX3_times 25 = .ok (.iload_n 3, 1) := by decide +kernel
theorem dX3_times_26 : decode cX3_times 26 = .ok (.iconst 0, 1) := by decide +kernel
theorem dX3_times_27 : decode cX3_times 27 = .ok (.iconst 1, 1) := by decide +kernel
theorem dX3_times_28 : decode cX3_times 28 = .ok (.invokestatic 40, 3) := by decide +kernel
theorem dX3_times_31 : decode cX3_times 31 = .ok (.ifCond .eq 12, 3) := by decide +kernel
theorem dX3_times_34 : decode cX3_times 34 = .ok (.aload_n 0, 1) := by decide +kernel
theorem dX3_times_35 : decode cX3_times 35 = .ok (.iload_n 1, 1) := by decide +kernel
theorem dX3_times_36 : decode cX3_times 36 = .ok (.iload_n 2, 1) := by decide +kernel
theorem dX3_times_37 : decode cX3_times 37 = .ok (.invokevirtual 107, 3) := by decide +kernel
theorem dX3_times_40 : decode cX3_times 40 = .ok (.goto 8, 3) := by decide +kernel
theorem dX3_times_43 : decode cX3_times 43 = .ok (.aload_n 0, 1) := by decide +kernel
theorem dX3_times_44 : decode cX3_times 44 = .ok (.iconst 2, 1) := by decide +kernel
theorem dX3_times_45 : decode cX3_times 45 = .ok (.invokevirtual 79, 3) := by decide +kernel
theorem dX3_times_48 : decode cX3_times 48 = .ok (.ireturn, 1) := by decide +kernel
theorem dX3_quotients_0 : decode cX3_quotients 0 = .ok (.aload_n 0, 1) := by decide +kernel
theorem dX3_quotients_1 : decode cX3_quotients 1 = .ok (.iconst 0, 1) := by decide +kernel
theorem dX3_quotients_2 : decode cX3_quotients 2 = .ok (.putfield 36, 3) := by decide +kernel
theorem dX3_quotients_5 : decode cX3_quotients 5 = .ok (.iload_n 1, 1) := by decide +kernel
theorem dX3_quotients_6 : decode cX3_quotients 6 = .ok (.invokestatic 75, 3) := by decide +kernel
theorem dX3_quotients_9 : decode cX3_quotients 9 = .ok (.ifCond .ne 9, 3) := by decide +kernel
theorem dX3_quotients_12 : decode cX3_quotients 12 = .ok (.aload_n 0, 1) := by decide +kernel
theorem dX3_quotients_13 : decode cX3_quotients 13 = .ok (.iconst 1, 1) := by decide +kernel
theorem dX3_quotients_14 : decode cX3_quotients 14 = .ok (.invokevirtual 79, 3) := by decide +kernel
theorem dX3_quotients_17 : decode cX3_quotients 17 = .ok (.ireturn, 1) := by decide +kernel
theorem dX3_quotients_18 : decode cX3_quotients 18 = .ok (.iload_n 2, 1) := by decide +kernel
theorem dX3_quotients_19 : decode cX3_quotients 19 = .ok (.invokestatic 82, 3) := by decide +kernel
theorem dX3_quotients_22 : decode cX3_quotients 22 = .ok (.ifCond .eq 12, 3) := by decide +kernel
theorem dX3_quotients_25 : decode cX3_quotients 25 = .ok (.aload_n 0, 1) := by decide +kernel
theorem dX3_quotients_26 : decode cX3_quotients 26 = .ok (.iload_n 1, 1) := by decide +kernel
theorem dX3_quotients_27 : decode cX3_quotients 27 = .ok (.iload_n 2, 1) := by decide +kernel
theorem dX3_quotients_28 : decode cX3_quotients 28 = .ok (.invokevirtual 91, 3) := by decide +kernel
theorem dX3_quotients_31 : decode cX3_quotients 31 = .ok (.goto 8, 3) := by decide +kernel
theorem dX3_quotients_34 : decode cX3_quotients 34 = .ok (.aload_n 0, 1) := by decide +kernel
theorem dX3_quotients_35 : decode cX3_quotients 35 = .ok (.iconst 2, 1) := by decide +kernel
theorem dX3_quotients_36 : decode cX3_quotients 36 = .ok (.invokevirtual 79, 3) := by decide +kernel
theorem dX3_quotients_39 : decode cX3_quotients 39 = .ok (.ireturn, 1) := by decide +kernel
theorem dX3_bestForm_0 : decode cX3_bestForm 0 = .ok (.aload_n 0, 1) := by decide +kernel
theorem dX3_bestForm_1 : decode cX3_bestForm 1 = .ok (.iload_n 1, 1) := by decide +kernel
theorem dX3_bestForm_2 : decode cX3_bestForm 2 = .ok (.iload_n 2, 1) := by decide +kernel
theorem dX3_bestForm_3 : decode cX3_bestForm 3 = .ok (.invokevirtual 91, 3) := by decide +kernel
theorem dX3_bestForm_6 : decode cX3_bestForm 6 = .ok (.ifCond .ne 8, 3) := by decide +kernel
theorem dX3_bestForm_9 : decode cX3_bestForm 9 = .ok (.bipush (-9), 2) := by decide +kernel
theorem dX3_bestForm_11 : decode cX3_bestForm 11 = .ok (.goto 10, 3) := by decide +kernel
theorem dX3_bestForm_14 : decode cX3_bestForm 14 = .ok (.aload_n 0, 1) := by decide +kernel
theorem dX3_bestForm_15 : decode cX3_bestForm 15 = .ok (.getfield 29, 3) := by decide +kernel
theorem dX3_bestForm_18 : decode cX3_bestForm 18 = .ok (.invokestatic 110, 3) := by decide +kernel
theorem dX3_bestForm_21 : decode cX3_bestForm 21 = .ok (.ireturn, 1) := by decide +kernel
theorem dX3_best_0 : decode cX3_best 0 = .ok (.aload_n 0, 1) := by decide +kernel
theorem dX3_best_1 : decode cX3_best 1 = .ok (.iconst 0, 1) := by decide +kernel
theorem dX3_best_2 : decode cX3_best 2 = .ok (.putfield 36, 3) := by decide +kernel
theorem dX3_best_5 : decode cX3_best 5 = .ok (.iload_n 1, 1) := by decide +kernel
theorem dX3_best_6 : decode cX3_best 6 = .ok (.invokestatic 75, 3) := by decide +kernel
theorem dX3_best_9 : decode cX3_best 9 = .ok (.ifCond .ne 9, 3) := by decide +kernel
theorem dX3_best_12 : decode cX3_best 12 = .ok (.aload_n 0, 1) := by decide +kernel
theorem dX3_best_13 : decode cX3_best 13 = .ok (.iconst 1, 1) := by decide +kernel
theorem dX3_best_14 : decode cX3_best 14 = .ok (.invokevirtual 79, 3) := by decide +kernel
theorem dX3_best_17 : decode cX3_best 17 = .ok (.ireturn, 1) := by decide +kernel
theorem dX3_best_18 : decode cX3_best 18 = .ok (.iload_n 2, 1) := by decide +kernel
theorem dX3_best_19 : decode cX3_best 19 = .ok (.invokestatic 82, 3) := by decide +kernel
theorem dX3_best_22 : decode cX3_best 22 = .ok (.ifCond .eq 12, 3) := by decide +kernel
theorem dX3_best_25 : decode cX3_best 25 = .ok (.aload_n 0, 1) := by decide +kernel
theorem dX3_best_26 : decode cX3_best 26 = .ok (.iload_n 1, 1) := by decide +kernel
theorem dX3_best_27 : decode cX3_best 27 = .ok (.iload_n 2, 1) := by decide +kernel
theorem dX3_best_28 : decode cX3_best 28 = .ok (.invokevirtual 121, 3) := by decide +kernel
theorem dX3_best_31 : decode cX3_best 31 = .ok (.goto 8, 3) := by decide +kernel
theorem dX3_best_34 : decode cX3_best 34 = .ok (.aload_n 0, 1) := by decide +kernel
theorem dX3_best_35 : decode cX3_best 35 = .ok (.iconst 2, 1) := by decide +kernel
theorem dX3_best_36 : decode cX3_best 36 = .ok (.invokevirtual 79, 3) := by decide +kernel
theorem dX3_best_39 : decode cX3_best 39 = .ok (.ireturn, 1) := by decide +kernel
theorem dX3_hasProduct_0 : decode cX3_hasProduct 0 = .ok (.iconst 0, 1) := by decide +kernel
theorem dX3_hasProduct_1 : decode cX3_hasProduct 1 = .ok (.istore 5, 2) := by decide +kernel
theorem dX3_hasProduct_3 : decode cX3_hasProduct 3 = .ok (.iconst 0, 1) := by decide +kernel
theorem dX3_hasProduct_4 : decode cX3_hasProduct 4 = .ok (.istore 6, 2) := by decide +kernel
theorem dX3_hasProduct_6 : decode cX3_hasProduct 6 = .ok (.iload 6, 2) := by decide +kernel
theorem dX3_hasProduct_8 : decode cX3_hasProduct 8 = .ok (.iload_n 3, 1) := by decide +kernel
theorem dX3_hasProduct_9 : decode cX3_hasProduct 9 = .ok (.if_icmp .gt 43, 3) := by decide +kernel
theorem dX3_hasProduct_12 : decode cX3_hasProduct 12 = .ok (.iload 5, 2) := by decide +kernel
theorem dX3_hasProduct_14 : decode cX3_hasProduct 14 = .ok (.ifCond .ne 25, 3) := by decide +kernel
theorem dX3_hasProduct_17 : decode cX3_hasProduct 17 = .ok (.aload_n 0, 1) := by decide +kernel
theorem dX3_hasProduct_18 : decode cX3_hasProduct 18 = .ok (.iload_n 1, 1) := by decide +kernel
theorem dX3_hasProduct_19 : decode cX3_hasProduct 19 = .ok (.iload 6, 2) := by decide +kernel
theorem dX3_hasProduct_21 : decode cX3_hasProduct 21 = .ok (.invokevirtual 44, 3) := by decide +kernel
theorem dX3_hasProduct_24 : decode cX3_hasProduct 24 = .ok (.aload_n 0, 1) := by decide +kernel
theorem dX3_hasProduct_25 : decode cX3_hasProduct 25 = .ok (.iload_n 2, 1) := by decide +kernel
theorem dX3_hasProduct_26 : decode cX3_hasProduct 26 = .ok (.iload_n 3, 1) := by decide +kernel
theorem dX3_hasProduct_27 : decode cX3_hasProduct 27 = .ok (.iload 6, 2) := by decide +kernel
theorem dX3_hasProduct_29 : decode cX3_hasProduct 29 = .ok (.isub, 1) := by decide +kernel
theorem dX3_hasProduct_30 : decode cX3_hasProduct 30 = .ok (.invokevirtual 44, 3) := by decide +kernel
theorem dX3_hasProduct_33 : decode cX3_hasProduct 33 = .ok (.imul, 1) := by decide +kernel
theorem dX3_hasProduct_34 : decode cX3_hasProduct 34 = .ok (.iload 4, 2) := by decide +kernel
theorem dX3_hasProduct_36 : decode cX3_hasProduct 36 = .ok (.if_icmp .ne 7, 3) := by decide +kernel
theorem dX3_hasProduct_39 : decode cX3_hasProduct 39 = .ok (.iconst 1, 1) := by decide +kernel
theorem dX3_hasProduct_40 : decode cX3_hasProduct 40 = .ok (.goto 4, 3) := by decide +kernel
theorem dX3_hasProduct_43 : decode cX3_hasProduct 43 = .ok (.iconst 0, 1) := by decide +kernel
theorem dX3_hasProduct_44 : decode cX3_hasProduct 44 = .ok (.istore 5, 2) := by decide +kernel
theorem dX3_hasProduct_46 : decode cX3_hasProduct 46 = .ok (.iinc 6 1, 3) := by decide +kernel
theorem dX3_hasProduct_49 : decode cX3_hasProduct 49 = .ok (.goto (-43), 3) := by decide +kernel
theorem dX3_hasProduct_52 : decode cX3_hasProduct 52 = .ok (.iload 5, 2) := by decide +kernel
theorem dX3_hasProduct_54 : decode cX3_hasProduct 54 = .ok (.ireturn, 1) := by decide +kernel
theorem dX3_isThree_0 : decode cX3_isThree 0 = .ok (.iload 4, 2) := by decide +kernel
theorem dX3_isThree_2 : decode cX3_isThree 2 = .ok (.ifCond .ne 27, 3) := by decide +kernel
theorem dX3_isThree_5 : decode cX3_isThree 5 = .ok (.aload_n 0, 1) := by decide +kernel
theorem dX3_isThree_6 : decode cX3_isThree 6 = .ok (.iload_n 1, 1) := by decide +kernel
theorem dX3_isThree_7 : decode cX3_isThree 7 = .ok (.iload_n 3, 1) := by decide +kernel
theorem dX3_isThree_8 : decode cX3_isThree 8 = .ok (.invokevirtual 44, 3) := by decide +kernel
theorem dX3_isThree_11 : decode cX3_isThree 11 = .ok (.aload_n 0, 1) := by decide +kernel
theorem dX3_isThree_12 : decode cX3_isThree 12 = .ok (.iload_n 2, 1) := by decide +kernel
theorem dX3_isThree_13 : decode cX3_isThree 13 = .ok (.iload_n 3, 1) := by decide +kernel
theorem dX3_isThree_14 : decode cX3_isThree 14 = .ok (.invokevirtual 44, 3) := by decide +kernel
theorem dX3_isThree_17 : decode cX3_isThree 17 = .ok (.imul, 1) := by decide +kernel
theorem dX3_isThree_18 : decode cX3_isThree 18 = .ok (.ifCond .ge 7, 3) := by decide +kernel
theorem dX3_isThree_21 : decode cX3_isThree 21 = .ok (.iconst 1, 1) := by decide +kernel
theorem dX3_isThree_22 : decode cX3_isThree 22 = .ok (.goto 34, 3) := by decide +kernel
theorem dX3_isThree_25 : decode cX3_isThree 25 = .ok (.iconst 0, 1) := by decide +kernel
theorem dX3_isThree_26 : decode cX3_isThree 26 = .ok (.goto 30, 3) := by decide +kernel
theorem dX3_isThree_29 : decode cX3_isThree 29 = .ok (.aload_n 0, 1) := by decide +kernel
theorem dX3_isThree_30 : decode cX3_isThree 30 = .ok (.iload_n 1, 1) := by decide +kernel
theorem dX3_isThree_31 : decode cX3_isThree 31 = .ok (.iload_n 2, 1) := by decide +kernel
theorem dX3_isThree_32 : decode cX3_isThree 32 = .ok (.iload_n 3, 1) := by decide +kernel
theorem dX3_isThree_33 : decode cX3_isThree 33 = .ok (.iconst 1, 1) := by decide +kernel
theorem dX3_isThree_34 : decode cX3_isThree 34 = .ok (.invokevirtual 124, 3) := by decide +kernel
theorem dX3_isThree_37 : decode cX3_isThree 37 = .ok (.ifCond .eq 18, 3) := by decide +kernel
theorem dX3_isThree_40 : decode cX3_isThree 40 = .ok (.aload_n 0, 1) := by decide +kernel
theorem dX3_isThree_41 : decode cX3_isThree 41 = .ok (.iload_n 1, 1) := by decide +kernel
theorem dX3_isThree_42 : decode cX3_isThree 42 = .ok (.iload_n 2, 1) := by decide +kernel
theorem dX3_isThree_43 : decode cX3_isThree 43 = .ok (.iload_n 3, 1) := by decide +kernel
theorem dX3_isThree_44 : decode cX3_isThree 44 = .ok (.iconst (-1), 1) := by decide +kernel
theorem dX3_isThree_45 : decode cX3_isThree 45 = .ok (.invokevirtual 124, 3) := by decide +kernel
theorem dX3_isThree_48 : decode cX3_isThree 48 = .ok (.ifCond .eq 7, 3) := by decide +kernel
theorem dX3_isThree_51 : decode cX3_isThree 51 = .ok (.iconst 1, 1) := by decide +kernel
theorem dX3_isThree_52 : decode cX3_isThree 52 = .ok (.goto 4, 3) := by decide +kernel
theorem dX3_isThree_55 : decode cX3_isThree 55 = .ok (.iconst 0, 1) := by decide +kernel
theorem dX3_isThree_56 : decode cX3_isThree 56 = .ok (.ireturn, 1) := by decide +kernel
theorem dX3_only_0 : decode cX3_only 0 = .ok (.iload 4, 2) := by decide +kernel
theorem dX3_only_2 : decode cX3_only 2 = .ok (.ifCond .ne 28, 3) := by decide +kernel
theorem dX3_only_5 : decode cX3_only 5 = .ok (.aload_n 0, 1) := by decide +kernel
theorem dX3_only_6 : decode cX3_only 6 = .ok (.iload_n 1, 1) := by decide +kernel
theorem dX3_only_7 : decode cX3_only 7 = .ok (.iload_n 3, 1) := by decide +kernel
theorem dX3_only_8 : decode cX3_only 8 = .ok (.invokevirtual 44, 3) := by decide +kernel
theorem dX3_only_11 : decode cX3_only 11 = .ok (.ifCond .ne 12, 3) := by decide +kernel
theorem dX3_only_14 : decode cX3_only 14 = .ok (.aload_n 0, 1) := by decide +kernel
theorem dX3_only_15 : decode cX3_only 15 = .ok (.iload_n 2, 1) := by decide +kernel
theorem dX3_only_16 : decode cX3_only 16 = .ok (.iload_n 3, 1) := by decide +kernel
theorem dX3_only_17 : decode cX3_only 17 = .ok (.invokevirtual 44, 3) := by decide +kernel
theorem dX3_only_20 : decode cX3_only 20 = .ok (.goto 9, 3) := by decide +kernel
theorem dX3_only_23 : decode cX3_only 23 = .ok (.aload_n 0, 1) := by decide +kernel
theorem dX3_only_24 : decode cX3_only 24 = .ok (.iload_n 1, 1) := by decide +kernel
theorem dX3_only_25 : decode cX3_only 25 = .ok (.iload_n 3, 1) := by decide +kernel
theorem dX3_only_26 : decode cX3_only 26 = .ok (.invokevirtual 44, 3) := by decide +kernel
theorem dX3_only_29 : decode cX3_only 29 = .ok (.ireturn, 1) := by decide +kernel
theorem dX3_only_30 : decode cX3_only 30 = .ok (.aload_n 0, 1) := by decide +kernel
theorem dX3_only_31 : decode cX3_only 31 = .ok (.iload_n 1, 1) := by decide +kernel
theorem dX3_only_32 : decode cX3_only 32 = .ok (.iload_n 2, 1) := by decide +kernel
theorem dX3_only_33 : decode cX3_only 33 = .ok (.iload_n 3, 1) := by decide +kernel
theorem dX3_only_34 : decode cX3_only 34 = .ok (.iconst 1, 1) := by decide +kernel
theorem dX3_only_35 : decode cX3_only 35 = .ok (.invokevirtual 124, 3) := by decide +kernel
theorem dX3_only_38 : decode cX3_only 38 = .ok (.ifCond .eq 7, 3) := by decide +kernel
theorem dX3_only_41 : decode cX3_only 41 = .ok (.iconst 1, 1) := by decide +kernel
theorem dX3_only_42 : decode cX3_only 42 = .ok (.goto 19, 3) := by decide +kernel
theorem dX3_only_45 : decode cX3_only 45 = .ok (.aload_n 0, 1) := by decide +kernel
theorem dX3_only_46 : decode cX3_only 46 = .ok (.iload_n 1, 1) := by decide +kernel
theorem dX3_only_47 : decode cX3_only 47 = .ok (.iload_n 2, 1) := by decide +kernel
theorem dX3_only_48 : decode cX3_only 48 = .ok (.iload_n 3, 1) := by decide +kernel
theorem dX3_only_49 : decode cX3_only 49 = .ok (.iconst (-1), 1) := by decide +kernel
theorem dX3_only_50 : decode cX3_only 50 = .ok (.invokevirtual 124, 3) := by decide +kernel
theorem dX3_only_53 : decode cX3_only 53 = .ok (.ifCond .eq 7, 3) := by decide +kernel
theorem dX3_only_56 : decode cX3_only 56 = .ok (.iconst (-1), 1) := by decide +kernel
theorem dX3_only_57 : decode cX3_only 57 = .ok (.goto 4, 3) := by decide +kernel
theorem dX3_only_60 : decode cX3_only 60 = .ok (.iconst 0, 1) := by decide +kernel
theorem dX3_only_61 : decode cX3_only 61 = .ok (.ireturn, 1) := by decide +kernel
theorem dX3_isTooHigh_0 : decode cX3_isTooHigh 0 = .ok (.iload_n 3, 1) := by decide +kernel
theorem dX3_isTooHigh_1 : decode cX3_isTooHigh 1 = .ok (.iconst 1, 1) := by decide +kernel
theorem dX3_isTooHigh_2 : decode cX3_isTooHigh 2 = .ok (.if_icmp .ne 23, 3) := by decide +kernel
theorem dX3_isTooHigh_5 : decode cX3_isTooHigh 5 = .ok (.aload_n 0, 1) := by decide +kernel
theorem dX3_isTooHigh_6 : decode cX3_isTooHigh 6 = .ok (.iload_n 1, 1) := by decide +kernel
theorem dX3_isTooHigh_7 : decode cX3_isTooHigh 7 = .ok (.invokevirtual 51, 3) := by decide +kernel
theorem dX3_isTooHigh_10 : decode cX3_isTooHigh 10 = .ok (.aload_n 0, 1) := by decide +kernel
theorem dX3_isTooHigh_11 : decode cX3_isTooHigh 11 = .ok (.iload_n 2, 1) := by decide +kernel
theorem dX3_isTooHigh_12 : decode cX3_isTooHigh 12 = .ok (.invokevirtual 51, 3) := by decide +kernel
theorem dX3_isTooHigh_15 : decode cX3_isTooHigh 15 = .ok (.iadd, 1) := by decide +kernel
theorem dX3_isTooHigh_16 : decode cX3_isTooHigh 16 = .ok (.bipush 8, 2) := by decide +kernel
theorem dX3_isTooHigh_18 : decode cX3_isTooHigh 18 = .ok (.if_icmp .le 7, 3) := by decide +kernel
theorem dX3_isTooHigh_21 : decode cX3_isTooHigh 21 = .ok (.iconst 1, 1) := by decide +kernel
theorem dX3_isTooHigh_22 : decode cX3_isTooHigh 22 = .ok (.goto 4, 3) := by decide +kernel
theorem dX3_isTooHigh_25 : decode cX3_isTooHigh 25 = .ok (.iconst 0, 1) := by decide +kernel
theorem dX3_isTooHigh_26 : decode cX3_isTooHigh 26 = .ok (.ireturn, 1) := by decide +kernel
theorem dX3_rows_0 : decode cX3_rows 0 = .ok (.aload_n 0, 1) := by decide +kernel
theorem dX3_rows_1 : decode cX3_rows 1 = .ok (.iload_n 1, 1) := by decide +kernel
theorem dX3_rows_2 : decode cX3_rows 2 = .ok (.iload_n 2, 1) := by decide +kernel
theorem dX3_rows_3 : decode cX3_rows 3 = .ok (.iload_n 3, 1) := by decide +kernel
theorem dX3_rows_4 : decode cX3_rows 4 = .ok (.invokevirtual 128, 3) := by decide +kernel
theorem dX3_rows_7 : decode cX3_rows 7 = .ok (.ifCond .eq 6, 3) := by decide +kernel
theorem dX3_rows_10 : decode cX3_rows 10 = .ok (.bipush (-9), 2) := by decide +kernel
theorem dX3_rows_12 : decode cX3_rows 12 = .ok (.ireturn, 1) := by decide +kernel
theorem dX3_rows_13 : decode cX3_rows 13 = .ok (.iconst 1, 1) := by decide +kernel
theorem dX3_rows_14 : decode cX3_rows 14 = .ok (.istore 4, 2) := by decide +kernel
theorem dX3_rows_16 : decode cX3_rows 16 = .ok (.iconst 0, 1) := by decide +kernel
theorem dX3_rows_17 : decode cX3_rows 17 = .ok (.istore 5, 2) := by decide +kernel
theorem dX3_rows_19 : decode cX3_rows 19 = .ok (.iload 5, 2) := by decide +kernel
theorem dX3_rows_21 : decode cX3_rows 21 = .ok (.bipush 9, 2) := by decide +kernel
theorem dX3_rows_23 : decode cX3_rows 23 = .ok (.if_icmp .ge 31, 3) := by decide +kernel
theorem dX3_rows_26 : decode cX3_rows 26 = .ok (.iload 4, 2) := by decide +kernel
theorem dX3_rows_28 : decode cX3_rows 28 = .ok (.aload_n 0, 1) := by decide +kernel
theorem dX3_rows_29 : decode cX3_rows 29 = .ok (.iload_n 1, 1) := by decide +kernel
theorem dX3_rows_30 : decode cX3_rows 30 = .ok (.iload_n 2, 1) := by decide +kernel
theorem dX3_rows_31 : decode cX3_rows 31 = .ok (.iload 5, 2) := by decide +kernel
theorem dX3_rows_33 : decode cX3_rows 33 = .ok (.iload_n 3, 1) := by decide +kernel
theorem dX3_rows_34 : decode cX3_rows 34 = .ok (.invokevirtual 131, 3) := by decide +kernel
theorem dX3_rows_37 : decode cX3_rows 37 = .ok (.ifCond .eq 7, 3) := by decide +kernel
theorem dX3_rows_40 : decode cX3_rows 40 = .ok (.iconst 3, 1) := by decide +kernel
theorem dX3_rows_41 : decode cX3_rows 41 = .ok (.goto 4, 3) := by decide +kernel
theorem dX3_rows_44 : decode cX3_rows 44 = .ok (.iconst 1, 1) := by decide +kernel
theorem dX3_rows_45 : decode cX3_rows 45 = .ok (.imul, 1) := by decide +kernel
theorem dX3_rows_46 : decode cX3_rows 46 = .ok (.istore 4, 2) := by decide +kernel
theorem dX3_rows_48 : decode cX3_rows 48 = .ok (.iinc 5 1, 3) := by decide +kernel
theorem dX3_rows_51 : decode cX3_rows 51 = .ok (.goto (-32), 3) := by decide +kernel
theorem dX3_rows_54 : decode cX3_rows 54 = .ok (.iload 4, 2) := by decide +kernel
theorem dX3_rows_56 : decode cX3_rows 56 = .ok (.ireturn, 1) := by decide +kernel
theorem dX3_many_0 : decode cX3_many 0 = .ok (.aload_n 0, 1) := by decide +kernel
theorem dX3_many_1 : decode cX3_many 1 = .ok (.iconst 0, 1) := by decide +kernel
theorem dX3_many_2 : decode cX3_many 2 = .ok (.putfield 36, 3) := by decide +kernel
theorem dX3_many_5 : decode cX3_many 5 = .ok (.iload_n 1, 1) := by decide +kernel
theorem dX3_many_6 : decode cX3_many 6 = .ok (.invokestatic 75, 3) := by decide +kernel
theorem dX3_many_9 : decode cX3_many 9 = .ok (.ifCond .eq 10, 3) := by decide +kernel
theorem dX3_many_12 : decode cX3_many 12 = .ok (.iload_n 2, 1) := by decide +kernel
theorem dX3_many_13 : decode cX3_many 13 = .ok (.invokestatic 75, 3) := by decide +kernel
theorem dX3_many_16 : decode cX3_many 16 = .ok (.ifCond .ne 9, 3) := by decide +kernel
theorem dX3_many_19 : decode cX3_many 19 = .ok (.aload_n 0, 1) := by decide +kernel
theorem dX3_many_20 : decode cX3_many 20 = .ok (.iconst 1, 1) := by decide +kernel
theorem dX3_many_21 : decode cX3_many 21 = .ok (.invokevirtual 79, 3) := by decide +kernel
theorem dX3_many_24 : decode cX3_many 24 = .ok (.ireturn, 1) := by decide +kernel
theorem dX3_many_25 : decode cX3_many 25 = .ok (.iload_n 3, 1) := by decide +kernel
theorem dX3_many_26 : decode cX3_many 26 = .ok (.iconst 0, 1) := by decide +kernel
theorem dX3_many_27 : decode cX3_many 27 = .ok (.iconst 1, 1) := by decide +kernel
theorem dX3_many_28 : decode cX3_many 28 = .ok (.invokestatic 40, 3) := by decide +kernel
theorem dX3_many_31 : decode cX3_many 31 = .ok (.ifCond .eq 13, 3) := by decide +kernel
theorem dX3_many_34 : decode cX3_many 34 = .ok (.aload_n 0, 1) := by decide +kernel
theorem dX3_many_35 : decode cX3_many 35 = .ok (.iload_n 1, 1) := by decide +kernel
theorem dX3_many_36 : decode cX3_many 36 = .ok (.iload_n 2, 1) := by decide +kernel
theorem dX3_many_37 : decode cX3_many 37 = .ok (.iload_n 3, 1) := by decide +kernel
theorem dX3_many_38 : decode cX3_many 38 = .ok (.invokevirtual 134, 3) := by decide +kernel
theorem dX3_many_41 : decode cX3_many 41 = .ok (.goto 8, 3) := by decide +kernel
theorem dX3_many_44 : decode cX3_many 44 = .ok (.aload_n 0, 1) := by decide +kernel
theorem dX3_many_45 : decode cX3_many 45 = .ok (.iconst 2, 1) := by decide +kernel
theorem dX3_many_46 : decode cX3_many 46 = .ok (.invokevirtual 79, 3) := by decide +kernel
theorem dX3_many_49 : decode cX3_many 49 = .ok (.ireturn, 1) := by decide +kernel
theorem dX3_isAmong_0 : decode cX3_isAmong 0 = .ok (.aload_n 0, 1) := by decide +kernel
theorem dX3_isAmong_1 : decode cX3_isAmong 1 = .ok (.iload_n 2, 1) := by decide +kernel
theorem dX3_isAmong_2 : decode cX3_isAmong 2 = .ok (.iload_n 3, 1) := by decide +kernel
theorem dX3_isAmong_3 : decode cX3_isAmong 3 = .ok (.iload 4, 2) := by decide +kernel
theorem dX3_isAmong_5 : decode cX3_isAmong 5 = .ok (.invokevirtual 128, 3) := by decide +kernel
theorem dX3_isAmong_8 : decode cX3_isAmong 8 = .ok (.ifCond .ne 7, 3) := by decide +kernel
theorem dX3_isAmong_11 : decode cX3_isAmong 11 = .ok (.iconst 1, 1) := by decide +kernel
theorem dX3_isAmong_12 : decode cX3_isAmong 12 = .ok (.goto 4, 3) := by decide +kernel
theorem dX3_isAmong_15 : decode cX3_isAmong 15 = .ok (.iconst 0, 1) := by decide +kernel
theorem dX3_isAmong_16 : decode cX3_isAmong 16 = .ok (.istore 5, 2) := by decide +kernel
theorem dX3_isAmong_18 : decode cX3_isAmong 18 = .ok (.iconst 0, 1) := by decide +kernel
theorem dX3_isAmong_19 : decode cX3_isAmong 19 = .ok (.istore 6, 2) := by decide +kernel
theorem dX3_isAmong_21 : decode cX3_isAmong 21 = .ok (.iload 6, 2) := by decide +kernel
theorem dX3_isAmong_23 : decode cX3_isAmong 23 = .ok (.bipush 9, 2) := by decide +kernel
theorem dX3_isAmong_25 : decode cX3_isAmong 25 = .ok (.if_icmp .ge 54, 3) := by decide +kernel
theorem dX3_isAmong_28 : decode cX3_isAmong 28 = .ok (.iload 5, 2) := by decide +kernel
theorem dX3_isAmong_30 : decode cX3_isAmong 30 = .ok (.ifCond .eq 40, 3) := by decide +kernel
theorem dX3_isAmong_33 : decode cX3_isAmong 33 = .ok (.aload_n 0, 1) := by decide +kernel
theorem dX3_isAmong_34 : decode cX3_isAmong 34 = .ok (.iload_n 2, 1) := by decide +kernel
theorem dX3_isAmong_35 : decode cX3_isAmong 35 = .ok (.iload_n 3, 1) := by decide +kernel
theorem dX3_isAmong_36 : decode cX3_isAmong 36 = .ok (.iload 6, 2) := by decide +kernel
theorem dX3_isAmong_38 : decode cX3_isAmong 38 = .ok (.iload 4, 2) := by decide +kernel
theorem dX3_isAmong_40 : decode cX3_isAmong 40 = .ok (.invokevirtual 131, 3) := by decide +kernel
theorem dX3_isAmong_43 : decode cX3_isAmong 43 = .ok (.ifCond .ne 23, 3) := by decide +kernel
theorem dX3_isAmong_46 : decode cX3_isAmong 46 = .ok (.aload_n 0, 1) := by decide +kernel
theorem dX3_isAmong_47 : decode cX3_isAmong 47 = .ok (.iload_n 1, 1) := by decide +kernel
theorem dX3_isAmong_48 : decode cX3_isAmong 48 = .ok (.iload 6, 2) := by decide +kernel
theorem dX3_isAmong_50 : decode cX3_isAmong 50 = .ok (.invokevirtual 44, 3) := by decide +kernel
theorem dX3_isAmong_53 : decode cX3_isAmong 53 = .ok (.aload_n 0, 1) := by decide +kernel
theorem dX3_isAmong_54 : decode cX3_isAmong 54 = .ok (.iload_n 2, 1) := by decide +kernel
theorem dX3_isAmong_55 : decode cX3_isAmong 55 = .ok (.iload_n 3, 1) := by decide +kernel
theorem dX3_isAmong_56 : decode cX3_isAmong 56 = .ok (.iload 6, 2) := by decide +kernel
theorem dX3_isAmong_58 : decode cX3_isAmong 58 = .ok (.iload 4, 2) := by decide +kernel
theorem dX3_isAmong_60 : decode cX3_isAmong 60 = .ok (.invokevirtual 138, 3) := by decide +kernel
theorem dX3_isAmong_63 : decode cX3_isAmong 63 = .ok (.if_icmp .ne 7, 3) := by decide +kernel
theorem dX3_isAmong_66 : decode cX3_isAmong 66 = .ok (.iconst 1, 1) := by decide +kernel
theorem dX3_isAmong_67 : decode cX3_isAmong 67 = .ok (.goto 4, 3) := by decide +kernel
theorem dX3_isAmong_70 : decode cX3_isAmong 70 = .ok (.iconst 0, 1) := by decide +kernel
theorem dX3_isAmong_71 : decode cX3_isAmong 71 = .ok (.istore 5, 2) := by decide +kernel
theorem dX3_isAmong_73 : decode cX3_isAmong 73 = .ok (.iinc 6 1, 3) := by decide +kernel
theorem dX3_isAmong_76 : decode cX3_isAmong 76 = .ok (.goto (-55), 3) := by decide +kernel
theorem dX3_isAmong_79 : decode cX3_isAmong 79 = .ok (.iload 5, 2) := by decide +kernel
theorem dX3_isAmong_81 : decode cX3_isAmong 81 = .ok (.ireturn, 1) := by decide +kernel
theorem dX3_isIn_0 : decode cX3_isIn 0 = .ok (.aload_n 0, 1) := by decide +kernel
theorem dX3_isIn_1 : decode cX3_isIn 1 = .ok (.iconst 0, 1) := by decide +kernel
theorem dX3_isIn_2 : decode cX3_isIn 2 = .ok (.putfield 36, 3) := by decide +kernel
theorem dX3_isIn_5 : decode cX3_isIn 5 = .ok (.iload_n 1, 1) := by decide +kernel
theorem dX3_isIn_6 : decode cX3_isIn 6 = .ok (.invokestatic 75, 3) := by decide +kernel
theorem dX3_isIn_9 : decode cX3_isIn 9 = .ok (.ifCond .eq 17, 3) := by decide +kernel
theorem dX3_isIn_12 : decode cX3_isIn 12 = .ok (.iload_n 2, 1) := by decide +kernel
theorem dX3_isIn_13 : decode cX3_isIn 13 = .ok (.invokestatic 75, 3) := by decide +kernel
theorem dX3_isIn_16 : decode cX3_isIn 16 = .ok (.ifCond .eq 10, 3) := by decide +kernel
theorem dX3_isIn_19 : decode cX3_isIn 19 = .ok (.iload_n 3, 1) := by decide +kernel
theorem dX3_isIn_20 : decode cX3_isIn 20 = .ok (.invokestatic 75, 3) := by decide +kernel
theorem dX3_isIn_23 : decode cX3_isIn 23 = .ok (.ifCond .ne 9, 3) := by decide +kernel
theorem dX3_isIn_26 : decode cX3_isIn 26 = .ok (.aload_n 0, 1) := by decide +kernel
theorem dX3_isIn_27 : decode cX3_isIn 27 = .ok (.iconst 1, 1) := by decide +kernel
theorem dX3_isIn_28 : decode cX3_isIn 28 = .ok (.invokevirtual 79, 3) := by decide +kernel
theorem dX3_isIn_31 : decode cX3_isIn 31 = .ok (.ireturn, 1) := by decide +kernel
theorem dX3_isIn_32 : decode cX3_isIn 32 = .ok (.iload 4, 2) := by decide +kernel
theorem dX3_isIn_34 : decode cX3_isIn 34 = .ok (.iconst 0, 1) := by decide +kernel
theorem dX3_isIn_35 : decode cX3_isIn 35 = .ok (.iconst 1, 1) := by decide +kernel
theorem dX3_isIn_36 : decode cX3_isIn 36 = .ok (.invokestatic 40, 3) := by decide +kernel
theorem dX3_isIn_39 : decode cX3_isIn 39 = .ok (.ifCond .ne 11, 3) := by decide +kernel
theorem dX3_isIn_42 : decode cX3_isIn 42 = .ok (.aload_n 0, 1) := by decide +kernel
theorem dX3_isIn_43 : decode cX3_isIn 43 = .ok (.iconst 2, 1) := by decide +kernel
theorem dX3_isIn_44 : decode cX3_isIn 44 = .ok (.invokevirtual 79, 3) := by decide +kernel
theorem dX3_isIn_47 : decode cX3_isIn 47 = .ok (.goto 20, 3) := by decide +kernel
theorem dX3_isIn_50 : decode cX3_isIn 50 = .ok (.aload_n 0, 1) := by decide +kernel
theorem dX3_isIn_51 : decode cX3_isIn 51 = .ok (.iload_n 1, 1) := by decide +kernel
theorem dX3_isIn_52 : decode cX3_isIn 52 = .ok (.iload_n 2, 1) := by decide +kernel
theorem dX3_isIn_53 : decode cX3_isIn 53 = .ok (.iload_n 3, 1) := by decide +kernel
theorem dX3_isIn_54 : decode cX3_isIn 54 = .ok (.iload 4, 2) := by decide +kernel
theorem dX3_isIn_56 : decode cX3_isIn 56 = .ok (.invokevirtual 142, 3) := by decide +kernel
theorem dX3_isIn_59 : decode cX3_isIn 59 = .ok (.ifCond .eq 7, 3) := by decide +kernel
theorem dX3_isIn_62 : decode cX3_isIn 62 = .ok (.iconst 1, 1) := by decide +kernel
theorem dX3_isIn_63 : decode cX3_isIn 63 = .ok (.goto 4, 3) := by decide +kernel
theorem dX3_isIn_66 : decode cX3_isIn 66 = .ok (.iconst 0, 1) := by decide +kernel
theorem dX3_isIn_67 : decode cX3_isIn 67 = .ok (.ireturn, 1) := by decide +kernel
theorem dX3_coefficient_0 : decode cX3_coefficient 0 = .ok (.aload_n 0, 1) := by decide +kernel
theorem dX3_coefficient_1 : decode cX3_coefficient 1 = .ok (.iconst 0, 1) := by decide +kernel
theorem dX3_coefficient_2 : decode cX3_coefficient 2 = .ok (.putfield 36, 3) := by decide +kernel
theorem dX3_coefficient_5 : decode cX3_coefficient 5 = .ok (.iload_n 1, 1) := by decide +kernel
theorem dX3_coefficient_6 : decode cX3_coefficient 6 = .ok (.iconst 0, 1) := by decide +kernel
theorem dX3_coefficient_7 : decode cX3_coefficient 7 = .ok (.bipush 8, 2) := by decide +kernel
theorem dX3_coefficient_9 : decode cX3_coefficient 9 = .ok (.invokestatic 40, 3) := by decide +kernel
theorem dX3_coefficient_12 : decode cX3_coefficient 12 = .ok (.ifCond .ne 10, 3) := by decide +kernel
theorem dX3_coefficient_15 : decode cX3_coefficient 15 = .ok (.aload_n 0, 1) := by decide +kernel
theorem dX3_coefficient_16 : decode cX3_coefficient 16 = .ok (.iconst 1, 1) := by decide +kernel
theorem dX3_coefficient_17 : decode cX3_coefficient 17 = .ok (.invokevirtual 79, 3) := by decide +kernel
theorem dX3_coefficient_20 : decode cX3_coefficient 20 = .ok (.i2l, 1) := by decide +kernel
theorem dX3_coefficient_21 : decode cX3_coefficient 21 = .ok (.lreturn, 1) := by decide +kernel
theorem dX3_coefficient_22 : decode cX3_coefficient 22 = .ok (.aload_n 0, 1) := by decide +kernel
theorem dX3_coefficient_23 : decode cX3_coefficient 23 = .ok (.invokevirtual 94, 3) := by decide +kernel
theorem dX3_coefficient_26 : decode cX3_coefficient 26 = .ok (.aload_n 0, 1) := by decide +kernel
theorem dX3_coefficient_27 : decode cX3_coefficient 27 = .ok (.getfield 32, 3) := by decide +kernel
theorem dX3_coefficient_30 : decode cX3_coefficient 30 = .ok (.iload_n 1, 1) := by decide +kernel
theorem dX3_coefficient_31 : decode cX3_coefficient 31 = .ok (.laload, 1) := by decide +kernel
theorem dX3_coefficient_32 : decode cX3_coefficient 32 = .ok (.lreturn, 1) := by decide +kernel
theorem dX3_rootsOf_0 : decode cX3_rootsOf 0 = .ok (.iconst 0, 1) := by decide +kernel
theorem dX3_rootsOf_1 : decode cX3_rootsOf 1 = .ok (.istore_n 2, 1) := by decide +kernel
theorem dX3_rootsOf_2 : decode cX3_rootsOf 2 = .ok (.iconst 0, 1) := by decide +kernel
theorem dX3_rootsOf_3 : decode cX3_rootsOf 3 = .ok (.istore_n 3, 1) := by decide +kernel
theorem dX3_rootsOf_4 : decode cX3_rootsOf 4 = .ok (.iload_n 3, 1) := by decide +kernel
theorem dX3_rootsOf_5 : decode cX3_rootsOf 5 = .ok (.aload_n 0, 1) := by decide +kernel
theorem dX3_rootsOf_6 : decode cX3_rootsOf 6 = .ok (.getfield 7, 3) := by decide +kernel
theorem dX3_rootsOf_9 : decode cX3_rootsOf 9 = .ok (.bipush 45, 2) := by decide +kernel
theorem dX3_rootsOf_11 : decode cX3_rootsOf 11 = .ok (.iaload, 1) := by decide +kernel
theorem dX3_rootsOf_12 : decode cX3_rootsOf 12 = .ok (.if_icmp .ge 51, 3) := by decide +kernel
theorem dX3_rootsOf_15 : decode cX3_rootsOf 15 = .ok (.aload_n 0, 1) := by decide +kernel
theorem dX3_rootsOf_16 : decode cX3_rootsOf 16 = .ok (.getfield 7, 3) := by decide +kernel
theorem dX3_rootsOf_19 : decode cX3_rootsOf 19 = .ok (.bipush 46, 2) := by decide +kernel
theorem dX3_rootsOf_21 : decode cX3_rootsOf 21 = .ok (.iload_n 3, 1) := by decide +kernel
theorem dX3_rootsOf_22 : decode cX3_rootsOf 22 = .ok (.iadd, 1) := by decide +kernel
theorem dX3_rootsOf_23 : decode cX3_rootsOf 23 = .ok (.iaload, 1) := by decide +kernel
theorem dX3_rootsOf_24 : decode cX3_rootsOf 24 = .ok (.istore 4, 2) := by decide +kernel
theorem dX3_rootsOf_26 : decode cX3_rootsOf 26 = .ok (.iload_n 2, 1) := by decide +kernel
theorem dX3_rootsOf_27 : decode cX3_rootsOf 27 = .ok (.iload 4, 2) := by decide +kernel
theorem dX3_rootsOf_29 : decode cX3_rootsOf 29 = .ok (.ifCond .le 7, 3) := by decide +kernel
theorem dX3_rootsOf_32 : decode cX3_rootsOf 32 = .ok (.iconst 1, 1) := by decide +kernel
theorem dX3_rootsOf_33 : decode cX3_rootsOf 33 = .ok (.goto 13, 3) := by decide +kernel
theorem dX3_rootsOf_36 : decode cX3_rootsOf 36 = .ok (.iload 4, 2) := by decide +kernel
theorem dX3_rootsOf_38 : decode cX3_rootsOf 38 = .ok (.ifCond .ge 7, 3) := by decide +kernel
theorem dX3_rootsOf_41 : decode cX3_rootsOf 41 = .ok (.iconst 2, 1) := by decide +kernel
theorem dX3_rootsOf_42 : decode cX3_rootsOf 42 = .ok (.goto 4, 3) := by decide +kernel
theorem dX3_rootsOf_45 : decode cX3_rootsOf 45 = .ok (.iconst 3, 1) := by decide +kernel
theorem dX3_rootsOf_46 : decode cX3_rootsOf 46 = .ok (.iload_n 1, 1) := by decide +kernel
theorem dX3_rootsOf_47 : decode cX3_rootsOf 47 = .ok (.if_icmp .ne 7, 3) := by decide +kernel
theorem dX3_rootsOf_50 : decode cX3_rootsOf 50 = .ok (.iconst 1, 1) := by decide +kernel
theorem dX3_rootsOf_51 : decode cX3_rootsOf 51 = .ok (.goto 4, 3) := by decide +kernel
theorem dX3_rootsOf_54 : decode cX3_rootsOf 54 = .ok (.iconst 0, 1) := by decide +kernel
theorem dX3_rootsOf_55 : decode cX3_rootsOf 55 = .ok (.iadd, 1) := by decide +kernel
theorem dX3_rootsOf_56 : decode cX3_rootsOf 56 = .ok (.istore_n 2, 1) := by decide +kernel
theorem dX3_rootsOf_57 : decode cX3_rootsOf 57 = .ok (.iinc 3 1, 3) := by decide +kernel
theorem dX3_rootsOf_60 : decode cX3_rootsOf 60 = .ok (.goto (-56), 3) := by decide +kernel
theorem dX3_rootsOf_63 : decode cX3_rootsOf 63 = .ok (.iload_n 2, 1) := by decide +kernel
theorem dX3_rootsOf_64 : decode cX3_rootsOf 64 = .ok (.ireturn, 1) := by decide +kernel
theorem dX3_tellsCount_0 : decode cX3_tellsCount 0 = .ok (.iload_n 1, 1) := by decide +kernel
theorem dX3_tellsCount_1 : decode cX3_tellsCount 1 = .ok (.tableswitch 107 0 6 #[43, 51, 51, 51, 57, 65, 73], 43) := by decide +kernel
theorem dX3_tellsCount_44 : decode cX3_tellsCount 44 = .ok (.aload_n 0, 1) := by decide +kernel
theorem dX3_tellsCount_45 : decode cX3_tellsCount 45 = .ok (.getfield 7, 3) := by decide +kernel
theorem dX3_tellsCount_48 : decode cX3_tellsCount 48 = .ok (.bipush 45, 2) := by decide +kernel
theorem dX3_tellsCount_50 : decode cX3_tellsCount 50 = .ok (.iaload, 1) := by decide +kernel
theorem dX3_tellsCount_51 : decode cX3_tellsCount 51 = .ok (.ireturn, 1) := by decide +kernel
theorem dX3_tellsCount_52 : decode cX3_tellsCount 52 = .ok (.aload_n 0, 1) := by decide +kernel
theorem dX3_tellsCount_53 : decode cX3_tellsCount 53 = .ok (.iload_n 1, 1) := by decide +kernel
theorem dX3_tellsCount_54 : decode cX3_tellsCount 54 = .ok (.invokevirtual 145, 3) := by decide +kernel
theorem dX3_tellsCount_57 : decode cX3_tellsCount 57 = .ok (.ireturn, 1) := by decide +kernel
theorem dX3_tellsCount_58 : decode cX3_tellsCount 58 = .ok (.aload_n 0, 1) := by decide +kernel
theorem dX3_tellsCount_59 : decode cX3_tellsCount 59 = .ok (.getfield 7, 3) := by decide +kernel
theorem dX3_tellsCount_62 : decode cX3_tellsCount 62 = .ok (.bipush 54, 2) := by decide +kernel
theorem dX3_tellsCount_64 : decode cX3_tellsCount 64 = .ok (.iaload, 1) := by decide +kernel
theorem dX3_tellsCount_65 : decode cX3_tellsCount 65 = .ok (.ireturn, 1) := by decide +kernel
theorem dX3_tellsCount_66 : decode cX3_tellsCount 66 = .ok (.aload_n 0, 1) := by decide +kernel
theorem dX3_tellsCount_67 : decode cX3_tellsCount 67 = .ok (.getfield 7, 3) := by decide +kernel
theorem dX3_tellsCount_70 : decode cX3_tellsCount 70 = .ok (.bipush 55, 2) := by decide +kernel
theorem dX3_tellsCount_72 : decode cX3_tellsCount 72 = .ok (.iaload, 1) := by decide +kernel
theorem dX3_tellsCount_73 : decode cX3_tellsCount 73 = .ok (.ireturn, 1) := by decide +kernel
theorem dX3_tellsCount_74 : decode cX3_tellsCount 74 = .ok (.iconst 0, 1) := by decide +kernel
theorem dX3_tellsCount_75 : decode cX3_tellsCount 75 = .ok (.istore_n 2, 1) := by decide +kernel
theorem dX3_tellsCount_76 : decode cX3_tellsCount 76 = .ok (.iconst 0, 1) := by decide +kernel
theorem dX3_tellsCount_77 : decode cX3_tellsCount 77 = .ok (.istore_n 3, 1) := by decide +kernel
theorem dX3_tellsCount_78 : decode cX3_tellsCount 78 = .ok (.iload_n 3, 1) := by decide +kernel
theorem dX3_tellsCount_79 : decode cX3_tellsCount 79 = .ok (.iconst 5, 1) := by decide +kernel
theorem dX3_tellsCount_80 : decode cX3_tellsCount 80 = .ok (.if_icmp .ge 26, 3) := by decide +kernel
theorem dX3_tellsCount_83 : decode cX3_tellsCount 83 = .ok (.iload_n 2, 1) := by decide +kernel
theorem dX3_tellsCount_84 : decode cX3_tellsCount 84 = .ok (.aload_n 0, 1) := by decide +kernel
theorem dX3_tellsCount_85 : decode cX3_tellsCount 85 = .ok (.iload_n 3, 1) := by decide +kernel
theorem dX3_tellsCount_86 : decode cX3_tellsCount 86 = .ok (.iconst 1, 1) := by decide +kernel
theorem dX3_tellsCount_87 : decode cX3_tellsCount 87 = .ok (.invokevirtual 117, 3) := by decide +kernel
theorem dX3_tellsCount_90 : decode cX3_tellsCount 90 = .ok (.ifCond .eq 7, 3) := by decide +kernel
theorem dX3_tellsCount_93 : decode cX3_tellsCount 93 = .ok (.iconst 1, 1) := by decide +kernel
theorem dX3_tellsCount_94 : decode cX3_tellsCount 94 = .ok (.goto 4, 3) := by decide +kernel
theorem dX3_tellsCount_97 : decode cX3_tellsCount 97 = .ok (.iconst 0, 1) := by decide +kernel
theorem dX3_tellsCount_98 : decode cX3_tellsCount 98 = .ok (.iadd, 1) := by decide +kernel
theorem dX3_tellsCount_99 : decode cX3_tellsCount 99 = .ok (.istore_n 2, 1) := by decide +kernel
theorem dX3_tellsCount_100 : decode cX3_tellsCount 100 = .ok (.iinc 3 1, 3) := by decide +kernel
theorem dX3_tellsCount_103 : decode cX3_tellsCount 103 = .ok (.goto (-25), 3) := by decide +kernel
theorem dX3_tellsCount_106 : decode cX3_tellsCount 106 = .ok (.iload_n 2, 1) := by decide +kernel
theorem dX3_tellsCount_107 : decode cX3_tellsCount 107 = .ok (.ireturn, 1) := by decide +kernel
theorem dX3_tellsCount_108 : decode cX3_tellsCount 108 = .ok (.aload_n 0, 1) := by decide +kernel
theorem dX3_tellsCount_109 : decode cX3_tellsCount 109 = .ok (.getfield 48, 3) := by decide +kernel
theorem dX3_tellsCount_112 : decode cX3_tellsCount 112 = .ok (.ireturn, 1) := by decide +kernel
theorem dX3_count_0 : decode cX3_count 0 = .ok (.aload_n 0, 1) := by decide +kernel
theorem dX3_count_1 : decode cX3_count 1 = .ok (.iconst 0, 1) := by decide +kernel
theorem dX3_count_2 : decode cX3_count 2 = .ok (.putfield 36, 3) := by decide +kernel
theorem dX3_count_5 : decode cX3_count 5 = .ok (.iload_n 1, 1) := by decide +kernel
theorem dX3_count_6 : decode cX3_count 6 = .ok (.iconst 0, 1) := by decide +kernel
theorem dX3_count_7 : decode cX3_count 7 = .ok (.bipush 7, 2) := by decide +kernel
theorem dX3_count_9 : decode cX3_count 9 = .ok (.invokestatic 40, 3) := by decide +kernel
theorem dX3_count_12 : decode cX3_count 12 = .ok (.ifCond .eq 11, 3) := by decide +kernel
theorem dX3_count_15 : decode cX3_count 15 = .ok (.aload_n 0, 1) := by decide +kernel
theorem dX3_count_16 : decode cX3_count 16 = .ok (.iload_n 1, 1) := by decide +kernel
theorem dX3_count_17 : decode cX3_count 17 = .ok (.invokevirtual 148, 3) := by decide +kernel
theorem dX3_count_20 : decode cX3_count 20 = .ok (.goto 8, 3) := by decide +kernel
theorem dX3_count_23 : decode cX3_count 23 = .ok (.aload_n 0, 1) := by decide +kernel
theorem dX3_count_24 : decode cX3_count 24 = .ok (.iconst 1, 1) := by decide +kernel
theorem dX3_count_25 : decode cX3_count 25 = .ok (.invokevirtual 79, 3) := by decide +kernel
theorem dX3_count_28 : decode cX3_count 28 = .ok (.ireturn, 1) := by decide +kernel
theorem dX3_share_0 : decode cX3_share 0 = .ok (.aload_n 0, 1) := by decide +kernel
theorem dX3_share_1 : decode cX3_share 1 = .ok (.iload_n 1, 1) := by decide +kernel
theorem dX3_share_2 : decode cX3_share 2 = .ok (.iconst 1, 1) := by decide +kernel
theorem dX3_share_3 : decode cX3_share 3 = .ok (.invokevirtual 107, 3) := by decide +kernel
theorem dX3_share_6 : decode cX3_share 6 = .ok (.aload_n 0, 1) := by decide +kernel
theorem dX3_share_7 : decode cX3_share 7 = .ok (.iload_n 1, 1) := by decide +kernel
theorem dX3_share_8 : decode cX3_share 8 = .ok (.iconst (-1), 1) := by decide +kernel
theorem dX3_share_9 : decode cX3_share 9 = .ok (.invokevirtual 107, 3) := by decide +kernel
theorem dX3_share_12 : decode cX3_share 12 = .ok (.iadd, 1) := by decide +kernel
theorem dX3_share_13 : decode cX3_share 13 = .ok (.aload_n 0, 1) := by decide +kernel
theorem dX3_share_14 : decode cX3_share 14 = .ok (.iload_n 1, 1) := by decide +kernel
theorem dX3_share_15 : decode cX3_share 15 = .ok (.iconst 0, 1) := by decide +kernel
theorem dX3_share_16 : decode cX3_share 16 = .ok (.invokevirtual 107, 3) := by decide +kernel
theorem dX3_share_19 : decode cX3_share 19 = .ok (.iadd, 1) := by decide +kernel
theorem dX3_share_20 : decode cX3_share 20 = .ok (.istore_n 2, 1) := by decide +kernel
theorem dX3_share_21 : decode cX3_share 21 = .ok (.aload_n 0, 1) := by decide +kernel
theorem dX3_share_22 : decode cX3_share 22 = .ok (.iload_n 1, 1) := by decide +kernel
theorem dX3_share_23 : decode cX3_share 23 = .ok (.invokevirtual 51, 3) := by decide +kernel
theorem dX3_share_26 : decode cX3_share 26 = .ok (.ifCond .ne 7, 3) := by decide +kernel
theorem dX3_share_29 : decode cX3_share 29 = .ok (.dconst 1, 1) := by decide +kernel
theorem dX3_share_30 : decode cX3_share 30 = .ok (.goto 12, 3) := by decide +kernel
theorem dX3_share_33 : decode cX3_share 33 = .ok (.iload_n 2, 1) := by decide +kernel
theorem dX3_share_34 : decode cX3_share 34 = .ok (.i2d, 1) := by decide +kernel
theorem dX3_share_35 : decode cX3_share 35 = .ok (.aload_n 0, 1) := by decide +kernel
theorem dX3_share_36 : decode cX3_share 36 = .ok (.iload_n 1, 1) := by decide +kernel
theorem dX3_share_37 : decode cX3_share 37 = .ok (.invokevirtual 51, 3) := by decide +kernel
theorem dX3_share_40 : decode cX3_share 40 = .ok (.i2d, 1) := by decide +kernel
theorem dX3_share_41 : decode cX3_share 41 = .ok (.ddiv, 1) := by decide +kernel
theorem dX3_share_42 : decode cX3_share 42 = .ok (.dreturn, 1) := by decide +kernel
theorem dX3_takenShare_0 : decode cX3_takenShare 0 = .ok (.aload_n 0, 1) := by decide +kernel
theorem dX3_takenShare_1 : decode cX3_takenShare 1 = .ok (.iconst 0, 1) := by decide +kernel
theorem dX3_takenShare_2 : decode cX3_takenShare 2 = .ok (.putfield 36, 3) := by decide +kernel
theorem dX3_takenShare_5 : decode cX3_takenShare 5 = .ok (.iload_n 1, 1) := by decide +kernel
theorem dX3_takenShare_6 : decode cX3_takenShare 6 = .ok (.invokestatic 75, 3) := by decide +kernel
theorem dX3_takenShare_9 : decode cX3_takenShare 9 = .ok (.ifCond .eq 11, 3) := by decide +kernel
theorem dX3_takenShare_12 : decode cX3_takenShare 12 = .ok (.aload_n 0, 1) := by decide +kernel
theorem dX3_takenShare_13 : decode cX3_takenShare 13 = .ok (.iload_n 1, 1) := by decide +kernel
theorem dX3_takenShare_14 : decode cX3_takenShare 14 = .ok (.invokevirtual 151, 3) := by decide +kernel
theorem dX3_takenShare_17 : decode cX3_takenShare 17 = .ok (.goto 9, 3) := by decide +kernel
theorem dX3_takenShare_20 : decode cX3_takenShare 20 = .ok (.aload_n 0, 1) := by decide +kernel
theorem dX3_takenShare_21 : decode cX3_takenShare 21 = .ok (.iconst 1, 1) := by decide +kernel
theorem dX3_takenShare_22 : decode cX3_takenShare 22 = .ok (.invokevirtual 79, 3) := by decide +kernel
theorem dX3_takenShare_25 : decode cX3_takenShare 25 = .ok (.i2d, 1) := by decide +kernel
theorem dX3_takenShare_26 : decode cX3_takenShare 26 = .ok (.dreturn, 1) := by decide +kernel
theorem dX3_hashes_0 : decode cX3_hashes 0 = .ok (.aload_n 0, 1) := by decide +kernel
theorem dX3_hashes_1 : decode cX3_hashes 1 = .ok (.ldc2_w 155, 3) := by decide +kernel
theorem dX3_hashes_4 : decode cX3_hashes 4 = .ok (.aload_n 0, 1) := by decide +kernel
theorem dX3_hashes_5 : decode cX3_hashes 5 = .ok (.getfield 157, 3) := by decide +kernel
theorem dX3_hashes_8 : decode cX3_hashes 8 = .ok (.lmul, 1) := by decide +kernel
theorem dX3_hashes_9 : decode cX3_hashes 9 = .ok (.lload_n 1, 1) := by decide +kernel
theorem dX3_hashes_10 : decode cX3_hashes 10 = .ok (.ladd, 1) := by decide +kernel
theorem dX3_hashes_11 : decode cX3_hashes 11 = .ok (.putfield 157, 3) := by decide +kernel
theorem dX3_hashes_14 : decode cX3_hashes 14 = .ok (.return_, 1) := by decide +kernel
theorem dX3_hashesPoly_0 : decode cX3_hashesPoly 0 = .ok (.iconst 0, 1) := by decide +kernel
theorem dX3_hashesPoly_1 : decode cX3_hashesPoly 1 = .ok (.istore_n 2, 1) := by decide +kernel
theorem dX3_hashesPoly_2 : decode cX3_hashesPoly 2 = .ok (.iload_n 2, 1) := by decide +kernel
theorem dX3_hashesPoly_3 : decode cX3_hashesPoly 3 = .ok (.iconst 4, 1) := by decide +kernel
theorem dX3_hashesPoly_4 : decode cX3_hashesPoly 4 = .ok (.if_icmp .ge 20, 3) := by decide +kernel
theorem dX3_hashesPoly_7 : decode cX3_hashesPoly 7 = .ok (.aload_n 0, 1) := by decide +kernel
theorem dX3_hashesPoly_8 : decode cX3_hashesPoly 8 = .ok (.aload_n 0, 1) := by decide +kernel
theorem dX3_hashesPoly_9 : decode cX3_hashesPoly 9 = .ok (.iload_n 1, 1) := by decide +kernel
theorem dX3_hashesPoly_10 : decode cX3_hashesPoly 10 = .ok (.iload_n 2, 1) := by decide +kernel
theorem dX3_hashesPoly_11 : decode cX3_hashesPoly 11 = .ok (.invokevirtual 114, 3) := by decide +kernel
theorem dX3_hashesPoly_14 : decode cX3_hashesPoly 14 = .ok (.i2l, 1) := by decide +kernel
theorem dX3_hashesPoly_15 : decode cX3_hashesPoly 15 = .ok (.invokevirtual 161, 3) := by decide +kernel
theorem dX3_hashesPoly_18 : decode cX3_hashesPoly 18 = .ok (.iinc 2 1, 3) := by decide +kernel
theorem dX3_hashesPoly_21 : decode cX3_hashesPoly 21 = .ok (.goto (-19), 3) := by decide +kernel
theorem dX3_hashesPoly_24 : decode cX3_hashesPoly 24 = .ok (.iconst 0, 1) := by decide +kernel
theorem dX3_hashesPoly_25 : decode cX3_hashesPoly 25 = .ok (.istore_n 2, 1) := by decide +kernel
theorem dX3_hashesPoly_26 : decode cX3_hashesPoly 26 = .ok (.iload_n 2, 1) := by decide +kernel
theorem dX3_hashesPoly_27 : decode cX3_hashesPoly 27 = .ok (.bipush 9, 2) := by decide +kernel
theorem dX3_hashesPoly_29 : decode cX3_hashesPoly 29 = .ok (.if_icmp .ge 20, 3) := by decide +kernel
theorem dX3_hashesPoly_32 : decode cX3_hashesPoly 32 = .ok (.aload_n 0, 1) := by decide +kernel
theorem dX3_hashesPoly_33 : decode cX3_hashesPoly 33 = .ok (.aload_n 0, 1) := by decide +kernel
theorem dX3_hashesPoly_34 : decode cX3_hashesPoly 34 = .ok (.iload_n 1, 1) := by decide +kernel
theorem dX3_hashesPoly_35 : decode cX3_hashesPoly 35 = .ok (.iload_n 2, 1) := by decide +kernel
theorem dX3_hashesPoly_36 : decode cX3_hashesPoly 36 = .ok (.invokevirtual 44, 3) := by decide +kernel
theorem dX3_hashesPoly_39 : decode cX3_hashesPoly 39 = .ok (.i2l, 1) := by decide +kernel
theorem dX3_hashesPoly_40 : decode cX3_hashesPoly 40 = .ok (.invokevirtual 161, 3) := by decide +kernel
theorem dX3_hashesPoly_43 : decode cX3_hashesPoly 43 = .ok (.iinc 2 1, 3) := by decide +kernel
theorem dX3_hashesPoly_46 : decode cX3_hashesPoly 46 = .ok (.goto (-20), 3) := by decide +kernel
theorem dX3_hashesPoly_49 : decode cX3_hashesPoly 49 = .ok (.iconst (-1), 1) := by decide +kernel
theorem dX3_hashesPoly_50 : decode cX3_hashesPoly 50 = .ok (.istore_n 2, 1) := by decide +kernel
theorem dX3_hashesPoly_51 : decode cX3_hashesPoly 51 = .ok (.iload_n 2, 1) := by decide +kernel
theorem dX3_hashesPoly_52 : decode cX3_hashesPoly 52 = .ok (.iconst 2, 1) := by decide +kernel
theorem dX3_hashesPoly_53 : decode cX3_hashesPoly 53 = .ok (.if_icmp .ge 84, 3) := by decide +kernel
theorem dX3_hashesPoly_56 : decode cX3_hashesPoly 56 = .ok (.aload_n 0, 1) := by decide +kernel
theorem dX3_hashesPoly_57 : decode cX3_hashesPoly 57 = .ok (.aload_n 0, 1) := by decide +kernel
theorem dX3_hashesPoly_58 : decode cX3_hashesPoly 58 = .ok (.iload_n 1, 1) := by decide +kernel
theorem dX3_hashesPoly_59 : decode cX3_hashesPoly 59 = .ok (.iload_n 2, 1) := by decide +kernel
theorem dX3_hashesPoly_60 : decode cX3_hashesPoly 60 = .ok (.invokevirtual 117, 3) := by decide +kernel
theorem dX3_hashesPoly_63 : decode cX3_hashesPoly 63 = .ok (.ifCond .eq 7, 3) := by decide +kernel
theorem dX3_hashesPoly_66 : decode cX3_hashesPoly 66 = .ok (.lconst 1, 1) := by decide +kernel
theorem dX3_hashesPoly_67 : decode cX3_hashesPoly 67 = .ok (.goto 4, 3) := by decide +kernel
theorem dX3_hashesPoly_70 : decode cX3_hashesPoly 70 = .ok (.lconst 0, 1) := by decide +kernel
theorem dX3_hashesPoly_71 : decode cX3_hashesPoly 71 = .ok (.invokevirtual 161, 3) := by decide +kernel
theorem dX3_hashesPoly_74 : decode cX3_hashesPoly 74 = .ok (.aload_n 0, 1) := by decide +kernel
theorem dX3_hashesPoly_75 : decode cX3_hashesPoly 75 = .ok (.aload_n 0, 1) := by decide +kernel
theorem dX3_hashesPoly_76 : decode cX3_hashesPoly 76 = .ok (.iload_n 1, 1) := by decide +kernel
theorem dX3_hashesPoly_77 : decode cX3_hashesPoly 77 = .ok (.iload_n 2, 1) := by decide +kernel
theorem dX3_hashesPoly_78 : decode cX3_hashesPoly 78 = .ok (.invokevirtual 107, 3) := by decide +kernel
theorem dX3_hashesPoly_81 : decode cX3_hashesPoly 81 = .ok (.i2l, 1) := by decide +kernel
theorem dX3_hashesPoly_82 : decode cX3_hashesPoly 82 = .ok (.invokevirtual 161, 3) := by decide +kernel
theorem dX3_hashesPoly_85 : decode cX3_hashesPoly 85 = .ok (.aload_n 0, 1) := by decide +kernel
theorem dX3_hashesPoly_86 : decode cX3_hashesPoly 86 = .ok (.aload_n 0, 1) := by decide +kernel
theorem dX3_hashesPoly_87 : decode cX3_hashesPoly 87 = .ok (.iload_n 1, 1) := by decide +kernel
theorem dX3_hashesPoly_88 : decode cX3_hashesPoly 88 = .ok (.iload_n 2, 1) := by decide +kernel
theorem dX3_hashesPoly_89 : decode cX3_hashesPoly 89 = .ok (.invokevirtual 107, 3) := by decide +kernel
theorem dX3_hashesPoly_92 : decode cX3_hashesPoly 92 = .ok (.i2l, 1) := by decide +kernel
theorem dX3_hashesPoly_93 : decode cX3_hashesPoly 93 = .ok (.invokevirtual 161, 3) := by decide +kernel
theorem dX3_hashesPoly_96 : decode cX3_hashesPoly 96 = .ok (.aload_n 0, 1) := by decide +kernel
theorem dX3_hashesPoly_97 : decode cX3_hashesPoly 97 = .ok (.iload_n 1, 1) := by decide +kernel
theorem dX3_hashesPoly_98 : decode cX3_hashesPoly 98 = .ok (.iload_n 2, 1) := by decide +kernel
theorem dX3_hashesPoly_99 : decode cX3_hashesPoly 99 = .ok (.invokevirtual 91, 3) := by decide +kernel
theorem dX3_hashesPoly_102 : decode cX3_hashesPoly 102 = .ok (.istore_n 3, 1) := by decide +kernel
theorem dX3_hashesPoly_103 : decode cX3_hashesPoly 103 = .ok (.aload_n 0, 1) := by decide +kernel
theorem dX3_hashesPoly_104 : decode cX3_hashesPoly 104 = .ok (.iload_n 3, 1) := by decide +kernel
theorem dX3_hashesPoly_105 : decode cX3_hashesPoly 105 = .ok (.i2l, 1) := by decide +kernel
theorem dX3_hashesPoly_106 : decode cX3_hashesPoly 106 = .ok (.invokevirtual 161, 3) := by decide +kernel
theorem dX3_hashesPoly_109 : decode cX3_hashesPoly 109 = .ok (.aload_n 0, 1) := by decide +kernel
theorem dX3_hashesPoly_110 : decode cX3_hashesPoly 110 = .ok (.iload_n 3, 1) := by decide +kernel
theorem dX3_hashesPoly_111 : decode cX3_hashesPoly 111 = .ok (.ifCond .ne 9, 3) := by decide +kernel
theorem dX3_hashesPoly_114 : decode cX3_hashesPoly 114 = .ok (.ldc2_w 165, 3) := by decide +kernel
theorem dX3_hashesPoly_117 : decode cX3_hashesPoly 117 = .ok (.goto 11, 3) := by decide +kernel
theorem dX3_hashesPoly_120 : decode cX3_hashesPoly 120 = .ok (.aload_n 0, 1) := by decide +kernel
theorem dX3_hashesPoly_121 : decode cX3_hashesPoly 121 = .ok (.getfield 29, 3) := by decide +kernel
theorem dX3_hashesPoly_124 : decode cX3_hashesPoly 124 = .ok (.invokestatic 110, 3) := by decide +kernel
theorem dX3_hashesPoly_127 : decode cX3_hashesPoly 127 = .ok (.i2l, 1) := by decide +kernel
theorem dX3_hashesPoly_128 : decode cX3_hashesPoly 128 = .ok (.invokevirtual 161, 3) := by decide +kernel
theorem dX3_hashesPoly_131 : decode cX3_hashesPoly 131 = .ok (.iinc 2 1, 3) := by decide +kernel
theorem dX3_hashesPoly_134 : decode cX3_hashesPoly 134 = .ok (.goto (-83), 3) := by decide +kernel
theorem dX3_hashesPoly_137 : decode cX3_hashesPoly 137 = .ok (.aload_n 0, 1) := by decide +kernel
theorem dX3_hashesPoly_138 : decode cX3_hashesPoly 138 = .ok (.aload_n 0, 1) := by decide +kernel
theorem dX3_hashesPoly_139 : decode cX3_hashesPoly 139 = .ok (.iload_n 1, 1) := by decide +kernel
theorem dX3_hashesPoly_140 : decode cX3_hashesPoly 140 = .ok (.invokevirtual 151, 3) := by decide +kernel
theorem dX3_hashesPoly_143 : decode cX3_hashesPoly 143 = .ok (.invokestatic 167, 3) := by decide +kernel
theorem dX3_hashesPoly_146 : decode cX3_hashesPoly 146 = .ok (.invokevirtual 161, 3) := by decide +kernel
theorem dX3_hashesPoly_149 : decode cX3_hashesPoly 149 = .ok (.return_, 1) := by decide +kernel
theorem dX3_digest_0 : decode cX3_digest 0 = .ok (.aload_n 0, 1) := by decide +kernel
theorem dX3_digest_1 : decode cX3_digest 1 = .ok (.iconst 0, 1) := by decide +kernel
theorem dX3_digest_2 : decode cX3_digest 2 = .ok (.putfield 36, 3) := by decide +kernel
theorem dX3_digest_5 : decode cX3_digest 5 = .ok (.aload_n 0, 1) := by decide +kernel
theorem dX3_digest_6 : decode cX3_digest 6 = .ok (.ldc2_w 173, 3) := by decide +kernel
theorem dX3_digest_9 : decode cX3_digest 9 = .ok (.putfield 157, 3) := by decide +kernel
theorem dX3_digest_12 : decode cX3_digest 12 = .ok (.iconst 0, 1) := by decide +kernel
theorem dX3_digest_13 : decode cX3_digest 13 = .ok (.istore_n 1, 1) := by decide +kernel
theorem dX3_digest_14 : decode cX3_digest 14 = .ok (.iload_n 1, 1) := by decide +kernel
theorem dX3_digest_15 : decode cX3_digest 15 = .ok (.bipush 8, 2) := by decide +kernel
theorem dX3_digest_17 : decode cX3_digest 17 = .ok (.if_icmp .ge 19, 3) := by decide +kernel
theorem dX3_digest_20 : decode cX3_digest 20 = .ok (.aload_n 0, 1) := by decide +kernel
theorem dX3_digest_21 : decode cX3_digest 21 = .ok (.aload_n 0, 1) := by decide +kernel
theorem dX3_digest_22 : decode cX3_digest 22 = .ok (.iload_n 1, 1) := by decide +kernel
theorem dX3_digest_23 : decode cX3_digest 23 = .ok (.invokevirtual 148, 3) := by decide +kernel
theorem dX3_digest_26 : decode cX3_digest 26 = .ok (.i2l, 1) := by decide +kernel
theorem dX3_digest_27 : decode cX3_digest 27 = .ok (.invokevirtual 161, 3) := by decide +kernel
theorem dX3_digest_30 : decode cX3_digest 30 = .ok (.iinc 1 1, 3) := by decide +kernel
theorem dX3_digest_33 : decode cX3_digest 33 = .ok (.goto (-19), 3) := by decide +kernel
theorem dX3_digest_36 : decode cX3_digest 36 = .ok (.iconst 0, 1) := by decide +kernel
theorem dX3_digest_37 : decode cX3_digest 37 = .ok (.istore_n 1, 1) := by decide +kernel
theorem dX3_digest_38 : decode cX3_digest 38 = .ok (.iload_n 1, 1) := by decide +kernel
theorem dX3_digest_39 : decode cX3_digest 39 = .ok (.iconst 5, 1) := by decide +kernel
theorem dX3_digest_40 : decode cX3_digest 40 = .ok (.if_icmp .ge 14, 3) := by decide +kernel
theorem dX3_digest_43 : decode cX3_digest 43 = .ok (.aload_n 0, 1) := by decide +kernel
theorem dX3_digest_44 : decode cX3_digest 44 = .ok (.iload_n 1, 1) := by decide +kernel
theorem dX3_digest_45 : decode cX3_digest 45 = .ok (.invokevirtual 175, 3) := by decide +kernel
theorem dX3_digest_48 : decode cX3_digest 48 = .ok (.iinc 1 1, 3) := by decide +kernel
theorem dX3_digest_51 : decode cX3_digest 51 = .ok (.goto (-13), 3) := by decide +kernel
theorem dX3_digest_54 : decode cX3_digest 54 = .ok (.iconst 0, 1) := by decide +kernel
theorem dX3_digest_55 : decode cX3_digest 55 = .ok (.istore_n 1, 1) := by decide +kernel
theorem dX3_digest_56 : decode cX3_digest 56 = .ok (.iload_n 1, 1) := by decide +kernel
theorem dX3_digest_57 : decode cX3_digest 57 = .ok (.bipush 25, 2) := by decide +kernel
theorem dX3_digest_59 : decode cX3_digest 59 = .ok (.if_icmp .ge 41, 3) := by decide +kernel
theorem dX3_digest_62 : decode cX3_digest 62 = .ok (.aload_n 0, 1) := by decide +kernel
theorem dX3_digest_63 : decode cX3_digest 63 = .ok (.aload_n 0, 1) := by decide +kernel
theorem dX3_digest_64 : decode cX3_digest 64 = .ok (.iload_n 1, 1) := by decide +kernel
theorem dX3_digest_65 : decode cX3_digest 65 = .ok (.iconst 5, 1) := by decide +kernel
theorem dX3_digest_66 : decode cX3_digest 66 = .ok (.idiv, 1) := by decide +kernel
theorem dX3_digest_67 : decode cX3_digest 67 = .ok (.iload_n 1, 1) := by decide +kernel
theorem dX3_digest_68 : decode cX3_digest 68 = .ok (.iconst 5, 1) := by decide +kernel
theorem dX3_digest_69 : decode cX3_digest 69 = .ok (.irem, 1) := by decide +kernel
theorem dX3_digest_70 : decode cX3_digest 70 = .ok (.iconst 0, 1) := by decide +kernel
theorem dX3_digest_71 : decode cX3_digest 71 = .ok (.invokevirtual 134, 3) := by decide +kernel
theorem dX3_digest_74 : decode cX3_digest 74 = .ok (.i2l, 1) := by decide +kernel
theorem dX3_digest_75 : decode cX3_digest 75 = .ok (.invokevirtual 161, 3) := by decide +kernel
theorem dX3_digest_78 : decode cX3_digest 78 = .ok (.aload_n 0, 1) := by decide +kernel
theorem dX3_digest_79 : decode cX3_digest 79 = .ok (.aload_n 0, 1) := by decide +kernel
theorem dX3_digest_80 : decode cX3_digest 80 = .ok (.iload_n 1, 1) := by decide +kernel
theorem dX3_digest_81 : decode cX3_digest 81 = .ok (.iconst 5, 1) := by decide +kernel
theorem dX3_digest_82 : decode cX3_digest 82 = .ok (.idiv, 1) := by decide +kernel
theorem dX3_digest_83 : decode cX3_digest 83 = .ok (.iload_n 1, 1) := by decide +kernel
theorem dX3_digest_84 : decode cX3_digest 84 = .ok (.iconst 5, 1) := by decide +kernel
theorem dX3_digest_85 : decode cX3_digest 85 = .ok (.irem, 1) := by decide +kernel
theorem dX3_digest_86 : decode cX3_digest 86 = .ok (.iconst 1, 1) := by decide +kernel
theorem dX3_digest_87 : decode cX3_digest 87 = .ok (.invokevirtual 134, 3) := by decide +kernel
theorem dX3_digest_90 : decode cX3_digest 90 = .ok (.i2l, 1) := by decide +kernel
theorem dX3_digest_91 : decode cX3_digest 91 = .ok (.invokevirtual 161, 3) := by decide +kernel
theorem dX3_digest_94 : decode cX3_digest 94 = .ok (.iinc 1 1, 3) := by decide +kernel
theorem dX3_digest_97 : decode cX3_digest 97 = .ok (.goto (-41), 3) := by decide +kernel
theorem dX3_digest_100 : decode cX3_digest 100 = .ok (.aload_n 0, 1) := by decide +kernel
theorem dX3_digest_101 : decode cX3_digest 101 = .ok (.invokevirtual 94, 3) := by decide +kernel
theorem dX3_digest_104 : decode cX3_digest 104 = .ok (.iconst 0, 1) := by decide +kernel
theorem dX3_digest_105 : decode cX3_digest 105 = .ok (.istore_n 1, 1) := by decide +kernel
theorem dX3_digest_106 : decode cX3_digest 106 = .ok (.iload_n 1, 1) := by decide +kernel
theorem dX3_digest_107 : decode cX3_digest 107 = .ok (.bipush 9, 2) := by decide +kernel
theorem dX3_digest_109 : decode cX3_digest 109 = .ok (.if_icmp .ge 19, 3) := by decide +kernel
theorem dX3_digest_112 : decode cX3_digest 112 = .ok (.aload_n 0, 1) := by decide +kernel
theorem dX3_digest_113 : decode cX3_digest 113 = .ok (.aload_n 0, 1) := by decide +kernel
theorem dX3_digest_114 : decode cX3_digest 114 = .ok (.getfield 32, 3) := by decide +kernel
theorem dX3_digest_117 : decode cX3_digest 117 = .ok (.iload_n 1, 1) := by decide +kernel
theorem dX3_digest_118 : decode cX3_digest 118 = .ok (.laload, 1) := by decide +kernel
theorem dX3_digest_119 : decode cX3_digest 119 = .ok (.invokevirtual 161, 3) := by decide +kernel
theorem dX3_digest_122 : decode cX3_digest 122 = .ok (.iinc 1 1, 3) := by decide +kernel
theorem dX3_digest_125 : decode cX3_digest 125 = .ok (.goto (-19), 3) := by decide +kernel
theorem dX3_digest_128 : decode cX3_digest 128 = .ok (.iconst 0, 1) := by decide +kernel
theorem dX3_digest_129 : decode cX3_digest 129 = .ok (.istore_n 1, 1) := by decide +kernel
theorem dX3_digest_130 : decode cX3_digest 130 = .ok (.iload_n 1, 1) := by decide +kernel
theorem dX3_digest_131 : decode cX3_digest 131 = .ok (.aload_n 0, 1) := by decide +kernel
theorem dX3_digest_132 : decode cX3_digest 132 = .ok (.getfield 7, 3) := by decide +kernel
theorem dX3_digest_135 : decode cX3_digest 135 = .ok (.bipush 45, 2) := by decide +kernel
theorem dX3_digest_137 : decode cX3_digest 137 = .ok (.iaload, 1) := by decide +kernel
theorem dX3_digest_138 : decode cX3_digest 138 = .ok (.if_icmp .ge 23, 3) := by decide +kernel
theorem dX3_digest_141 : decode cX3_digest 141 = .ok (.aload_n 0, 1) := by decide +kernel
theorem dX3_digest_142 : decode cX3_digest 142 = .ok (.aload_n 0, 1) := by decide +kernel
theorem dX3_digest_143 : decode cX3_digest 143 = .ok (.getfield 7, 3) := by decide +kernel
theorem dX3_digest_146 : decode cX3_digest 146 = .ok (.bipush 46, 2) := by decide +kernel
theorem dX3_digest_148 : decode cX3_digest 148 = .ok (.iload_n 1, 1) := by decide +kernel
theorem dX3_digest_149 : decode cX3_digest 149 = .ok (.iadd, 1) := by decide +kernel
theorem dX3_digest_150 : decode cX3_digest 150 = .ok (.iaload, 1) := by decide +kernel
theorem dX3_digest_151 : decode cX3_digest 151 = .ok (.i2l, 1) := by decide +kernel
theorem dX3_digest_152 : decode cX3_digest 152 = .ok (.invokevirtual 161, 3) := by decide +kernel
theorem dX3_digest_155 : decode cX3_digest 155 = .ok (.iinc 1 1, 3) := by decide +kernel
theorem dX3_digest_158 : decode cX3_digest 158 = .ok (.goto (-28), 3) := by decide +kernel
theorem dX3_digest_161 : decode cX3_digest 161 = .ok (.aload_n 0, 1) := by decide +kernel
theorem dX3_digest_162 : decode cX3_digest 162 = .ok (.aload_n 0, 1) := by decide +kernel
theorem dX3_digest_163 : decode cX3_digest 163 = .ok (.getfield 19, 3) := by decide +kernel
theorem dX3_digest_166 : decode cX3_digest 166 = .ok (.iconst 0, 1) := by decide +kernel
theorem dX3_digest_167 : decode cX3_digest 167 = .ok (.baload, 1) := by decide +kernel
theorem dX3_digest_168 : decode cX3_digest 168 = .ok (.ifCond .eq 7, 3) := by decide +kernel
theorem dX3_digest_171 : decode cX3_digest 171 = .ok (.lconst 1, 1) := by decide +kernel
theorem dX3_digest_172 : decode cX3_digest 172 = .ok (.goto 4, 3) := by decide +kernel
theorem dX3_digest_175 : decode cX3_digest 175 = .ok (.lconst 0, 1) := by decide +kernel
theorem dX3_digest_176 : decode cX3_digest 176 = .ok (.invokevirtual 161, 3) := by decide +kernel
theorem dX3_digest_179 : decode cX3_digest 179 = .ok (.aload_n 0, 1) := by decide +kernel
theorem dX3_digest_180 : decode cX3_digest 180 = .ok (.aload_n 0, 1) := by decide +kernel
theorem dX3_digest_181 : decode cX3_digest 181 = .ok (.getfield 19, 3) := by decide +kernel
theorem dX3_digest_184 : decode cX3_digest 184 = .ok (.iconst 1, 1) := by decide +kernel
theorem dX3_digest_185 : decode cX3_digest 185 = .ok (.baload, 1) := by decide +kernel
theorem dX3_digest_186 : decode cX3_digest 186 = .ok (.ifCond .eq 7, 3) := by decide +kernel
theorem dX3_digest_189 : decode cX3_digest 189 = .ok (.lconst 1, 1) := by decide +kernel
theorem dX3_digest_190 : decode cX3_digest 190 = .ok (.goto 4, 3) := by decide +kernel
theorem dX3_digest_193 : decode cX3_digest 193 = .ok (.lconst 0, 1) := by decide +kernel
theorem dX3_digest_194 : decode cX3_digest 194 = .ok (.invokevirtual 161, 3) := by decide +kernel
theorem dX3_digest_197 : decode cX3_digest 197 = .ok (.aload_n 0, 1) := by decide +kernel
theorem dX3_digest_198 : decode cX3_digest 198 = .ok (.aload_n 0, 1) := by decide +kernel
theorem dX3_digest_199 : decode cX3_digest 199 = .ok (.getfield 97, 3) := by decide +kernel
theorem dX3_digest_202 : decode cX3_digest 202 = .ok (.i2l, 1) := by decide +kernel
theorem dX3_digest_203 : decode cX3_digest 203 = .ok (.invokevirtual 161, 3) := by decide +kernel
theorem dX3_digest_206 : decode cX3_digest 206 = .ok (.iconst 0, 1) := by decide +kernel
theorem dX3_digest_207 : decode cX3_digest 207 = .ok (.istore_n 1, 1) := by decide +kernel
theorem dX3_digest_208 : decode cX3_digest 208 = .ok (.iload_n 1, 1) := by decide +kernel
theorem dX3_digest_209 : decode cX3_digest 209 = .ok (.aload_n 0, 1) := by decide +kernel
theorem dX3_digest_210 : decode cX3_digest 210 = .ok (.getfield 97, 3) := by decide +kernel
theorem dX3_digest_213 : decode cX3_digest 213 = .ok (.if_icmp .ge 20, 3) := by decide +kernel
theorem dX3_digest_216 : decode cX3_digest 216 = .ok (.aload_n 0, 1) := by decide +kernel
theorem dX3_digest_217 : decode cX3_digest 217 = .ok (.aload_n 0, 1) := by decide +kernel
theorem dX3_digest_218 : decode cX3_digest 218 = .ok (.getfield 23, 3) := by decide +kernel
theorem dX3_digest_221 : decode cX3_digest 221 = .ok (.iload_n 1, 1) := by decide +kernel
theorem dX3_digest_222 : decode cX3_digest 222 = .ok (.iaload, 1) := by decide +kernel
theorem dX3_digest_223 : decode cX3_digest 223 = .ok (.i2l, 1) := by decide +kernel
theorem dX3_digest_224 : decode cX3_digest 224 = .ok (.invokevirtual 161, 3) := by decide +kernel
theorem dX3_digest_227 : decode cX3_digest 227 = .ok (.iinc 1 1, 3) := by decide +kernel
theorem dX3_digest_230 : decode cX3_digest 230 = .ok (.goto (-22), 3) := by decide +kernel
theorem dX3_digest_233 : decode cX3_digest 233 = .ok (.aload_n 0, 1) := by decide +kernel
theorem dX3_digest_234 : decode cX3_digest 234 = .ok (.getfield 157, 3) := by decide +kernel
theorem dX3_digest_237 : decode cX3_digest 237 = .ok (.lreturn, 1) := by decide +kernel
