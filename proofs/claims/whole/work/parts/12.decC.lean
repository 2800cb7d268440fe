/-! ===== what the bytes are ===== -/
theorem d_Sp_init_0 : decode (am_c m_Sp_init) 0 = .ok (.aload_n 0, 1) := by decide +kernel
theorem d_Sp_init_1 : decode (am_c m_Sp_init) 1 = .ok (.invokespecial 1, 3) := by decide +kernel
theorem d_Sp_init_4 : decode (am_c m_Sp_init) 4 = .ok (.new 7, 3) := by decide +kernel
theorem d_Sp_init_7 : decode (am_c m_Sp_init) 7 = .ok (.dup, 1) := by decide +kernel
theorem d_Sp_init_8 : decode (am_c m_Sp_init) 8 = .ok (.invokespecial 9, 3) := by decide +kernel
theorem d_Sp_init_11 : decode (am_c m_Sp_init) 11 = .ok (.astore_n 1, 1) := by decide +kernel
theorem d_Sp_init_12 : decode (am_c m_Sp_init) 12 = .ok (.aload_n 1, 1) := by decide +kernel
theorem d_Sp_init_13 : decode (am_c m_Sp_init) 13 = .ok (.iconst 4, 1) := by decide +kernel
theorem d_Sp_init_14 : decode (am_c m_Sp_init) 14 = .ok (.iconst 3, 1) := by decide +kernel
theorem d_Sp_init_15 : decode (am_c m_Sp_init) 15 = .ok (.invokevirtual 10, 3) := by decide +kernel
theorem d_Sp_init_18 : decode (am_c m_Sp_init) 18 = .ok (.new 14, 3) := by decide +kernel
theorem d_Sp_init_21 : decode (am_c m_Sp_init) 21 = .ok (.dup, 1) := by decide +kernel
theorem d_Sp_init_22 : decode (am_c m_Sp_init) 22 = .ok (.invokespecial 16, 3) := by decide +kernel
theorem d_Sp_init_25 : decode (am_c m_Sp_init) 25 = .ok (.astore_n 2, 1) := by decide +kernel
theorem d_Sp_init_26 : decode (am_c m_Sp_init) 26 = .ok (.new 17, 3) := by decide +kernel
theorem d_Sp_init_29 : decode (am_c m_Sp_init) 29 = .ok (.dup, 1) := by decide +kernel
theorem d_Sp_init_30 : decode (am_c m_Sp_init) 30 = .ok (.aload_n 1, 1) := by decide +kernel
theorem d_Sp_init_31 : decode (am_c m_Sp_init) 31 = .ok (.aload_n 2, 1) := by decide +kernel
theorem d_Sp_init_32 : decode (am_c m_Sp_init) 32 = .ok (.invokespecial 19, 3) := by decide +kernel
theorem d_Sp_init_35 : decode (am_c m_Sp_init) 35 = .ok (.astore_n 3, 1) := by decide +kernel
theorem d_Sp_init_36 : decode (am_c m_Sp_init) 36 = .ok (.aload_n 0, 1) := by decide +kernel
theorem d_Sp_init_37 : decode (am_c m_Sp_init) 37 = .ok (.aload_n 1, 1) := by decide +kernel
theorem d_Sp_init_38 : decode (am_c m_Sp_init) 38 = .ok (.putfield 22, 3) := by decide +kernel
theorem d_Sp_init_41 : decode (am_c m_Sp_init) 41 = .ok (.aload_n 0, 1) := by decide +kernel
theorem d_Sp_init_42 : decode (am_c m_Sp_init) 42 = .ok (.aload_n 2, 1) := by decide +kernel
theorem d_Sp_init_43 : decode (am_c m_Sp_init) 43 = .ok (.putfield 28, 3) := by decide +kernel
theorem d_Sp_init_46 : decode (am_c m_Sp_init) 46 = .ok (.aload_n 0, 1) := by decide +kernel
theorem d_Sp_init_47 : decode (am_c m_Sp_init) 47 = .ok (.aload_n 3, 1) := by decide +kernel
theorem d_Sp_init_48 : decode (am_c m_Sp_init) 48 = .ok (.putfield 32, 3) := by decide +kernel
theorem d_Sp_init_51 : decode (am_c m_Sp_init) 51 = .ok (.aload_n 0, 1) := by decide +kernel
theorem d_Sp_init_52 : decode (am_c m_Sp_init) 52 = .ok (.new 36, 3) := by decide +kernel
theorem d_Sp_init_55 : decode (am_c m_Sp_init) 55 = .ok (.dup, 1) := by decide +kernel
theorem d_Sp_init_56 : decode (am_c m_Sp_init) 56 = .ok (.aload_n 1, 1) := by decide +kernel
theorem d_Sp_init_57 : decode (am_c m_Sp_init) 57 = .ok (.aload_n 2, 1) := by decide +kernel
theorem d_Sp_init_58 : decode (am_c m_Sp_init) 58 = .ok (.invokespecial 38, 3) := by decide +kernel
theorem d_Sp_init_61 : decode (am_c m_Sp_init) 61 = .ok (.putfield 39, 3) := by decide +kernel
theorem d_Sp_init_64 : decode (am_c m_Sp_init) 64 = .ok (.aload_n 0, 1) := by decide +kernel
theorem d_Sp_init_65 : decode (am_c m_Sp_init) 65 = .ok (.new 43, 3) := by decide +kernel
theorem d_Sp_init_68 : decode (am_c m_Sp_init) 68 = .ok (.dup, 1) := by decide +kernel
theorem d_Sp_init_69 : decode (am_c m_Sp_init) 69 = .ok (.aload_n 3, 1) := by decide +kernel
theorem d_Sp_init_70 : decode (am_c m_Sp_init) 70 = .ok (.aload_n 2, 1) := by decide +kernel
theorem d_Sp_init_71 : decode (am_c m_Sp_init) 71 = .ok (.invokespecial 45, 3) := by decide +kernel
theorem d_Sp_init_74 : decode (am_c m_Sp_init) 74 = .ok (.putfield 48, 3) := by decide +kernel
theorem d_Sp_init_77 : decode (am_c m_Sp_init) 77 = .ok (.aload_n 0, 1) := by decide +kernel
theorem d_Sp_init_78 : decode (am_c m_Sp_init) 78 = .ok (.new 52, 3) := by decide +kernel
theorem d_Sp_init_81 : decode (am_c m_Sp_init) 81 = .ok (.dup, 1) := by decide +kernel
theorem d_Sp_init_82 : decode (am_c m_Sp_init) 82 = .ok (.aload_n 1, 1) := by decide +kernel
theorem d_Sp_init_83 : decode (am_c m_Sp_init) 83 = .ok (.aload_n 2, 1) := by decide +kernel
theorem d_Sp_init_84 : decode (am_c m_Sp_init) 84 = .ok (.aload_n 3, 1) := by decide +kernel
theorem d_Sp_init_85 : decode (am_c m_Sp_init) 85 = .ok (.invokespecial 54, 3) := by decide +kernel
theorem d_Sp_init_88 : decode (am_c m_Sp_init) 88 = .ok (.putfield 57, 3) := by decide +kernel
theorem d_Sp_init_91 : decode (am_c m_Sp_init) 91 = .ok (.aload_n 0, 1) := by decide +kernel
theorem d_Sp_init_92 : decode (am_c m_Sp_init) 92 = .ok (.new 61, 3) := by decide +kernel
theorem d_Sp_init_95 : decode (am_c m_Sp_init) 95 = .ok (.dup, 1) := by decide +kernel
theorem d_Sp_init_96 : decode (am_c m_Sp_init) 96 = .ok (.aload_n 1, 1) := by decide +kernel
theorem d_Sp_init_97 : decode (am_c m_Sp_init) 97 = .ok (.aload_n 2, 1) := by decide +kernel
theorem d_Sp_init_98 : decode (am_c m_Sp_init) 98 = .ok (.invokespecial 63, 3) := by decide +kernel
theorem d_Sp_init_101 : decode (am_c m_Sp_init) 101 = .ok (.putfield 64, 3) := by decide +kernel
theorem d_Sp_init_104 : decode (am_c m_Sp_init) 104 = .ok (.aload_n 0, 1) := by decide +kernel
theorem d_Sp_init_105 : decode (am_c m_Sp_init) 105 = .ok (.new 68, 3) := by decide +kernel
theorem d_Sp_init_108 : decode (am_c m_Sp_init) 108 = .ok (.dup, 1) := by decide +kernel
theorem d_Sp_init_109 : decode (am_c m_Sp_init) 109 = .ok (.aload_n 1, 1) := by decide +kernel
theorem d_Sp_init_110 : decode (am_c m_Sp_init) 110 = .ok (.aload_n 2, 1) := by decide +kernel
theorem d_Sp_init_111 : decode (am_c m_Sp_init) 111 = .ok (.invokespecial 70, 3) := by decide +kernel
theorem d_Sp_init_114 : decode (am_c m_Sp_init) 114 = .ok (.putfield 71, 3) := by decide +kernel
theorem d_Sp_init_117 : decode (am_c m_Sp_init) 117 = .ok (.aload_n 0, 1) := by decide +kernel
theorem d_Sp_init_118 : decode (am_c m_Sp_init) 118 = .ok (.new 75, 3) := by decide +kernel
theorem d_Sp_init_121 : decode (am_c m_Sp_init) 121 = .ok (.dup, 1) := by decide +kernel
theorem d_Sp_init_122 : decode (am_c m_Sp_init) 122 = .ok (.aload_n 1, 1) := by decide +kernel
theorem d_Sp_init_123 : decode (am_c m_Sp_init) 123 = .ok (.aload_n 2, 1) := by decide +kernel
theorem d_Sp_init_124 : decode (am_c m_Sp_init) 124 = .ok (.invokespecial 77, 3) := by decide +kernel
theorem d_Sp_init_127 : decode (am_c m_Sp_init) 127 = .ok (.putfield 78, 3) := by decide +kernel
theorem d_Sp_init_130 : decode (am_c m_Sp_init) 130 = .ok (.return_, 1) := by decide +kernel
theorem d_Sp_ground_0 : decode (am_c m_Sp_ground) 0 = .ok (.iload_n 1, 1) := by decide +kernel
theorem d_Sp_ground_1 : decode (am_c m_Sp_ground) 1 = .ok (.iconst 2, 1) := by decide +kernel
theorem d_Sp_ground_2 : decode (am_c m_Sp_ground) 2 = .ok (.iconst 4, 1) := by decide +kernel
theorem d_Sp_ground_3 : decode (am_c m_Sp_ground) 3 = .ok (.invokestatic 82, 3) := by decide +kernel
theorem d_Sp_ground_6 : decode (am_c m_Sp_ground) 6 = .ok (.ifCond .eq 12, 3) := by decide +kernel
theorem d_Sp_ground_9 : decode (am_c m_Sp_ground) 9 = .ok (.iload_n 2, 1) := by decide +kernel
theorem d_Sp_ground_10 : decode (am_c m_Sp_ground) 10 = .ok (.iconst 2, 1) := by decide +kernel
theorem d_Sp_ground_11 : decode (am_c m_Sp_ground) 11 = .ok (.iconst 4, 1) := by decide +kernel
theorem d_Sp_ground_12 : decode (am_c m_Sp_ground) 12 = .ok (.invokestatic 82, 3) := by decide +kernel
theorem d_Sp_ground_15 : decode (am_c m_Sp_ground) 15 = .ok (.ifCond .ne 6, 3) := by decide +kernel
theorem d_Sp_ground_18 : decode (am_c m_Sp_ground) 18 = .ok (.bipush (-3), 2) := by decide +kernel
theorem d_Sp_ground_20 : decode (am_c m_Sp_ground) 20 = .ok (.ireturn, 1) := by decide +kernel
theorem d_Sp_ground_21 : decode (am_c m_Sp_ground) 21 = .ok (.aload_n 0, 1) := by decide +kernel
theorem d_Sp_ground_22 : decode (am_c m_Sp_ground) 22 = .ok (.getfield 22, 3) := by decide +kernel
theorem d_Sp_ground_25 : decode (am_c m_Sp_ground) 25 = .ok (.iload_n 1, 1) := by decide +kernel
theorem d_Sp_ground_26 : decode (am_c m_Sp_ground) 26 = .ok (.iload_n 2, 1) := by decide +kernel
theorem d_Sp_ground_27 : decode (am_c m_Sp_ground) 27 = .ok (.invokevirtual 10, 3) := by decide +kernel
theorem d_Sp_ground_30 : decode (am_c m_Sp_ground) 30 = .ok (.aload_n 0, 1) := by decide +kernel
theorem d_Sp_ground_31 : decode (am_c m_Sp_ground) 31 = .ok (.getfield 28, 3) := by decide +kernel
theorem d_Sp_ground_34 : decode (am_c m_Sp_ground) 34 = .ok (.invokevirtual 86, 3) := by decide +kernel
theorem d_Sp_ground_37 : decode (am_c m_Sp_ground) 37 = .ok (.aload_n 0, 1) := by decide +kernel
theorem d_Sp_ground_38 : decode (am_c m_Sp_ground) 38 = .ok (.getfield 22, 3) := by decide +kernel
theorem d_Sp_ground_41 : decode (am_c m_Sp_ground) 41 = .ok (.getfield 89, 3) := by decide +kernel
theorem d_Sp_ground_44 : decode (am_c m_Sp_ground) 44 = .ok (.ireturn, 1) := by decide +kernel
theorem d_Sp_isWithin_0 : decode (am_c m_Sp_isWithin) 0 = .ok (.iload_n 0, 1) := by decide +kernel
theorem d_Sp_isWithin_1 : decode (am_c m_Sp_isWithin) 1 = .ok (.iload_n 1, 1) := by decide +kernel
theorem d_Sp_isWithin_2 : decode (am_c m_Sp_isWithin) 2 = .ok (.if_icmp .lt 12, 3) := by decide +kernel
theorem d_Sp_isWithin_5 : decode (am_c m_Sp_isWithin) 5 = .ok (.iload_n 0, 1) := by decide +kernel
theorem d_Sp_isWithin_6 : decode (am_c m_Sp_isWithin) 6 = .ok (.iload_n 2, 1) := by decide +kernel
theorem d_Sp_isWithin_7 : decode (am_c m_Sp_isWithin) 7 = .ok (.if_icmp .gt 7, 3) := by decide +kernel
theorem d_Sp_isWithin_10 : decode (am_c m_Sp_isWithin) 10 = .ok (.iconst 1, 1) := by decide +kernel
theorem d_Sp_isWithin_11 : decode (am_c m_Sp_isWithin) 11 = .ok (.goto 4, 3) := by decide +kernel
theorem d_Sp_isWithin_14 : decode (am_c m_Sp_isWithin) 14 = .ok (.iconst 0, 1) := by decide +kernel
theorem d_Sp_isWithin_15 : decode (am_c m_Sp_isWithin) 15 = .ok (.ireturn, 1) := by decide +kernel
theorem d_Sp_ratio_0 : decode (am_c m_Sp_ratio) 0 = .ok (.iload_n 1, 1) := by decide +kernel
theorem d_Sp_ratio_1 : decode (am_c m_Sp_ratio) 1 = .ok (.bipush 10, 2) := by decide +kernel
theorem d_Sp_ratio_3 : decode (am_c m_Sp_ratio) 3 = .ok (.bipush 30, 2) := by decide +kernel
theorem d_Sp_ratio_5 : decode (am_c m_Sp_ratio) 5 = .ok (.invokestatic 82, 3) := by decide +kernel
theorem d_Sp_ratio_8 : decode (am_c m_Sp_ratio) 8 = .ok (.ifCond .ne 6, 3) := by decide +kernel
theorem d_Sp_ratio_11 : decode (am_c m_Sp_ratio) 11 = .ok (.bipush (-3), 2) := by decide +kernel
theorem d_Sp_ratio_13 : decode (am_c m_Sp_ratio) 13 = .ok (.ireturn, 1) := by decide +kernel
theorem d_Sp_ratio_14 : decode (am_c m_Sp_ratio) 14 = .ok (.aload_n 0, 1) := by decide +kernel
theorem d_Sp_ratio_15 : decode (am_c m_Sp_ratio) 15 = .ok (.getfield 22, 3) := by decide +kernel
theorem d_Sp_ratio_18 : decode (am_c m_Sp_ratio) 18 = .ok (.getfield 93, 3) := by decide +kernel
theorem d_Sp_ratio_21 : decode (am_c m_Sp_ratio) 21 = .ok (.istore_n 2, 1) := by decide +kernel
theorem d_Sp_ratio_22 : decode (am_c m_Sp_ratio) 22 = .ok (.aload_n 0, 1) := by decide +kernel
theorem d_Sp_ratio_23 : decode (am_c m_Sp_ratio) 23 = .ok (.getfield 22, 3) := by decide +kernel
theorem d_Sp_ratio_26 : decode (am_c m_Sp_ratio) 26 = .ok (.iload_n 1, 1) := by decide +kernel
theorem d_Sp_ratio_27 : decode (am_c m_Sp_ratio) 27 = .ok (.putfield 93, 3) := by decide +kernel
theorem d_Sp_ratio_30 : decode (am_c m_Sp_ratio) 30 = .ok (.iload_n 2, 1) := by decide +kernel
theorem d_Sp_ratio_31 : decode (am_c m_Sp_ratio) 31 = .ok (.ireturn, 1) := by decide +kernel
theorem d_Sp_slow_0 : decode (am_c m_Sp_slow) 0 = .ok (.aload_n 0, 1) := by decide +kernel
theorem d_Sp_slow_1 : decode (am_c m_Sp_slow) 1 = .ok (.iload_n 1, 1) := by decide +kernel
theorem d_Sp_slow_2 : decode (am_c m_Sp_slow) 2 = .ok (.invokevirtual 96, 3) := by decide +kernel
theorem d_Sp_slow_5 : decode (am_c m_Sp_slow) 5 = .ok (.ifCond .ne 6, 3) := by decide +kernel
theorem d_Sp_slow_8 : decode (am_c m_Sp_slow) 8 = .ok (.bipush (-2), 2) := by decide +kernel
theorem d_Sp_slow_10 : decode (am_c m_Sp_slow) 10 = .ok (.ireturn, 1) := by decide +kernel
theorem d_Sp_slow_11 : decode (am_c m_Sp_slow) 11 = .ok (.iload_n 2, 1) := by decide +kernel
theorem d_Sp_slow_12 : decode (am_c m_Sp_slow) 12 = .ok (.iconst 1, 1) := by decide +kernel
theorem d_Sp_slow_13 : decode (am_c m_Sp_slow) 13 = .ok (.bipush 60, 2) := by decide +kernel
theorem d_Sp_slow_15 : decode (am_c m_Sp_slow) 15 = .ok (.invokestatic 82, 3) := by decide +kernel
theorem d_Sp_slow_18 : decode (am_c m_Sp_slow) 18 = .ok (.ifCond .ne 6, 3) := by decide +kernel
theorem d_Sp_slow_21 : decode (am_c m_Sp_slow) 21 = .ok (.bipush (-3), 2) := by decide +kernel
theorem d_Sp_slow_23 : decode (am_c m_Sp_slow) 23 = .ok (.ireturn, 1) := by decide +kernel
theorem d_Sp_slow_24 : decode (am_c m_Sp_slow) 24 = .ok (.aload_n 0, 1) := by decide +kernel
theorem d_Sp_slow_25 : decode (am_c m_Sp_slow) 25 = .ok (.getfield 22, 3) := by decide +kernel
theorem d_Sp_slow_28 : decode (am_c m_Sp_slow) 28 = .ok (.getfield 100, 3) := by decide +kernel
theorem d_Sp_slow_31 : decode (am_c m_Sp_slow) 31 = .ok (.iload_n 1, 1) := by decide +kernel
theorem d_Sp_slow_32 : decode (am_c m_Sp_slow) 32 = .ok (.iaload, 1) := by decide +kernel
theorem d_Sp_slow_33 : decode (am_c m_Sp_slow) 33 = .ok (.istore_n 3, 1) := by decide +kernel
theorem d_Sp_slow_34 : decode (am_c m_Sp_slow) 34 = .ok (.aload_n 0, 1) := by decide +kernel
theorem d_Sp_slow_35 : decode (am_c m_Sp_slow) 35 = .ok (.getfield 22, 3) := by decide +kernel
theorem d_Sp_slow_38 : decode (am_c m_Sp_slow) 38 = .ok (.getfield 100, 3) := by decide +kernel
theorem d_Sp_slow_41 : decode (am_c m_Sp_slow) 41 = .ok (.iload_n 1, 1) := by decide +kernel
theorem d_Sp_slow_42 : decode (am_c m_Sp_slow) 42 = .ok (.iload_n 2, 1) := by decide +kernel
theorem d_Sp_slow_43 : decode (am_c m_Sp_slow) 43 = .ok (.iastore, 1) := by decide +kernel
theorem d_Sp_slow_44 : decode (am_c m_Sp_slow) 44 = .ok (.iload_n 3, 1) := by decide +kernel
theorem d_Sp_slow_45 : decode (am_c m_Sp_slow) 45 = .ok (.ireturn, 1) := by decide +kernel
theorem d_Sp_isBlock_0 : decode (am_c m_Sp_isBlock) 0 = .ok (.iload_n 1, 1) := by decide +kernel
theorem d_Sp_isBlock_1 : decode (am_c m_Sp_isBlock) 1 = .ok (.iconst 0, 1) := by decide +kernel
theorem d_Sp_isBlock_2 : decode (am_c m_Sp_isBlock) 2 = .ok (.bipush 7, 2) := by decide +kernel
theorem d_Sp_isBlock_4 : decode (am_c m_Sp_isBlock) 4 = .ok (.invokestatic 82, 3) := by decide +kernel
theorem d_Sp_isBlock_7 : decode (am_c m_Sp_isBlock) 7 = .ok (.ireturn, 1) := by decide +kernel
theorem d_Sp_split_0 : decode (am_c m_Sp_split) 0 = .ok (.aload_n 0, 1) := by decide +kernel
theorem d_Sp_split_1 : decode (am_c m_Sp_split) 1 = .ok (.iload_n 1, 1) := by decide +kernel
theorem d_Sp_split_2 : decode (am_c m_Sp_split) 2 = .ok (.invokevirtual 96, 3) := by decide +kernel
theorem d_Sp_split_5 : decode (am_c m_Sp_split) 5 = .ok (.ifCond .ne 6, 3) := by decide +kernel
theorem d_Sp_split_8 : decode (am_c m_Sp_split) 8 = .ok (.bipush (-2), 2) := by decide +kernel
theorem d_Sp_split_10 : decode (am_c m_Sp_split) 10 = .ok (.ireturn, 1) := by decide +kernel
theorem d_Sp_split_11 : decode (am_c m_Sp_split) 11 = .ok (.iload_n 2, 1) := by decide +kernel
theorem d_Sp_split_12 : decode (am_c m_Sp_split) 12 = .ok (.aload_n 0, 1) := by decide +kernel
theorem d_Sp_split_13 : decode (am_c m_Sp_split) 13 = .ok (.getfield 22, 3) := by decide +kernel
theorem d_Sp_split_16 : decode (am_c m_Sp_split) 16 = .ok (.invokevirtual 104, 3) := by decide +kernel
theorem d_Sp_split_19 : decode (am_c m_Sp_split) 19 = .ok (.iconst (-1), 1) := by decide +kernel
theorem d_Sp_split_20 : decode (am_c m_Sp_split) 20 = .ok (.ixor, 1) := by decide +kernel
theorem d_Sp_split_21 : decode (am_c m_Sp_split) 21 = .ok (.iand, 1) := by decide +kernel
theorem d_Sp_split_22 : decode (am_c m_Sp_split) 22 = .ok (.ifCond .eq 6, 3) := by decide +kernel
theorem d_Sp_split_25 : decode (am_c m_Sp_split) 25 = .ok (.bipush (-3), 2) := by decide +kernel
theorem d_Sp_split_27 : decode (am_c m_Sp_split) 27 = .ok (.ireturn, 1) := by decide +kernel
theorem d_Sp_split_28 : decode (am_c m_Sp_split) 28 = .ok (.aload_n 0, 1) := by decide +kernel
theorem d_Sp_split_29 : decode (am_c m_Sp_split) 29 = .ok (.getfield 22, 3) := by decide +kernel
theorem d_Sp_split_32 : decode (am_c m_Sp_split) 32 = .ok (.iload_n 1, 1) := by decide +kernel
theorem d_Sp_split_33 : decode (am_c m_Sp_split) 33 = .ok (.iload_n 2, 1) := by decide +kernel
theorem d_Sp_split_34 : decode (am_c m_Sp_split) 34 = .ok (.invokevirtual 108, 3) := by decide +kernel
theorem d_Sp_split_37 : decode (am_c m_Sp_split) 37 = .ok (.ireturn, 1) := by decide +kernel
theorem d_Sp_join_0 : decode (am_c m_Sp_join) 0 = .ok (.aload_n 0, 1) := by decide +kernel
theorem d_Sp_join_1 : decode (am_c m_Sp_join) 1 = .ok (.iload_n 1, 1) := by decide +kernel
theorem d_Sp_join_2 : decode (am_c m_Sp_join) 2 = .ok (.invokevirtual 96, 3) := by decide +kernel
theorem d_Sp_join_5 : decode (am_c m_Sp_join) 5 = .ok (.ifCond .eq 11, 3) := by decide +kernel
theorem d_Sp_join_8 : decode (am_c m_Sp_join) 8 = .ok (.aload_n 0, 1) := by decide +kernel
theorem d_Sp_join_9 : decode (am_c m_Sp_join) 9 = .ok (.iload_n 2, 1) := by decide +kernel
theorem d_Sp_join_10 : decode (am_c m_Sp_join) 10 = .ok (.invokevirtual 96, 3) := by decide +kernel
theorem d_Sp_join_13 : decode (am_c m_Sp_join) 13 = .ok (.ifCond .ne 6, 3) := by decide +kernel
theorem d_Sp_join_16 : decode (am_c m_Sp_join) 16 = .ok (.bipush (-2), 2) := by decide +kernel
theorem d_Sp_join_18 : decode (am_c m_Sp_join) 18 = .ok (.ireturn, 1) := by decide +kernel
theorem d_Sp_join_19 : decode (am_c m_Sp_join) 19 = .ok (.iload_n 1, 1) := by decide +kernel
theorem d_Sp_join_20 : decode (am_c m_Sp_join) 20 = .ok (.iload_n 2, 1) := by decide +kernel
theorem d_Sp_join_21 : decode (am_c m_Sp_join) 21 = .ok (.if_icmp .ne 6, 3) := by decide +kernel
theorem d_Sp_join_24 : decode (am_c m_Sp_join) 24 = .ok (.bipush (-3), 2) := by decide +kernel
theorem d_Sp_join_26 : decode (am_c m_Sp_join) 26 = .ok (.ireturn, 1) := by decide +kernel
theorem d_Sp_join_27 : decode (am_c m_Sp_join) 27 = .ok (.aload_n 0, 1) := by decide +kernel
theorem d_Sp_join_28 : decode (am_c m_Sp_join) 28 = .ok (.getfield 22, 3) := by decide +kernel
theorem d_Sp_join_31 : decode (am_c m_Sp_join) 31 = .ok (.iload_n 2, 1) := by decide +kernel
theorem d_Sp_join_32 : decode (am_c m_Sp_join) 32 = .ok (.aload_n 0, 1) := by decide +kernel
theorem d_Sp_join_33 : decode (am_c m_Sp_join) 33 = .ok (.getfield 22, 3) := by decide +kernel
theorem d_Sp_join_36 : decode (am_c m_Sp_join) 36 = .ok (.invokevirtual 104, 3) := by decide +kernel
theorem d_Sp_join_39 : decode (am_c m_Sp_join) 39 = .ok (.iload_n 1, 1) := by decide +kernel
theorem d_Sp_join_40 : decode (am_c m_Sp_join) 40 = .ok (.invokevirtual 112, 3) := by decide +kernel
theorem d_Sp_join_43 : decode (am_c m_Sp_join) 43 = .ok (.aload_n 0, 1) := by decide +kernel
theorem d_Sp_join_44 : decode (am_c m_Sp_join) 44 = .ok (.getfield 22, 3) := by decide +kernel
theorem d_Sp_join_47 : decode (am_c m_Sp_join) 47 = .ok (.iload_n 1, 1) := by decide +kernel
theorem d_Sp_join_48 : decode (am_c m_Sp_join) 48 = .ok (.invokevirtual 116, 3) := by decide +kernel
theorem d_Sp_join_51 : decode (am_c m_Sp_join) 51 = .ok (.ireturn, 1) := by decide +kernel
theorem d_Sp_at_0 : decode (am_c m_Sp_at) 0 = .ok (.aload_n 0, 1) := by decide +kernel
theorem d_Sp_at_1 : decode (am_c m_Sp_at) 1 = .ok (.iload_n 1, 1) := by decide +kernel
theorem d_Sp_at_2 : decode (am_c m_Sp_at) 2 = .ok (.invokevirtual 120, 3) := by decide +kernel
theorem d_Sp_at_5 : decode (am_c m_Sp_at) 5 = .ok (.ifCond .ne 6, 3) := by decide +kernel
theorem d_Sp_at_8 : decode (am_c m_Sp_at) 8 = .ok (.bipush (-2), 2) := by decide +kernel
theorem d_Sp_at_10 : decode (am_c m_Sp_at) 10 = .ok (.ireturn, 1) := by decide +kernel
theorem d_Sp_at_11 : decode (am_c m_Sp_at) 11 = .ok (.iload_n 2, 1) := by decide +kernel
theorem d_Sp_at_12 : decode (am_c m_Sp_at) 12 = .ok (.iconst 0, 1) := by decide +kernel
theorem d_Sp_at_13 : decode (am_c m_Sp_at) 13 = .ok (.iconst 1, 1) := by decide +kernel
theorem d_Sp_at_14 : decode (am_c m_Sp_at) 14 = .ok (.invokestatic 82, 3) := by decide +kernel
theorem d_Sp_at_17 : decode (am_c m_Sp_at) 17 = .ok (.ifCond .ne 6, 3) := by decide +kernel
theorem d_Sp_at_20 : decode (am_c m_Sp_at) 20 = .ok (.bipush (-3), 2) := by decide +kernel
theorem d_Sp_at_22 : decode (am_c m_Sp_at) 22 = .ok (.ireturn, 1) := by decide +kernel
theorem d_Sp_at_23 : decode (am_c m_Sp_at) 23 = .ok (.aload_n 0, 1) := by decide +kernel
theorem d_Sp_at_24 : decode (am_c m_Sp_at) 24 = .ok (.getfield 22, 3) := by decide +kernel
theorem d_Sp_at_27 : decode (am_c m_Sp_at) 27 = .ok (.getfield 123, 3) := by decide +kernel
theorem d_Sp_at_30 : decode (am_c m_Sp_at) 30 = .ok (.iload_n 1, 1) := by decide +kernel
theorem d_Sp_at_31 : decode (am_c m_Sp_at) 31 = .ok (.iaload, 1) := by decide +kernel
theorem d_Sp_at_32 : decode (am_c m_Sp_at) 32 = .ok (.istore_n 3, 1) := by decide +kernel
theorem d_Sp_at_33 : decode (am_c m_Sp_at) 33 = .ok (.iload_n 2, 1) := by decide +kernel
theorem d_Sp_at_34 : decode (am_c m_Sp_at) 34 = .ok (.ifCond .ne 7, 3) := by decide +kernel
theorem d_Sp_at_37 : decode (am_c m_Sp_at) 37 = .ok (.iload_n 3, 1) := by decide +kernel
theorem d_Sp_at_38 : decode (am_c m_Sp_at) 38 = .ok (.goto 12, 3) := by decide +kernel
theorem d_Sp_at_41 : decode (am_c m_Sp_at) 41 = .ok (.aload_n 0, 1) := by decide +kernel
theorem d_Sp_at_42 : decode (am_c m_Sp_at) 42 = .ok (.getfield 22, 3) := by decide +kernel
theorem d_Sp_at_45 : decode (am_c m_Sp_at) 45 = .ok (.getfield 100, 3) := by decide +kernel
theorem d_Sp_at_48 : decode (am_c m_Sp_at) 48 = .ok (.iload_n 3, 1) := by decide +kernel
theorem d_Sp_at_49 : decode (am_c m_Sp_at) 49 = .ok (.iaload, 1) := by decide +kernel
theorem d_Sp_at_50 : decode (am_c m_Sp_at) 50 = .ok (.ireturn, 1) := by decide +kernel
theorem d_Sp_isCell_0 : decode (am_c m_Sp_isCell) 0 = .ok (.iload_n 1, 1) := by decide +kernel
theorem d_Sp_isCell_1 : decode (am_c m_Sp_isCell) 1 = .ok (.iconst 0, 1) := by decide +kernel
theorem d_Sp_isCell_2 : decode (am_c m_Sp_isCell) 2 = .ok (.aload_n 0, 1) := by decide +kernel
theorem d_Sp_isCell_3 : decode (am_c m_Sp_isCell) 3 = .ok (.getfield 22, 3) := by decide +kernel
theorem d_Sp_isCell_6 : decode (am_c m_Sp_isCell) 6 = .ok (.getfield 89, 3) := by decide +kernel
theorem d_Sp_isCell_9 : decode (am_c m_Sp_isCell) 9 = .ok (.iconst 1, 1) := by decide +kernel
theorem d_Sp_isCell_10 : decode (am_c m_Sp_isCell) 10 = .ok (.isub, 1) := by decide +kernel
theorem d_Sp_isCell_11 : decode (am_c m_Sp_isCell) 11 = .ok (.invokestatic 82, 3) := by decide +kernel
theorem d_Sp_isCell_14 : decode (am_c m_Sp_isCell) 14 = .ok (.ireturn, 1) := by decide +kernel
theorem d_Sp_time_0 : decode (am_c m_Sp_time) 0 = .ok (.aload_n 0, 1) := by decide +kernel
theorem d_Sp_time_1 : decode (am_c m_Sp_time) 1 = .ok (.iload_n 1, 1) := by decide +kernel
theorem d_Sp_time_2 : decode (am_c m_Sp_time) 2 = .ok (.invokevirtual 120, 3) := by decide +kernel
theorem d_Sp_time_5 : decode (am_c m_Sp_time) 5 = .ok (.ifCond .eq 11, 3) := by decide +kernel
theorem d_Sp_time_8 : decode (am_c m_Sp_time) 8 = .ok (.aload_n 0, 1) := by decide +kernel
theorem d_Sp_time_9 : decode (am_c m_Sp_time) 9 = .ok (.iload_n 2, 1) := by decide +kernel
theorem d_Sp_time_10 : decode (am_c m_Sp_time) 10 = .ok (.invokevirtual 120, 3) := by decide +kernel
theorem d_Sp_time_13 : decode (am_c m_Sp_time) 13 = .ok (.ifCond .ne 6, 3) := by decide +kernel
theorem d_Sp_time_16 : decode (am_c m_Sp_time) 16 = .ok (.bipush (-2), 2) := by decide +kernel
theorem d_Sp_time_18 : decode (am_c m_Sp_time) 18 = .ok (.ireturn, 1) := by decide +kernel
theorem d_Sp_time_19 : decode (am_c m_Sp_time) 19 = .ok (.iload_n 3, 1) := by decide +kernel
theorem d_Sp_time_20 : decode (am_c m_Sp_time) 20 = .ok (.invokestatic 126, 3) := by decide +kernel
theorem d_Sp_time_23 : decode (am_c m_Sp_time) 23 = .ok (.ifCond .ne 6, 3) := by decide +kernel
theorem d_Sp_time_26 : decode (am_c m_Sp_time) 26 = .ok (.bipush (-3), 2) := by decide +kernel
theorem d_Sp_time_28 : decode (am_c m_Sp_time) 28 = .ok (.ireturn, 1) := by decide +kernel
theorem d_Sp_time_29 : decode (am_c m_Sp_time) 29 = .ok (.aload_n 0, 1) := by decide +kernel
theorem d_Sp_time_30 : decode (am_c m_Sp_time) 30 = .ok (.getfield 22, 3) := by decide +kernel
theorem d_Sp_time_33 : decode (am_c m_Sp_time) 33 = .ok (.iload_n 1, 1) := by decide +kernel
theorem d_Sp_time_34 : decode (am_c m_Sp_time) 34 = .ok (.iload_n 3, 1) := by decide +kernel
theorem d_Sp_time_35 : decode (am_c m_Sp_time) 35 = .ok (.invokevirtual 129, 3) := by decide +kernel
theorem d_Sp_time_38 : decode (am_c m_Sp_time) 38 = .ok (.aload_n 0, 1) := by decide +kernel
theorem d_Sp_time_39 : decode (am_c m_Sp_time) 39 = .ok (.getfield 22, 3) := by decide +kernel
theorem d_Sp_time_42 : decode (am_c m_Sp_time) 42 = .ok (.getfield 132, 3) := by decide +kernel
theorem d_Sp_time_45 : decode (am_c m_Sp_time) 45 = .ok (.iload_n 2, 1) := by decide +kernel
theorem d_Sp_time_46 : decode (am_c m_Sp_time) 46 = .ok (.iaload, 1) := by decide +kernel
theorem d_Sp_time_47 : decode (am_c m_Sp_time) 47 = .ok (.ireturn, 1) := by decide +kernel
theorem d_Sp_isKind_0 : decode (am_c m_Sp_isKind) 0 = .ok (.iload_n 0, 1) := by decide +kernel
theorem d_Sp_isKind_1 : decode (am_c m_Sp_isKind) 1 = .ok (.iconst 0, 1) := by decide +kernel
theorem d_Sp_isKind_2 : decode (am_c m_Sp_isKind) 2 = .ok (.iconst 1, 1) := by decide +kernel
theorem d_Sp_isKind_3 : decode (am_c m_Sp_isKind) 3 = .ok (.invokestatic 82, 3) := by decide +kernel
theorem d_Sp_isKind_6 : decode (am_c m_Sp_isKind) 6 = .ok (.ireturn, 1) := by decide +kernel
theorem d_Sp_way_0 : decode (am_c m_Sp_way) 0 = .ok (.aload_n 0, 1) := by decide +kernel
theorem d_Sp_way_1 : decode (am_c m_Sp_way) 1 = .ok (.iload_n 1, 1) := by decide +kernel
theorem d_Sp_way_2 : decode (am_c m_Sp_way) 2 = .ok (.invokevirtual 120, 3) := by decide +kernel
theorem d_Sp_way_5 : decode (am_c m_Sp_way) 5 = .ok (.ifCond .eq 11, 3) := by decide +kernel
theorem d_Sp_way_8 : decode (am_c m_Sp_way) 8 = .ok (.aload_n 0, 1) := by decide +kernel
theorem d_Sp_way_9 : decode (am_c m_Sp_way) 9 = .ok (.iload_n 2, 1) := by decide +kernel
theorem d_Sp_way_10 : decode (am_c m_Sp_way) 10 = .ok (.invokevirtual 120, 3) := by decide +kernel
theorem d_Sp_way_13 : decode (am_c m_Sp_way) 13 = .ok (.ifCond .ne 6, 3) := by decide +kernel
theorem d_Sp_way_16 : decode (am_c m_Sp_way) 16 = .ok (.bipush (-2), 2) := by decide +kernel
theorem d_Sp_way_18 : decode (am_c m_Sp_way) 18 = .ok (.ireturn, 1) := by decide +kernel
theorem d_Sp_way_19 : decode (am_c m_Sp_way) 19 = .ok (.iload_n 3, 1) := by decide +kernel
theorem d_Sp_way_20 : decode (am_c m_Sp_way) 20 = .ok (.invokestatic 126, 3) := by decide +kernel
theorem d_Sp_way_23 : decode (am_c m_Sp_way) 23 = .ok (.ifCond .eq 8, 3) := by decide +kernel
theorem d_Sp_way_26 : decode (am_c m_Sp_way) 26 = .ok (.iload 4, 2) := by decide +kernel
theorem d_Sp_way_28 : decode (am_c m_Sp_way) 28 = .ok (.ifCond .ge 6, 3) := by decide +kernel
theorem d_Sp_way_31 : decode (am_c m_Sp_way) 31 = .ok (.bipush (-3), 2) := by decide +kernel
theorem d_Sp_way_33 : decode (am_c m_Sp_way) 33 = .ok (.ireturn, 1) := by decide +kernel
theorem d_Sp_way_34 : decode (am_c m_Sp_way) 34 = .ok (.aload_n 0, 1) := by decide +kernel
theorem d_Sp_way_35 : decode (am_c m_Sp_way) 35 = .ok (.getfield 22, 3) := by decide +kernel
theorem d_Sp_way_38 : decode (am_c m_Sp_way) 38 = .ok (.iload_n 2, 1) := by decide +kernel
theorem d_Sp_way_39 : decode (am_c m_Sp_way) 39 = .ok (.iload_n 3, 1) := by decide +kernel
theorem d_Sp_way_40 : decode (am_c m_Sp_way) 40 = .ok (.invokevirtual 129, 3) := by decide +kernel
theorem d_Sp_way_43 : decode (am_c m_Sp_way) 43 = .ok (.aload_n 0, 1) := by decide +kernel
theorem d_Sp_way_44 : decode (am_c m_Sp_way) 44 = .ok (.getfield 22, 3) := by decide +kernel
theorem d_Sp_way_47 : decode (am_c m_Sp_way) 47 = .ok (.iload_n 1, 1) := by decide +kernel
theorem d_Sp_way_48 : decode (am_c m_Sp_way) 48 = .ok (.invokevirtual 135, 3) := by decide +kernel
theorem d_Sp_way_51 : decode (am_c m_Sp_way) 51 = .ok (.iload 4, 2) := by decide +kernel
theorem d_Sp_way_53 : decode (am_c m_Sp_way) 53 = .ok (.aload_n 0, 1) := by decide +kernel
theorem d_Sp_way_54 : decode (am_c m_Sp_way) 54 = .ok (.getfield 22, 3) := by decide +kernel
theorem d_Sp_way_57 : decode (am_c m_Sp_way) 57 = .ok (.getfield 139, 3) := by decide +kernel
theorem d_Sp_way_60 : decode (am_c m_Sp_way) 60 = .ok (.if_icmp .ge 16, 3) := by decide +kernel
theorem d_Sp_way_63 : decode (am_c m_Sp_way) 63 = .ok (.aload_n 0, 1) := by decide +kernel
theorem d_Sp_way_64 : decode (am_c m_Sp_way) 64 = .ok (.getfield 22, 3) := by decide +kernel
theorem d_Sp_way_67 : decode (am_c m_Sp_way) 67 = .ok (.getfield 142, 3) := by decide +kernel
theorem d_Sp_way_70 : decode (am_c m_Sp_way) 70 = .ok (.iload 4, 2) := by decide +kernel
theorem d_Sp_way_72 : decode (am_c m_Sp_way) 72 = .ok (.iaload, 1) := by decide +kernel
theorem d_Sp_way_73 : decode (am_c m_Sp_way) 73 = .ok (.goto 4, 3) := by decide +kernel
theorem d_Sp_way_76 : decode (am_c m_Sp_way) 76 = .ok (.iconst (-1), 1) := by decide +kernel
theorem d_Sp_way_77 : decode (am_c m_Sp_way) 77 = .ok (.ireturn, 1) := by decide +kernel
theorem d_Sp_ear_0 : decode (am_c m_Sp_ear) 0 = .ok (.aload_n 0, 1) := by decide +kernel
theorem d_Sp_ear_1 : decode (am_c m_Sp_ear) 1 = .ok (.iload_n 1, 1) := by decide +kernel
theorem d_Sp_ear_2 : decode (am_c m_Sp_ear) 2 = .ok (.invokevirtual 120, 3) := by decide +kernel
theorem d_Sp_ear_5 : decode (am_c m_Sp_ear) 5 = .ok (.ifCond .ne 6, 3) := by decide +kernel
theorem d_Sp_ear_8 : decode (am_c m_Sp_ear) 8 = .ok (.bipush (-2), 2) := by decide +kernel
theorem d_Sp_ear_10 : decode (am_c m_Sp_ear) 10 = .ok (.ireturn, 1) := by decide +kernel
theorem d_Sp_ear_11 : decode (am_c m_Sp_ear) 11 = .ok (.aload_n 0, 1) := by decide +kernel
theorem d_Sp_ear_12 : decode (am_c m_Sp_ear) 12 = .ok (.getfield 28, 3) := by decide +kernel
theorem d_Sp_ear_15 : decode (am_c m_Sp_ear) 15 = .ok (.getfield 145, 3) := by decide +kernel
theorem d_Sp_ear_18 : decode (am_c m_Sp_ear) 18 = .ok (.bipush 6, 2) := by decide +kernel
theorem d_Sp_ear_20 : decode (am_c m_Sp_ear) 20 = .ok (.if_icmp .lt 6, 3) := by decide +kernel
theorem d_Sp_ear_23 : decode (am_c m_Sp_ear) 23 = .ok (.bipush (-5), 2) := by decide +kernel
theorem d_Sp_ear_25 : decode (am_c m_Sp_ear) 25 = .ok (.ireturn, 1) := by decide +kernel
theorem d_Sp_ear_26 : decode (am_c m_Sp_ear) 26 = .ok (.aload_n 0, 1) := by decide +kernel
theorem d_Sp_ear_27 : decode (am_c m_Sp_ear) 27 = .ok (.getfield 28, 3) := by decide +kernel
theorem d_Sp_ear_30 : decode (am_c m_Sp_ear) 30 = .ok (.iload_n 1, 1) := by decide +kernel
theorem d_Sp_ear_31 : decode (am_c m_Sp_ear) 31 = .ok (.invokevirtual 148, 3) := by decide +kernel
theorem d_Sp_ear_34 : decode (am_c m_Sp_ear) 34 = .ok (.ireturn, 1) := by decide +kernel
theorem d_Sp_clock_0 : decode (am_c m_Sp_clock) 0 = .ok (.aload_n 0, 1) := by decide +kernel
theorem d_Sp_clock_1 : decode (am_c m_Sp_clock) 1 = .ok (.iload_n 1, 1) := by decide +kernel
theorem d_Sp_clock_2 : decode (am_c m_Sp_clock) 2 = .ok (.invokevirtual 151, 3) := by decide +kernel
theorem d_Sp_clock_5 : decode (am_c m_Sp_clock) 5 = .ok (.ifCond .ne 6, 3) := by decide +kernel
theorem d_Sp_clock_8 : decode (am_c m_Sp_clock) 8 = .ok (.bipush (-2), 2) := by decide +kernel
theorem d_Sp_clock_10 : decode (am_c m_Sp_clock) 10 = .ok (.ireturn, 1) := by decide +kernel
theorem d_Sp_clock_11 : decode (am_c m_Sp_clock) 11 = .ok (.iload_n 2, 1) := by decide +kernel
theorem d_Sp_clock_12 : decode (am_c m_Sp_clock) 12 = .ok (.bipush (-99), 2) := by decide +kernel
theorem d_Sp_clock_14 : decode (am_c m_Sp_clock) 14 = .ok (.bipush 99, 2) := by decide +kernel
theorem d_Sp_clock_16 : decode (am_c m_Sp_clock) 16 = .ok (.invokestatic 82, 3) := by decide +kernel
theorem d_Sp_clock_19 : decode (am_c m_Sp_clock) 19 = .ok (.ifCond .ne 6, 3) := by decide +kernel
theorem d_Sp_clock_22 : decode (am_c m_Sp_clock) 22 = .ok (.bipush (-3), 2) := by decide +kernel
theorem d_Sp_clock_24 : decode (am_c m_Sp_clock) 24 = .ok (.ireturn, 1) := by decide +kernel
theorem d_Sp_clock_25 : decode (am_c m_Sp_clock) 25 = .ok (.aload_n 0, 1) := by decide +kernel
theorem d_Sp_clock_26 : decode (am_c m_Sp_clock) 26 = .ok (.getfield 28, 3) := by decide +kernel
theorem d_Sp_clock_29 : decode (am_c m_Sp_clock) 29 = .ok (.getfield 154, 3) := by decide +kernel
theorem d_Sp_clock_32 : decode (am_c m_Sp_clock) 32 = .ok (.iload_n 1, 1) := by decide +kernel
theorem d_Sp_clock_33 : decode (am_c m_Sp_clock) 33 = .ok (.iload_n 2, 1) := by decide +kernel
theorem d_Sp_clock_34 : decode (am_c m_Sp_clock) 34 = .ok (.iastore, 1) := by decide +kernel
theorem d_Sp_clock_35 : decode (am_c m_Sp_clock) 35 = .ok (.iconst 1, 1) := by decide +kernel
theorem d_Sp_clock_36 : decode (am_c m_Sp_clock) 36 = .ok (.ireturn, 1) := by decide +kernel
theorem d_Sp_isEar_0 : decode (am_c m_Sp_isEar) 0 = .ok (.iload_n 1, 1) := by decide +kernel
theorem d_Sp_isEar_1 : decode (am_c m_Sp_isEar) 1 = .ok (.iconst 0, 1) := by decide +kernel
theorem d_Sp_isEar_2 : decode (am_c m_Sp_isEar) 2 = .ok (.aload_n 0, 1) := by decide +kernel
theorem d_Sp_isEar_3 : decode (am_c m_Sp_isEar) 3 = .ok (.getfield 28, 3) := by decide +kernel
theorem d_Sp_isEar_6 : decode (am_c m_Sp_isEar) 6 = .ok (.getfield 145, 3) := by decide +kernel
theorem d_Sp_isEar_9 : decode (am_c m_Sp_isEar) 9 = .ok (.iconst 1, 1) := by decide +kernel
theorem d_Sp_isEar_10 : decode (am_c m_Sp_isEar) 10 = .ok (.isub, 1) := by decide +kernel
theorem d_Sp_isEar_11 : decode (am_c m_Sp_isEar) 11 = .ok (.invokestatic 82, 3) := by decide +kernel
theorem d_Sp_isEar_14 : decode (am_c m_Sp_isEar) 14 = .ok (.ireturn, 1) := by decide +kernel
theorem d_Sp_shake_0 : decode (am_c m_Sp_shake) 0 = .ok (.aload_n 0, 1) := by decide +kernel
theorem d_Sp_shake_1 : decode (am_c m_Sp_shake) 1 = .ok (.iload_n 1, 1) := by decide +kernel
theorem d_Sp_shake_2 : decode (am_c m_Sp_shake) 2 = .ok (.invokevirtual 120, 3) := by decide +kernel
theorem d_Sp_shake_5 : decode (am_c m_Sp_shake) 5 = .ok (.ifCond .ne 6, 3) := by decide +kernel
theorem d_Sp_shake_8 : decode (am_c m_Sp_shake) 8 = .ok (.bipush (-2), 2) := by decide +kernel
theorem d_Sp_shake_10 : decode (am_c m_Sp_shake) 10 = .ok (.ireturn, 1) := by decide +kernel
theorem d_Sp_shake_11 : decode (am_c m_Sp_shake) 11 = .ok (.iload_n 2, 1) := by decide +kernel
theorem d_Sp_shake_12 : decode (am_c m_Sp_shake) 12 = .ok (.iconst 0, 1) := by decide +kernel
theorem d_Sp_shake_13 : decode (am_c m_Sp_shake) 13 = .ok (.sipush 1000, 3) := by decide +kernel
theorem d_Sp_shake_16 : decode (am_c m_Sp_shake) 16 = .ok (.invokestatic 82, 3) := by decide +kernel
theorem d_Sp_shake_19 : decode (am_c m_Sp_shake) 19 = .ok (.ifCond .ne 6, 3) := by decide +kernel
theorem d_Sp_shake_22 : decode (am_c m_Sp_shake) 22 = .ok (.bipush (-3), 2) := by decide +kernel
theorem d_Sp_shake_24 : decode (am_c m_Sp_shake) 24 = .ok (.ireturn, 1) := by decide +kernel
theorem d_Sp_shake_25 : decode (am_c m_Sp_shake) 25 = .ok (.aload_n 0, 1) := by decide +kernel
theorem d_Sp_shake_26 : decode (am_c m_Sp_shake) 26 = .ok (.getfield 28, 3) := by decide +kernel
theorem d_Sp_shake_29 : decode (am_c m_Sp_shake) 29 = .ok (.getfield 157, 3) := by decide +kernel
theorem d_Sp_shake_32 : decode (am_c m_Sp_shake) 32 = .ok (.iconst 5, 1) := by decide +kernel
theorem d_Sp_shake_33 : decode (am_c m_Sp_shake) 33 = .ok (.if_icmp .lt 6, 3) := by decide +kernel
theorem d_Sp_shake_36 : decode (am_c m_Sp_shake) 36 = .ok (.bipush (-5), 2) := by decide +kernel
theorem d_Sp_shake_38 : decode (am_c m_Sp_shake) 38 = .ok (.ireturn, 1) := by decide +kernel
theorem d_Sp_shake_39 : decode (am_c m_Sp_shake) 39 = .ok (.aload_n 0, 1) := by decide +kernel
theorem d_Sp_shake_40 : decode (am_c m_Sp_shake) 40 = .ok (.getfield 28, 3) := by decide +kernel
theorem d_Sp_shake_43 : decode (am_c m_Sp_shake) 43 = .ok (.iload_n 1, 1) := by decide +kernel
theorem d_Sp_shake_44 : decode (am_c m_Sp_shake) 44 = .ok (.iload_n 2, 1) := by decide +kernel
theorem d_Sp_shake_45 : decode (am_c m_Sp_shake) 45 = .ok (.invokevirtual 160, 3) := by decide +kernel
theorem d_Sp_shake_48 : decode (am_c m_Sp_shake) 48 = .ok (.ireturn, 1) := by decide +kernel
theorem d_Sp_put_0 : decode (am_c m_Sp_put) 0 = .ok (.aload_n 0, 1) := by decide +kernel
theorem d_Sp_put_1 : decode (am_c m_Sp_put) 1 = .ok (.iload_n 1, 1) := by decide +kernel
theorem d_Sp_put_2 : decode (am_c m_Sp_put) 2 = .ok (.invokevirtual 163, 3) := by decide +kernel
theorem d_Sp_put_5 : decode (am_c m_Sp_put) 5 = .ok (.ifCond .eq 11, 3) := by decide +kernel
theorem d_Sp_put_8 : decode (am_c m_Sp_put) 8 = .ok (.aload_n 0, 1) := by decide +kernel
theorem d_Sp_put_9 : decode (am_c m_Sp_put) 9 = .ok (.iload_n 2, 1) := by decide +kernel
theorem d_Sp_put_10 : decode (am_c m_Sp_put) 10 = .ok (.invokevirtual 120, 3) := by decide +kernel
theorem d_Sp_put_13 : decode (am_c m_Sp_put) 13 = .ok (.ifCond .ne 6, 3) := by decide +kernel
theorem d_Sp_put_16 : decode (am_c m_Sp_put) 16 = .ok (.bipush (-2), 2) := by decide +kernel
theorem d_Sp_put_18 : decode (am_c m_Sp_put) 18 = .ok (.ireturn, 1) := by decide +kernel
theorem d_Sp_put_19 : decode (am_c m_Sp_put) 19 = .ok (.iload_n 3, 1) := by decide +kernel
theorem d_Sp_put_20 : decode (am_c m_Sp_put) 20 = .ok (.iconst 0, 1) := by decide +kernel
theorem d_Sp_put_21 : decode (am_c m_Sp_put) 21 = .ok (.sipush 1000, 3) := by decide +kernel
theorem d_Sp_put_24 : decode (am_c m_Sp_put) 24 = .ok (.invokestatic 82, 3) := by decide +kernel
theorem d_Sp_put_27 : decode (am_c m_Sp_put) 27 = .ok (.ifCond .ne 6, 3) := by decide +kernel
theorem d_Sp_put_30 : decode (am_c m_Sp_put) 30 = .ok (.bipush (-3), 2) := by decide +kernel
theorem d_Sp_put_32 : decode (am_c m_Sp_put) 32 = .ok (.ireturn, 1) := by decide +kernel
theorem d_Sp_put_33 : decode (am_c m_Sp_put) 33 = .ok (.aload_n 0, 1) := by decide +kernel
theorem d_Sp_put_34 : decode (am_c m_Sp_put) 34 = .ok (.getfield 28, 3) := by decide +kernel
theorem d_Sp_put_37 : decode (am_c m_Sp_put) 37 = .ok (.iload_n 1, 1) := by decide +kernel
theorem d_Sp_put_38 : decode (am_c m_Sp_put) 38 = .ok (.iload_n 2, 1) := by decide +kernel
theorem d_Sp_put_39 : decode (am_c m_Sp_put) 39 = .ok (.iload_n 3, 1) := by decide +kernel
theorem d_Sp_put_40 : decode (am_c m_Sp_put) 40 = .ok (.invokevirtual 166, 3) := by decide +kernel
theorem d_Sp_put_43 : decode (am_c m_Sp_put) 43 = .ok (.iconst 1, 1) := by decide +kernel
theorem d_Sp_put_44 : decode (am_c m_Sp_put) 44 = .ok (.ireturn, 1) := by decide +kernel
theorem d_Sp_isShake_0 : decode (am_c m_Sp_isShake) 0 = .ok (.iload_n 1, 1) := by decide +kernel
theorem d_Sp_isShake_1 : decode (am_c m_Sp_isShake) 1 = .ok (.iconst 0, 1) := by decide +kernel
theorem d_Sp_isShake_2 : decode (am_c m_Sp_isShake) 2 = .ok (.aload_n 0, 1) := by decide +kernel
theorem d_Sp_isShake_3 : decode (am_c m_Sp_isShake) 3 = .ok (.getfield 28, 3) := by decide +kernel
theorem d_Sp_isShake_6 : decode (am_c m_Sp_isShake) 6 = .ok (.getfield 157, 3) := by decide +kernel
theorem d_Sp_isShake_9 : decode (am_c m_Sp_isShake) 9 = .ok (.iconst 1, 1) := by decide +kernel
theorem d_Sp_isShake_10 : decode (am_c m_Sp_isShake) 10 = .ok (.isub, 1) := by decide +kernel
theorem d_Sp_isShake_11 : decode (am_c m_Sp_isShake) 11 = .ok (.invokestatic 82, 3) := by decide +kernel
theorem d_Sp_isShake_14 : decode (am_c m_Sp_isShake) 14 = .ok (.ireturn, 1) := by decide +kernel
theorem d_Sp_pick_0 : decode (am_c m_Sp_pick) 0 = .ok (.aload_n 0, 1) := by decide +kernel
theorem d_Sp_pick_1 : decode (am_c m_Sp_pick) 1 = .ok (.iload_n 1, 1) := by decide +kernel
theorem d_Sp_pick_2 : decode (am_c m_Sp_pick) 2 = .ok (.invokevirtual 151, 3) := by decide +kernel
theorem d_Sp_pick_5 : decode (am_c m_Sp_pick) 5 = .ok (.ifCond .eq 11, 3) := by decide +kernel
theorem d_Sp_pick_8 : decode (am_c m_Sp_pick) 8 = .ok (.aload_n 0, 1) := by decide +kernel
theorem d_Sp_pick_9 : decode (am_c m_Sp_pick) 9 = .ok (.iload_n 2, 1) := by decide +kernel
theorem d_Sp_pick_10 : decode (am_c m_Sp_pick) 10 = .ok (.invokevirtual 163, 3) := by decide +kernel
theorem d_Sp_pick_13 : decode (am_c m_Sp_pick) 13 = .ok (.ifCond .ne 6, 3) := by decide +kernel
theorem d_Sp_pick_16 : decode (am_c m_Sp_pick) 16 = .ok (.bipush (-2), 2) := by decide +kernel
theorem d_Sp_pick_18 : decode (am_c m_Sp_pick) 18 = .ok (.ireturn, 1) := by decide +kernel
theorem d_Sp_pick_19 : decode (am_c m_Sp_pick) 19 = .ok (.iload_n 3, 1) := by decide +kernel
theorem d_Sp_pick_20 : decode (am_c m_Sp_pick) 20 = .ok (.invokestatic 126, 3) := by decide +kernel
theorem d_Sp_pick_23 : decode (am_c m_Sp_pick) 23 = .ok (.ifCond .eq 13, 3) := by decide +kernel
theorem d_Sp_pick_26 : decode (am_c m_Sp_pick) 26 = .ok (.iload 4, 2) := by decide +kernel
theorem d_Sp_pick_28 : decode (am_c m_Sp_pick) 28 = .ok (.iload 5, 2) := by decide +kernel
theorem d_Sp_pick_30 : decode (am_c m_Sp_pick) 30 = .ok (.invokestatic 169, 3) := by decide +kernel
theorem d_Sp_pick_33 : decode (am_c m_Sp_pick) 33 = .ok (.ifCond .ne 6, 3) := by decide +kernel
theorem d_Sp_pick_36 : decode (am_c m_Sp_pick) 36 = .ok (.bipush (-3), 2) := by decide +kernel
theorem d_Sp_pick_38 : decode (am_c m_Sp_pick) 38 = .ok (.ireturn, 1) := by decide +kernel
theorem d_Sp_pick_39 : decode (am_c m_Sp_pick) 39 = .ok (.aload_n 0, 1) := by decide +kernel
theorem d_Sp_pick_40 : decode (am_c m_Sp_pick) 40 = .ok (.getfield 28, 3) := by decide +kernel
theorem d_Sp_pick_43 : decode (am_c m_Sp_pick) 43 = .ok (.getfield 173, 3) := by decide +kernel
theorem d_Sp_pick_46 : decode (am_c m_Sp_pick) 46 = .ok (.bipush 12, 2) := by decide +kernel
theorem d_Sp_pick_48 : decode (am_c m_Sp_pick) 48 = .ok (.if_icmp .ge 15, 3) := by decide +kernel
theorem d_Sp_pick_51 : decode (am_c m_Sp_pick) 51 = .ok (.aload_n 0, 1) := by decide +kernel
theorem d_Sp_pick_52 : decode (am_c m_Sp_pick) 52 = .ok (.getfield 28, 3) := by decide +kernel
theorem d_Sp_pick_55 : decode (am_c m_Sp_pick) 55 = .ok (.getfield 176, 3) := by decide +kernel
theorem d_Sp_pick_58 : decode (am_c m_Sp_pick) 58 = .ok (.bipush 40, 2) := by decide +kernel
theorem d_Sp_pick_60 : decode (am_c m_Sp_pick) 60 = .ok (.if_icmp .lt 6, 3) := by decide +kernel
theorem d_Sp_pick_63 : decode (am_c m_Sp_pick) 63 = .ok (.bipush (-5), 2) := by decide +kernel
theorem d_Sp_pick_65 : decode (am_c m_Sp_pick) 65 = .ok (.ireturn, 1) := by decide +kernel
theorem d_Sp_pick_66 : decode (am_c m_Sp_pick) 66 = .ok (.aload_n 0, 1) := by decide +kernel
theorem d_Sp_pick_67 : decode (am_c m_Sp_pick) 67 = .ok (.getfield 28, 3) := by decide +kernel
theorem d_Sp_pick_70 : decode (am_c m_Sp_pick) 70 = .ok (.iload_n 1, 1) := by decide +kernel
theorem d_Sp_pick_71 : decode (am_c m_Sp_pick) 71 = .ok (.iload_n 2, 1) := by decide +kernel
theorem d_Sp_pick_72 : decode (am_c m_Sp_pick) 72 = .ok (.iload_n 3, 1) := by decide +kernel
theorem d_Sp_pick_73 : decode (am_c m_Sp_pick) 73 = .ok (.invokevirtual 179, 3) := by decide +kernel
theorem d_Sp_pick_76 : decode (am_c m_Sp_pick) 76 = .ok (.istore 6, 2) := by decide +kernel
theorem d_Sp_pick_78 : decode (am_c m_Sp_pick) 78 = .ok (.aload_n 0, 1) := by decide +kernel
theorem d_Sp_pick_79 : decode (am_c m_Sp_pick) 79 = .ok (.getfield 28, 3) := by decide +kernel
theorem d_Sp_pick_82 : decode (am_c m_Sp_pick) 82 = .ok (.iload 6, 2) := by decide +kernel
theorem d_Sp_pick_84 : decode (am_c m_Sp_pick) 84 = .ok (.iload 4, 2) := by decide +kernel
theorem d_Sp_pick_86 : decode (am_c m_Sp_pick) 86 = .ok (.iload 5, 2) := by decide +kernel
theorem d_Sp_pick_88 : decode (am_c m_Sp_pick) 88 = .ok (.invokevirtual 183, 3) := by decide +kernel
theorem d_Sp_pick_91 : decode (am_c m_Sp_pick) 91 = .ok (.iload 6, 2) := by decide +kernel
theorem d_Sp_pick_93 : decode (am_c m_Sp_pick) 93 = .ok (.ireturn, 1) := by decide +kernel
theorem d_Sp_isSpan_0 : decode (am_c m_Sp_isSpan) 0 = .ok (.iload_n 0, 1) := by decide +kernel
theorem d_Sp_isSpan_1 : decode (am_c m_Sp_isSpan) 1 = .ok (.ifCond .lt 19, 3) := by decide +kernel
theorem d_Sp_isSpan_4 : decode (am_c m_Sp_isSpan) 4 = .ok (.iload_n 0, 1) := by decide +kernel
theorem d_Sp_isSpan_5 : decode (am_c m_Sp_isSpan) 5 = .ok (.iload_n 1, 1) := by decide +kernel
theorem d_Sp_isSpan_6 : decode (am_c m_Sp_isSpan) 6 = .ok (.if_icmp .gt 14, 3) := by decide +kernel
theorem d_Sp_isSpan_9 : decode (am_c m_Sp_isSpan) 9 = .ok (.iload_n 1, 1) := by decide +kernel
theorem d_Sp_isSpan_10 : decode (am_c m_Sp_isSpan) 10 = .ok (.sipush 3000, 3) := by decide +kernel
theorem d_Sp_isSpan_13 : decode (am_c m_Sp_isSpan) 13 = .ok (.if_icmp .gt 7, 3) := by decide +kernel
theorem d_Sp_isSpan_16 : decode (am_c m_Sp_isSpan) 16 = .ok (.iconst 1, 1) := by decide +kernel
theorem d_Sp_isSpan_17 : decode (am_c m_Sp_isSpan) 17 = .ok (.goto 4, 3) := by decide +kernel
theorem d_Sp_isSpan_20 : decode (am_c m_Sp_isSpan) 20 = .ok (.iconst 0, 1) := by decide +kernel
theorem d_Sp_isSpan_21 : decode (am_c m_Sp_isSpan) 21 = .ok (.ireturn, 1) := by decide +kernel
theorem d_Sp_tell_0 : decode (am_c m_Sp_tell) 0 = .ok (.aload_n 0, 1) := by decide +kernel
theorem d_Sp_tell_1 : decode (am_c m_Sp_tell) 1 = .ok (.iload_n 1, 1) := by decide +kernel
theorem d_Sp_tell_2 : decode (am_c m_Sp_tell) 2 = .ok (.invokevirtual 186, 3) := by decide +kernel
theorem d_Sp_tell_5 : decode (am_c m_Sp_tell) 5 = .ok (.ifCond .ne 6, 3) := by decide +kernel
theorem d_Sp_tell_8 : decode (am_c m_Sp_tell) 8 = .ok (.bipush (-2), 2) := by decide +kernel
theorem d_Sp_tell_10 : decode (am_c m_Sp_tell) 10 = .ok (.ireturn, 1) := by decide +kernel
theorem d_Sp_tell_11 : decode (am_c m_Sp_tell) 11 = .ok (.iload_n 2, 1) := by decide +kernel
theorem d_Sp_tell_12 : decode (am_c m_Sp_tell) 12 = .ok (.iload_n 3, 1) := by decide +kernel
theorem d_Sp_tell_13 : decode (am_c m_Sp_tell) 13 = .ok (.invokestatic 169, 3) := by decide +kernel
theorem d_Sp_tell_16 : decode (am_c m_Sp_tell) 16 = .ok (.ifCond .ne 6, 3) := by decide +kernel
theorem d_Sp_tell_19 : decode (am_c m_Sp_tell) 19 = .ok (.bipush (-3), 2) := by decide +kernel
theorem d_Sp_tell_21 : decode (am_c m_Sp_tell) 21 = .ok (.ireturn, 1) := by decide +kernel
theorem d_Sp_tell_22 : decode (am_c m_Sp_tell) 22 = .ok (.aload_n 0, 1) := by decide +kernel
theorem d_Sp_tell_23 : decode (am_c m_Sp_tell) 23 = .ok (.getfield 28, 3) := by decide +kernel
theorem d_Sp_tell_26 : decode (am_c m_Sp_tell) 26 = .ok (.getfield 176, 3) := by decide +kernel
theorem d_Sp_tell_29 : decode (am_c m_Sp_tell) 29 = .ok (.bipush 40, 2) := by decide +kernel
theorem d_Sp_tell_31 : decode (am_c m_Sp_tell) 31 = .ok (.if_icmp .lt 6, 3) := by decide +kernel
theorem d_Sp_tell_34 : decode (am_c m_Sp_tell) 34 = .ok (.bipush (-5), 2) := by decide +kernel
theorem d_Sp_tell_36 : decode (am_c m_Sp_tell) 36 = .ok (.ireturn, 1) := by decide +kernel
theorem d_Sp_tell_37 : decode (am_c m_Sp_tell) 37 = .ok (.aload_n 0, 1) := by decide +kernel
theorem d_Sp_tell_38 : decode (am_c m_Sp_tell) 38 = .ok (.getfield 28, 3) := by decide +kernel
theorem d_Sp_tell_41 : decode (am_c m_Sp_tell) 41 = .ok (.iload_n 1, 1) := by decide +kernel
theorem d_Sp_tell_42 : decode (am_c m_Sp_tell) 42 = .ok (.iload_n 2, 1) := by decide +kernel
theorem d_Sp_tell_43 : decode (am_c m_Sp_tell) 43 = .ok (.iload_n 3, 1) := by decide +kernel
theorem d_Sp_tell_44 : decode (am_c m_Sp_tell) 44 = .ok (.invokevirtual 183, 3) := by decide +kernel
theorem d_Sp_tell_47 : decode (am_c m_Sp_tell) 47 = .ok (.aload_n 0, 1) := by decide +kernel
theorem d_Sp_tell_48 : decode (am_c m_Sp_tell) 48 = .ok (.getfield 28, 3) := by decide +kernel
theorem d_Sp_tell_51 : decode (am_c m_Sp_tell) 51 = .ok (.getfield 176, 3) := by decide +kernel
theorem d_Sp_tell_54 : decode (am_c m_Sp_tell) 54 = .ok (.ireturn, 1) := by decide +kernel
theorem d_Sp_isPick_0 : decode (am_c m_Sp_isPick) 0 = .ok (.iload_n 1, 1) := by decide +kernel
theorem d_Sp_isPick_1 : decode (am_c m_Sp_isPick) 1 = .ok (.iconst 0, 1) := by decide +kernel
theorem d_Sp_isPick_2 : decode (am_c m_Sp_isPick) 2 = .ok (.aload_n 0, 1) := by decide +kernel
theorem d_Sp_isPick_3 : decode (am_c m_Sp_isPick) 3 = .ok (.getfield 28, 3) := by decide +kernel
theorem d_Sp_isPick_6 : decode (am_c m_Sp_isPick) 6 = .ok (.getfield 173, 3) := by decide +kernel
theorem d_Sp_isPick_9 : decode (am_c m_Sp_isPick) 9 = .ok (.iconst 1, 1) := by decide +kernel
theorem d_Sp_isPick_10 : decode (am_c m_Sp_isPick) 10 = .ok (.isub, 1) := by decide +kernel
theorem d_Sp_isPick_11 : decode (am_c m_Sp_isPick) 11 = .ok (.invokestatic 82, 3) := by decide +kernel
theorem d_Sp_isPick_14 : decode (am_c m_Sp_isPick) 14 = .ok (.ireturn, 1) := by decide +kernel
theorem d_Sp_days_0 : decode (am_c m_Sp_days) 0 = .ok (.iload_n 1, 1) := by decide +kernel
theorem d_Sp_days_1 : decode (am_c m_Sp_days) 1 = .ok (.iconst 1, 1) := by decide +kernel
theorem d_Sp_days_2 : decode (am_c m_Sp_days) 2 = .ok (.bipush 50, 2) := by decide +kernel
theorem d_Sp_days_4 : decode (am_c m_Sp_days) 4 = .ok (.invokestatic 82, 3) := by decide +kernel
theorem d_Sp_days_7 : decode (am_c m_Sp_days) 7 = .ok (.ifCond .eq 18, 3) := by decide +kernel
theorem d_Sp_days_10 : decode (am_c m_Sp_days) 10 = .ok (.aload_n 0, 1) := by decide +kernel
theorem d_Sp_days_11 : decode (am_c m_Sp_days) 11 = .ok (.getfield 28, 3) := by decide +kernel
theorem d_Sp_days_14 : decode (am_c m_Sp_days) 14 = .ok (.getfield 189, 3) := by decide +kernel
theorem d_Sp_days_17 : decode (am_c m_Sp_days) 17 = .ok (.iload_n 1, 1) := by decide +kernel
theorem d_Sp_days_18 : decode (am_c m_Sp_days) 18 = .ok (.iadd, 1) := by decide +kernel
theorem d_Sp_days_19 : decode (am_c m_Sp_days) 19 = .ok (.sipush 500, 3) := by decide +kernel
theorem d_Sp_days_22 : decode (am_c m_Sp_days) 22 = .ok (.if_icmp .le 6, 3) := by decide +kernel
theorem d_Sp_days_25 : decode (am_c m_Sp_days) 25 = .ok (.bipush (-3), 2) := by decide +kernel
theorem d_Sp_days_27 : decode (am_c m_Sp_days) 27 = .ok (.ireturn, 1) := by decide +kernel
theorem d_Sp_days_28 : decode (am_c m_Sp_days) 28 = .ok (.aload_n 0, 1) := by decide +kernel
theorem d_Sp_days_29 : decode (am_c m_Sp_days) 29 = .ok (.getfield 28, 3) := by decide +kernel
theorem d_Sp_days_32 : decode (am_c m_Sp_days) 32 = .ok (.dup, 1) := by decide +kernel
theorem d_Sp_days_33 : decode (am_c m_Sp_days) 33 = .ok (.getfield 189, 3) := by decide +kernel
theorem d_Sp_days_36 : decode (am_c m_Sp_days) 36 = .ok (.iload_n 1, 1) := by decide +kernel
theorem d_Sp_days_37 : decode (am_c m_Sp_days) 37 = .ok (.iadd, 1) := by decide +kernel
theorem d_Sp_days_38 : decode (am_c m_Sp_days) 38 = .ok (.putfield 189, 3) := by decide +kernel
theorem d_Sp_days_41 : decode (am_c m_Sp_days) 41 = .ok (.aload_n 0, 1) := by decide +kernel
theorem d_Sp_days_42 : decode (am_c m_Sp_days) 42 = .ok (.getfield 28, 3) := by decide +kernel
theorem d_Sp_days_45 : decode (am_c m_Sp_days) 45 = .ok (.getfield 189, 3) := by decide +kernel
theorem d_Sp_days_48 : decode (am_c m_Sp_days) 48 = .ok (.ireturn, 1) := by decide +kernel
theorem d_Sp_of_0 : decode (am_c m_Sp_of) 0 = .ok (.aload_n 0, 1) := by decide +kernel
theorem d_Sp_of_1 : decode (am_c m_Sp_of) 1 = .ok (.iload_n 1, 1) := by decide +kernel
theorem d_Sp_of_2 : decode (am_c m_Sp_of) 2 = .ok (.invokevirtual 186, 3) := by decide +kernel
theorem d_Sp_of_5 : decode (am_c m_Sp_of) 5 = .ok (.ifCond .ne 6, 3) := by decide +kernel
theorem d_Sp_of_8 : decode (am_c m_Sp_of) 8 = .ok (.bipush (-2), 2) := by decide +kernel
theorem d_Sp_of_10 : decode (am_c m_Sp_of) 10 = .ok (.ireturn, 1) := by decide +kernel
theorem d_Sp_of_11 : decode (am_c m_Sp_of) 11 = .ok (.iload_n 2, 1) := by decide +kernel
theorem d_Sp_of_12 : decode (am_c m_Sp_of) 12 = .ok (.tableswitch 138 0 4 #[36, 45, 73, 82, 91], 36) := by decide +kernel
theorem d_Sp_of_48 : decode (am_c m_Sp_of) 48 = .ok (.aload_n 0, 1) := by decide +kernel
theorem d_Sp_of_49 : decode (am_c m_Sp_of) 49 = .ok (.getfield 39, 3) := by decide +kernel
theorem d_Sp_of_52 : decode (am_c m_Sp_of) 52 = .ok (.iload_n 1, 1) := by decide +kernel
theorem d_Sp_of_53 : decode (am_c m_Sp_of) 53 = .ok (.invokevirtual 192, 3) := by decide +kernel
theorem d_Sp_of_56 : decode (am_c m_Sp_of) 56 = .ok (.ireturn, 1) := by decide +kernel
theorem d_Sp_of_57 : decode (am_c m_Sp_of) 57 = .ok (.aload_n 0, 1) := by decide +kernel
theorem d_Sp_of_58 : decode (am_c m_Sp_of) 58 = .ok (.getfield 39, 3) := by decide +kernel
theorem d_Sp_of_61 : decode (am_c m_Sp_of) 61 = .ok (.iload_n 1, 1) := by decide +kernel
theorem d_Sp_of_62 : decode (am_c m_Sp_of) 62 = .ok (.invokevirtual 192, 3) := by decide +kernel
theorem d_Sp_of_65 : decode (am_c m_Sp_of) 65 = .ok (.aload_n 0, 1) := by decide +kernel
theorem d_Sp_of_66 : decode (am_c m_Sp_of) 66 = .ok (.getfield 28, 3) := by decide +kernel
theorem d_Sp_of_69 : decode (am_c m_Sp_of) 69 = .ok (.iload_n 1, 1) := by decide +kernel
theorem d_Sp_of_70 : decode (am_c m_Sp_of) 70 = .ok (.invokevirtual 195, 3) := by decide +kernel
theorem d_Sp_of_73 : decode (am_c m_Sp_of) 73 = .ok (.aload_n 0, 1) := by decide +kernel
theorem d_Sp_of_74 : decode (am_c m_Sp_of) 74 = .ok (.getfield 28, 3) := by decide +kernel
theorem d_Sp_of_77 : decode (am_c m_Sp_of) 77 = .ok (.iload_n 1, 1) := by decide +kernel
theorem d_Sp_of_78 : decode (am_c m_Sp_of) 78 = .ok (.invokevirtual 198, 3) := by decide +kernel
theorem d_Sp_of_81 : decode (am_c m_Sp_of) 81 = .ok (.invokestatic 201, 3) := by decide +kernel
theorem d_Sp_of_84 : decode (am_c m_Sp_of) 84 = .ok (.ireturn, 1) := by decide +kernel
theorem d_Sp_of_85 : decode (am_c m_Sp_of) 85 = .ok (.aload_n 0, 1) := by decide +kernel
theorem d_Sp_of_86 : decode (am_c m_Sp_of) 86 = .ok (.getfield 28, 3) := by decide +kernel
theorem d_Sp_of_89 : decode (am_c m_Sp_of) 89 = .ok (.iload_n 1, 1) := by decide +kernel
theorem d_Sp_of_90 : decode (am_c m_Sp_of) 90 = .ok (.invokevirtual 195, 3) := by decide +kernel
theorem d_Sp_of_93 : decode (am_c m_Sp_of) 93 = .ok (.ireturn, 1) := by decide +kernel
theorem d_Sp_of_94 : decode (am_c m_Sp_of) 94 = .ok (.aload_n 0, 1) := by decide +kernel
theorem d_Sp_of_95 : decode (am_c m_Sp_of) 95 = .ok (.getfield 28, 3) := by decide +kernel
theorem d_Sp_of_98 : decode (am_c m_Sp_of) 98 = .ok (.iload_n 1, 1) := by decide +kernel
theorem d_Sp_of_99 : decode (am_c m_Sp_of) 99 = .ok (.invokevirtual 198, 3) := by decide +kernel
theorem d_Sp_of_102 : decode (am_c m_Sp_of) 102 = .ok (.ireturn, 1) := by decide +kernel
theorem d_Sp_of_103 : decode (am_c m_Sp_of) 103 = .ok (.aload_n 0, 1) := by decide +kernel
theorem d_Sp_of_104 : decode (am_c m_Sp_of) 104 = .ok (.getfield 22, 3) := by decide +kernel
theorem d_Sp_of_107 : decode (am_c m_Sp_of) 107 = .ok (.aload_n 0, 1) := by decide +kernel
theorem d_Sp_of_108 : decode (am_c m_Sp_of) 108 = .ok (.getfield 28, 3) := by decide +kernel
theorem d_Sp_of_111 : decode (am_c m_Sp_of) 111 = .ok (.iload_n 1, 1) := by decide +kernel
theorem d_Sp_of_112 : decode (am_c m_Sp_of) 112 = .ok (.invokevirtual 204, 3) := by decide +kernel
theorem d_Sp_of_115 : decode (am_c m_Sp_of) 115 = .ok (.aload_n 0, 1) := by decide +kernel
theorem d_Sp_of_116 : decode (am_c m_Sp_of) 116 = .ok (.getfield 28, 3) := by decide +kernel
theorem d_Sp_of_119 : decode (am_c m_Sp_of) 119 = .ok (.getfield 207, 3) := by decide +kernel
theorem d_Sp_of_122 : decode (am_c m_Sp_of) 122 = .ok (.iload_n 1, 1) := by decide +kernel
theorem d_Sp_of_123 : decode (am_c m_Sp_of) 123 = .ok (.iaload, 1) := by decide +kernel
theorem d_Sp_of_124 : decode (am_c m_Sp_of) 124 = .ok (.invokevirtual 129, 3) := by decide +kernel
theorem d_Sp_of_127 : decode (am_c m_Sp_of) 127 = .ok (.aload_n 0, 1) := by decide +kernel
theorem d_Sp_of_128 : decode (am_c m_Sp_of) 128 = .ok (.getfield 22, 3) := by decide +kernel
theorem d_Sp_of_131 : decode (am_c m_Sp_of) 131 = .ok (.aload_n 0, 1) := by decide +kernel
theorem d_Sp_of_132 : decode (am_c m_Sp_of) 132 = .ok (.getfield 28, 3) := by decide +kernel
theorem d_Sp_of_135 : decode (am_c m_Sp_of) 135 = .ok (.iload_n 1, 1) := by decide +kernel
theorem d_Sp_of_136 : decode (am_c m_Sp_of) 136 = .ok (.invokevirtual 210, 3) := by decide +kernel
theorem d_Sp_of_139 : decode (am_c m_Sp_of) 139 = .ok (.invokevirtual 135, 3) := by decide +kernel
theorem d_Sp_of_142 : decode (am_c m_Sp_of) 142 = .ok (.aload_n 0, 1) := by decide +kernel
theorem d_Sp_of_143 : decode (am_c m_Sp_of) 143 = .ok (.getfield 22, 3) := by decide +kernel
theorem d_Sp_of_146 : decode (am_c m_Sp_of) 146 = .ok (.getfield 139, 3) := by decide +kernel
theorem d_Sp_of_149 : decode (am_c m_Sp_of) 149 = .ok (.ireturn, 1) := by decide +kernel
theorem d_Sp_of_150 : decode (am_c m_Sp_of) 150 = .ok (.bipush (-3), 2) := by decide +kernel
theorem d_Sp_of_152 : decode (am_c m_Sp_of) 152 = .ok (.ireturn, 1) := by decide +kernel
theorem d_Sp_missedBy_0 : decode (am_c m_Sp_missedBy) 0 = .ok (.iconst 0, 1) := by decide +kernel
theorem d_Sp_missedBy_1 : decode (am_c m_Sp_missedBy) 1 = .ok (.iload_n 1, 1) := by decide +kernel
theorem d_Sp_missedBy_2 : decode (am_c m_Sp_missedBy) 2 = .ok (.iload_n 0, 1) := by decide +kernel
theorem d_Sp_missedBy_3 : decode (am_c m_Sp_missedBy) 3 = .ok (.isub, 1) := by decide +kernel
theorem d_Sp_missedBy_4 : decode (am_c m_Sp_missedBy) 4 = .ok (.iload_n 0, 1) := by decide +kernel
theorem d_Sp_missedBy_5 : decode (am_c m_Sp_missedBy) 5 = .ok (.iload_n 2, 1) := by decide +kernel
theorem d_Sp_missedBy_6 : decode (am_c m_Sp_missedBy) 6 = .ok (.isub, 1) := by decide +kernel
theorem d_Sp_missedBy_7 : decode (am_c m_Sp_missedBy) 7 = .ok (.invokestatic 349, 3) := by decide +kernel
theorem d_Sp_missedBy_10 : decode (am_c m_Sp_missedBy) 10 = .ok (.invokestatic 349, 3) := by decide +kernel
theorem d_Sp_missedBy_13 : decode (am_c m_Sp_missedBy) 13 = .ok (.ireturn, 1) := by decide +kernel
theorem d_Sp_misfit_0 : decode (am_c m_Sp_misfit) 0 = .ok (.iload_n 1, 1) := by decide +kernel
theorem d_Sp_misfit_1 : decode (am_c m_Sp_misfit) 1 = .ok (.iconst 0, 1) := by decide +kernel
theorem d_Sp_misfit_2 : decode (am_c m_Sp_misfit) 2 = .ok (.aload_n 0, 1) := by decide +kernel
theorem d_Sp_misfit_3 : decode (am_c m_Sp_misfit) 3 = .ok (.getfield 28, 3) := by decide +kernel
theorem d_Sp_misfit_6 : decode (am_c m_Sp_misfit) 6 = .ok (.getfield 189, 3) := by decide +kernel
theorem d_Sp_misfit_9 : decode (am_c m_Sp_misfit) 9 = .ok (.invokestatic 82, 3) := by decide +kernel
theorem d_Sp_misfit_12 : decode (am_c m_Sp_misfit) 12 = .ok (.ifCond .eq 12, 3) := by decide +kernel
theorem d_Sp_misfit_15 : decode (am_c m_Sp_misfit) 15 = .ok (.iload_n 2, 1) := by decide +kernel
theorem d_Sp_misfit_16 : decode (am_c m_Sp_misfit) 16 = .ok (.iconst 0, 1) := by decide +kernel
theorem d_Sp_misfit_17 : decode (am_c m_Sp_misfit) 17 = .ok (.iconst 1, 1) := by decide +kernel
theorem d_Sp_misfit_18 : decode (am_c m_Sp_misfit) 18 = .ok (.invokestatic 82, 3) := by decide +kernel
theorem d_Sp_misfit_21 : decode (am_c m_Sp_misfit) 21 = .ok (.ifCond .ne 6, 3) := by decide +kernel
theorem d_Sp_misfit_24 : decode (am_c m_Sp_misfit) 24 = .ok (.bipush (-3), 2) := by decide +kernel
theorem d_Sp_misfit_26 : decode (am_c m_Sp_misfit) 26 = .ok (.ireturn, 1) := by decide +kernel
theorem d_Sp_misfit_27 : decode (am_c m_Sp_misfit) 27 = .ok (.iconst 0, 1) := by decide +kernel
theorem d_Sp_misfit_28 : decode (am_c m_Sp_misfit) 28 = .ok (.istore_n 3, 1) := by decide +kernel
theorem d_Sp_misfit_29 : decode (am_c m_Sp_misfit) 29 = .ok (.iconst 0, 1) := by decide +kernel
theorem d_Sp_misfit_30 : decode (am_c m_Sp_misfit) 30 = .ok (.istore 4, 2) := by decide +kernel
theorem d_Sp_misfit_32 : decode (am_c m_Sp_misfit) 32 = .ok (.iconst 0, 1) := by decide +kernel
theorem d_Sp_misfit_33 : decode (am_c m_Sp_misfit) 33 = .ok (.istore 5, 2) := by decide +kernel
theorem d_Sp_misfit_35 : decode (am_c m_Sp_misfit) 35 = .ok (.iload 5, 2) := by decide +kernel
theorem d_Sp_misfit_37 : decode (am_c m_Sp_misfit) 37 = .ok (.aload_n 0, 1) := by decide +kernel
theorem d_Sp_misfit_38 : decode (am_c m_Sp_misfit) 38 = .ok (.getfield 28, 3) := by decide +kernel
theorem d_Sp_misfit_41 : decode (am_c m_Sp_misfit) 41 = .ok (.getfield 173, 3) := by decide +kernel
theorem d_Sp_misfit_44 : decode (am_c m_Sp_misfit) 44 = .ok (.if_icmp .ge 80, 3) := by decide +kernel
theorem d_Sp_misfit_47 : decode (am_c m_Sp_misfit) 47 = .ok (.aload_n 0, 1) := by decide +kernel
theorem d_Sp_misfit_48 : decode (am_c m_Sp_misfit) 48 = .ok (.getfield 28, 3) := by decide +kernel
theorem d_Sp_misfit_51 : decode (am_c m_Sp_misfit) 51 = .ok (.iload 5, 2) := by decide +kernel
theorem d_Sp_misfit_53 : decode (am_c m_Sp_misfit) 53 = .ok (.iload_n 1, 1) := by decide +kernel
theorem d_Sp_misfit_54 : decode (am_c m_Sp_misfit) 54 = .ok (.invokevirtual 213, 3) := by decide +kernel
theorem d_Sp_misfit_57 : decode (am_c m_Sp_misfit) 57 = .ok (.istore 6, 2) := by decide +kernel
theorem d_Sp_misfit_59 : decode (am_c m_Sp_misfit) 59 = .ok (.iload 6, 2) := by decide +kernel
theorem d_Sp_misfit_61 : decode (am_c m_Sp_misfit) 61 = .ok (.ifCond .lt 57, 3) := by decide +kernel
theorem d_Sp_misfit_64 : decode (am_c m_Sp_misfit) 64 = .ok (.aload_n 0, 1) := by decide +kernel
theorem d_Sp_misfit_65 : decode (am_c m_Sp_misfit) 65 = .ok (.getfield 39, 3) := by decide +kernel
theorem d_Sp_misfit_68 : decode (am_c m_Sp_misfit) 68 = .ok (.iload 5, 2) := by decide +kernel
theorem d_Sp_misfit_70 : decode (am_c m_Sp_misfit) 70 = .ok (.invokevirtual 192, 3) := by decide +kernel
theorem d_Sp_misfit_73 : decode (am_c m_Sp_misfit) 73 = .ok (.aload_n 0, 1) := by decide +kernel
theorem d_Sp_misfit_74 : decode (am_c m_Sp_misfit) 74 = .ok (.getfield 28, 3) := by decide +kernel
theorem d_Sp_misfit_77 : decode (am_c m_Sp_misfit) 77 = .ok (.getfield 216, 3) := by decide +kernel
theorem d_Sp_misfit_80 : decode (am_c m_Sp_misfit) 80 = .ok (.iload 6, 2) := by decide +kernel
theorem d_Sp_misfit_82 : decode (am_c m_Sp_misfit) 82 = .ok (.iaload, 1) := by decide +kernel
theorem d_Sp_misfit_83 : decode (am_c m_Sp_misfit) 83 = .ok (.aload_n 0, 1) := by decide +kernel
theorem d_Sp_misfit_84 : decode (am_c m_Sp_misfit) 84 = .ok (.getfield 28, 3) := by decide +kernel
theorem d_Sp_misfit_87 : decode (am_c m_Sp_misfit) 87 = .ok (.getfield 219, 3) := by decide +kernel
theorem d_Sp_misfit_90 : decode (am_c m_Sp_misfit) 90 = .ok (.iload 6, 2) := by decide +kernel
theorem d_Sp_misfit_92 : decode (am_c m_Sp_misfit) 92 = .ok (.iaload, 1) := by decide +kernel
theorem d_Sp_misfit_93 : decode (am_c m_Sp_misfit) 93 = .ok (.invokestatic 201, 3) := by decide +kernel
theorem d_Sp_misfit_96 : decode (am_c m_Sp_misfit) 96 = .ok (.istore 7, 2) := by decide +kernel
theorem d_Sp_misfit_98 : decode (am_c m_Sp_misfit) 98 = .ok (.iload_n 3, 1) := by decide +kernel
theorem d_Sp_misfit_99 : decode (am_c m_Sp_misfit) 99 = .ok (.iload 7, 2) := by decide +kernel
theorem d_Sp_misfit_101 : decode (am_c m_Sp_misfit) 101 = .ok (.iadd, 1) := by decide +kernel
theorem d_Sp_misfit_102 : decode (am_c m_Sp_misfit) 102 = .ok (.istore_n 3, 1) := by decide +kernel
theorem d_Sp_misfit_103 : decode (am_c m_Sp_misfit) 103 = .ok (.iload 4, 2) := by decide +kernel
theorem d_Sp_misfit_105 : decode (am_c m_Sp_misfit) 105 = .ok (.iload 7, 2) := by decide +kernel
theorem d_Sp_misfit_107 : decode (am_c m_Sp_misfit) 107 = .ok (.ifCond .ne 7, 3) := by decide +kernel
theorem d_Sp_misfit_110 : decode (am_c m_Sp_misfit) 110 = .ok (.iconst 1, 1) := by decide +kernel
theorem d_Sp_misfit_111 : decode (am_c m_Sp_misfit) 111 = .ok (.goto 4, 3) := by decide +kernel
theorem d_Sp_misfit_114 : decode (am_c m_Sp_misfit) 114 = .ok (.iconst 0, 1) := by decide +kernel
theorem d_Sp_misfit_115 : decode (am_c m_Sp_misfit) 115 = .ok (.iadd, 1) := by decide +kernel
theorem d_Sp_misfit_116 : decode (am_c m_Sp_misfit) 116 = .ok (.istore 4, 2) := by decide +kernel
theorem d_Sp_misfit_118 : decode (am_c m_Sp_misfit) 118 = .ok (.iinc 5 1, 3) := by decide +kernel
theorem d_Sp_misfit_121 : decode (am_c m_Sp_misfit) 121 = .ok (.goto (-86), 3) := by decide +kernel
theorem d_Sp_misfit_124 : decode (am_c m_Sp_misfit) 124 = .ok (.iload_n 2, 1) := by decide +kernel
theorem d_Sp_misfit_125 : decode (am_c m_Sp_misfit) 125 = .ok (.ifCond .ne 7, 3) := by decide +kernel
theorem d_Sp_misfit_128 : decode (am_c m_Sp_misfit) 128 = .ok (.iload_n 3, 1) := by decide +kernel
theorem d_Sp_misfit_129 : decode (am_c m_Sp_misfit) 129 = .ok (.goto 5, 3) := by decide +kernel
theorem d_Sp_misfit_132 : decode (am_c m_Sp_misfit) 132 = .ok (.iload 4, 2) := by decide +kernel
theorem d_Sp_misfit_134 : decode (am_c m_Sp_misfit) 134 = .ok (.ireturn, 1) := by decide +kernel
theorem d_Sp_fit_0 : decode (am_c m_Sp_fit) 0 = .ok (.iload_n 1, 1) := by decide +kernel
theorem d_Sp_fit_1 : decode (am_c m_Sp_fit) 1 = .ok (.iconst 1, 1) := by decide +kernel
theorem d_Sp_fit_2 : decode (am_c m_Sp_fit) 2 = .ok (.bipush 10, 2) := by decide +kernel
theorem d_Sp_fit_4 : decode (am_c m_Sp_fit) 4 = .ok (.invokestatic 82, 3) := by decide +kernel
theorem d_Sp_fit_7 : decode (am_c m_Sp_fit) 7 = .ok (.ifCond .ne 6, 3) := by decide +kernel
theorem d_Sp_fit_10 : decode (am_c m_Sp_fit) 10 = .ok (.bipush (-3), 2) := by decide +kernel
theorem d_Sp_fit_12 : decode (am_c m_Sp_fit) 12 = .ok (.ireturn, 1) := by decide +kernel
theorem d_Sp_fit_13 : decode (am_c m_Sp_fit) 13 = .ok (.aload_n 0, 1) := by decide +kernel
theorem d_Sp_fit_14 : decode (am_c m_Sp_fit) 14 = .ok (.getfield 39, 3) := by decide +kernel
theorem d_Sp_fit_17 : decode (am_c m_Sp_fit) 17 = .ok (.invokevirtual 222, 3) := by decide +kernel
theorem d_Sp_fit_20 : decode (am_c m_Sp_fit) 20 = .ok (.aload_n 0, 1) := by decide +kernel
theorem d_Sp_fit_21 : decode (am_c m_Sp_fit) 21 = .ok (.getfield 39, 3) := by decide +kernel
theorem d_Sp_fit_24 : decode (am_c m_Sp_fit) 24 = .ok (.iload_n 1, 1) := by decide +kernel
theorem d_Sp_fit_25 : decode (am_c m_Sp_fit) 25 = .ok (.invokevirtual 225, 3) := by decide +kernel
theorem d_Sp_fit_28 : decode (am_c m_Sp_fit) 28 = .ok (.ireturn, 1) := by decide +kernel
theorem d_Sp_span_0 : decode (am_c m_Sp_span) 0 = .ok (.aload_n 0, 1) := by decide +kernel
theorem d_Sp_span_1 : decode (am_c m_Sp_span) 1 = .ok (.iload_n 1, 1) := by decide +kernel
theorem d_Sp_span_2 : decode (am_c m_Sp_span) 2 = .ok (.invokevirtual 96, 3) := by decide +kernel
theorem d_Sp_span_5 : decode (am_c m_Sp_span) 5 = .ok (.ifCond .ne 6, 3) := by decide +kernel
theorem d_Sp_span_8 : decode (am_c m_Sp_span) 8 = .ok (.bipush (-2), 2) := by decide +kernel
theorem d_Sp_span_10 : decode (am_c m_Sp_span) 10 = .ok (.ireturn, 1) := by decide +kernel
theorem d_Sp_span_11 : decode (am_c m_Sp_span) 11 = .ok (.iload_n 2, 1) := by decide +kernel
theorem d_Sp_span_12 : decode (am_c m_Sp_span) 12 = .ok (.iconst 0, 1) := by decide +kernel
theorem d_Sp_span_13 : decode (am_c m_Sp_span) 13 = .ok (.iconst 1, 1) := by decide +kernel
theorem d_Sp_span_14 : decode (am_c m_Sp_span) 14 = .ok (.invokestatic 82, 3) := by decide +kernel
theorem d_Sp_span_17 : decode (am_c m_Sp_span) 17 = .ok (.ifCond .ne 6, 3) := by decide +kernel
theorem d_Sp_span_20 : decode (am_c m_Sp_span) 20 = .ok (.bipush (-3), 2) := by decide +kernel
theorem d_Sp_span_22 : decode (am_c m_Sp_span) 22 = .ok (.ireturn, 1) := by decide +kernel
theorem d_Sp_span_23 : decode (am_c m_Sp_span) 23 = .ok (.aload_n 0, 1) := by decide +kernel
theorem d_Sp_span_24 : decode (am_c m_Sp_span) 24 = .ok (.getfield 32, 3) := by decide +kernel
theorem d_Sp_span_27 : decode (am_c m_Sp_span) 27 = .ok (.invokevirtual 228, 3) := by decide +kernel
theorem d_Sp_span_30 : decode (am_c m_Sp_span) 30 = .ok (.aload_n 0, 1) := by decide +kernel
theorem d_Sp_span_31 : decode (am_c m_Sp_span) 31 = .ok (.getfield 48, 3) := by decide +kernel
theorem d_Sp_span_34 : decode (am_c m_Sp_span) 34 = .ok (.invokevirtual 231, 3) := by decide +kernel
theorem d_Sp_span_37 : decode (am_c m_Sp_span) 37 = .ok (.aload_n 0, 1) := by decide +kernel
theorem d_Sp_span_38 : decode (am_c m_Sp_span) 38 = .ok (.getfield 48, 3) := by decide +kernel
theorem d_Sp_span_41 : decode (am_c m_Sp_span) 41 = .ok (.aload_n 0, 1) := by decide +kernel
theorem d_Sp_span_42 : decode (am_c m_Sp_span) 42 = .ok (.getfield 32, 3) := by decide +kernel
theorem d_Sp_span_45 : decode (am_c m_Sp_span) 45 = .ok (.invokevirtual 234, 3) := by decide +kernel
theorem d_Sp_span_48 : decode (am_c m_Sp_span) 48 = .ok (.invokevirtual 237, 3) := by decide +kernel
theorem d_Sp_span_51 : decode (am_c m_Sp_span) 51 = .ok (.ifCond .eq 5, 3) := by decide +kernel
theorem d_Sp_span_54 : decode (am_c m_Sp_span) 54 = .ok (.iconst (-1), 1) := by decide +kernel
theorem d_Sp_span_55 : decode (am_c m_Sp_span) 55 = .ok (.ireturn, 1) := by decide +kernel
theorem d_Sp_span_56 : decode (am_c m_Sp_span) 56 = .ok (.iload_n 2, 1) := by decide +kernel
theorem d_Sp_span_57 : decode (am_c m_Sp_span) 57 = .ok (.ifCond .ne 15, 3) := by decide +kernel
theorem d_Sp_span_60 : decode (am_c m_Sp_span) 60 = .ok (.aload_n 0, 1) := by decide +kernel
theorem d_Sp_span_61 : decode (am_c m_Sp_span) 61 = .ok (.getfield 48, 3) := by decide +kernel
theorem d_Sp_span_64 : decode (am_c m_Sp_span) 64 = .ok (.getfield 240, 3) := by decide +kernel
theorem d_Sp_span_67 : decode (am_c m_Sp_span) 67 = .ok (.iload_n 1, 1) := by decide +kernel
theorem d_Sp_span_68 : decode (am_c m_Sp_span) 68 = .ok (.iaload, 1) := by decide +kernel
theorem d_Sp_span_69 : decode (am_c m_Sp_span) 69 = .ok (.goto 12, 3) := by decide +kernel
theorem d_Sp_span_72 : decode (am_c m_Sp_span) 72 = .ok (.aload_n 0, 1) := by decide +kernel
theorem d_Sp_span_73 : decode (am_c m_Sp_span) 73 = .ok (.getfield 48, 3) := by decide +kernel
theorem d_Sp_span_76 : decode (am_c m_Sp_span) 76 = .ok (.getfield 243, 3) := by decide +kernel
theorem d_Sp_span_79 : decode (am_c m_Sp_span) 79 = .ok (.iload_n 1, 1) := by decide +kernel
theorem d_Sp_span_80 : decode (am_c m_Sp_span) 80 = .ok (.iaload, 1) := by decide +kernel
theorem d_Sp_span_81 : decode (am_c m_Sp_span) 81 = .ok (.ireturn, 1) := by decide +kernel
theorem d_Sp_quarrel_0 : decode (am_c m_Sp_quarrel) 0 = .ok (.aload_n 0, 1) := by decide +kernel
theorem d_Sp_quarrel_1 : decode (am_c m_Sp_quarrel) 1 = .ok (.getfield 32, 3) := by decide +kernel
theorem d_Sp_quarrel_4 : decode (am_c m_Sp_quarrel) 4 = .ok (.invokevirtual 228, 3) := by decide +kernel
theorem d_Sp_quarrel_7 : decode (am_c m_Sp_quarrel) 7 = .ok (.aload_n 0, 1) := by decide +kernel
theorem d_Sp_quarrel_8 : decode (am_c m_Sp_quarrel) 8 = .ok (.getfield 48, 3) := by decide +kernel
theorem d_Sp_quarrel_11 : decode (am_c m_Sp_quarrel) 11 = .ok (.invokevirtual 231, 3) := by decide +kernel
theorem d_Sp_quarrel_14 : decode (am_c m_Sp_quarrel) 14 = .ok (.aload_n 0, 1) := by decide +kernel
theorem d_Sp_quarrel_15 : decode (am_c m_Sp_quarrel) 15 = .ok (.getfield 32, 3) := by decide +kernel
theorem d_Sp_quarrel_18 : decode (am_c m_Sp_quarrel) 18 = .ok (.aload_n 0, 1) := by decide +kernel
theorem d_Sp_quarrel_19 : decode (am_c m_Sp_quarrel) 19 = .ok (.getfield 48, 3) := by decide +kernel
theorem d_Sp_quarrel_22 : decode (am_c m_Sp_quarrel) 22 = .ok (.invokevirtual 246, 3) := by decide +kernel
theorem d_Sp_quarrel_25 : decode (am_c m_Sp_quarrel) 25 = .ok (.invokevirtual 249, 3) := by decide +kernel
theorem d_Sp_quarrel_28 : decode (am_c m_Sp_quarrel) 28 = .ok (.ireturn, 1) := by decide +kernel
theorem d_Sp_rank_0 : decode (am_c m_Sp_rank) 0 = .ok (.aload_n 0, 1) := by decide +kernel
theorem d_Sp_rank_1 : decode (am_c m_Sp_rank) 1 = .ok (.getfield 32, 3) := by decide +kernel
theorem d_Sp_rank_4 : decode (am_c m_Sp_rank) 4 = .ok (.invokevirtual 228, 3) := by decide +kernel
theorem d_Sp_rank_7 : decode (am_c m_Sp_rank) 7 = .ok (.aload_n 0, 1) := by decide +kernel
theorem d_Sp_rank_8 : decode (am_c m_Sp_rank) 8 = .ok (.getfield 57, 3) := by decide +kernel
theorem d_Sp_rank_11 : decode (am_c m_Sp_rank) 11 = .ok (.invokevirtual 252, 3) := by decide +kernel
theorem d_Sp_rank_14 : decode (am_c m_Sp_rank) 14 = .ok (.aload_n 0, 1) := by decide +kernel
theorem d_Sp_rank_15 : decode (am_c m_Sp_rank) 15 = .ok (.getfield 57, 3) := by decide +kernel
theorem d_Sp_rank_18 : decode (am_c m_Sp_rank) 18 = .ok (.getfield 255, 3) := by decide +kernel
theorem d_Sp_rank_21 : decode (am_c m_Sp_rank) 21 = .ok (.getfield 259, 3) := by decide +kernel
theorem d_Sp_rank_24 : decode (am_c m_Sp_rank) 24 = .ok (.ireturn, 1) := by decide +kernel
theorem d_Sp_resolved_0 : decode (am_c m_Sp_resolved) 0 = .ok (.aload_n 0, 1) := by decide +kernel
theorem d_Sp_resolved_1 : decode (am_c m_Sp_resolved) 1 = .ok (.iload_n 1, 1) := by decide +kernel
theorem d_Sp_resolved_2 : decode (am_c m_Sp_resolved) 2 = .ok (.invokevirtual 96, 3) := by decide +kernel
theorem d_Sp_resolved_5 : decode (am_c m_Sp_resolved) 5 = .ok (.ifCond .ne 6, 3) := by decide +kernel
theorem d_Sp_resolved_8 : decode (am_c m_Sp_resolved) 8 = .ok (.bipush (-2), 2) := by decide +kernel
theorem d_Sp_resolved_10 : decode (am_c m_Sp_resolved) 10 = .ok (.ireturn, 1) := by decide +kernel
theorem d_Sp_resolved_11 : decode (am_c m_Sp_resolved) 11 = .ok (.aload_n 0, 1) := by decide +kernel
theorem d_Sp_resolved_12 : decode (am_c m_Sp_resolved) 12 = .ok (.getfield 22, 3) := by decide +kernel
theorem d_Sp_resolved_15 : decode (am_c m_Sp_resolved) 15 = .ok (.iload_n 1, 1) := by decide +kernel
theorem d_Sp_resolved_16 : decode (am_c m_Sp_resolved) 16 = .ok (.invokevirtual 116, 3) := by decide +kernel
theorem d_Sp_resolved_19 : decode (am_c m_Sp_resolved) 19 = .ok (.ifCond .ne 5, 3) := by decide +kernel
theorem d_Sp_resolved_22 : decode (am_c m_Sp_resolved) 22 = .ok (.iconst (-1), 1) := by decide +kernel
theorem d_Sp_resolved_23 : decode (am_c m_Sp_resolved) 23 = .ok (.ireturn, 1) := by decide +kernel
theorem d_Sp_resolved_24 : decode (am_c m_Sp_resolved) 24 = .ok (.aload_n 0, 1) := by decide +kernel
theorem d_Sp_resolved_25 : decode (am_c m_Sp_resolved) 25 = .ok (.getfield 32, 3) := by decide +kernel
theorem d_Sp_resolved_28 : decode (am_c m_Sp_resolved) 28 = .ok (.invokevirtual 228, 3) := by decide +kernel
theorem d_Sp_resolved_31 : decode (am_c m_Sp_resolved) 31 = .ok (.aload_n 0, 1) := by decide +kernel
theorem d_Sp_resolved_32 : decode (am_c m_Sp_resolved) 32 = .ok (.getfield 57, 3) := by decide +kernel
theorem d_Sp_resolved_35 : decode (am_c m_Sp_resolved) 35 = .ok (.invokevirtual 252, 3) := by decide +kernel
theorem d_Sp_resolved_38 : decode (am_c m_Sp_resolved) 38 = .ok (.aload_n 0, 1) := by decide +kernel
theorem d_Sp_resolved_39 : decode (am_c m_Sp_resolved) 39 = .ok (.getfield 57, 3) := by decide +kernel
theorem d_Sp_resolved_42 : decode (am_c m_Sp_resolved) 42 = .ok (.getfield 255, 3) := by decide +kernel
theorem d_Sp_resolved_45 : decode (am_c m_Sp_resolved) 45 = .ok (.iload_n 1, 1) := by decide +kernel
theorem d_Sp_resolved_46 : decode (am_c m_Sp_resolved) 46 = .ok (.invokevirtual 264, 3) := by decide +kernel
theorem d_Sp_resolved_49 : decode (am_c m_Sp_resolved) 49 = .ok (.ifCond .eq 5, 3) := by decide +kernel
theorem d_Sp_resolved_52 : decode (am_c m_Sp_resolved) 52 = .ok (.iconst 2, 1) := by decide +kernel
theorem d_Sp_resolved_53 : decode (am_c m_Sp_resolved) 53 = .ok (.ireturn, 1) := by decide +kernel
theorem d_Sp_resolved_54 : decode (am_c m_Sp_resolved) 54 = .ok (.aload_n 0, 1) := by decide +kernel
theorem d_Sp_resolved_55 : decode (am_c m_Sp_resolved) 55 = .ok (.getfield 32, 3) := by decide +kernel
theorem d_Sp_resolved_58 : decode (am_c m_Sp_resolved) 58 = .ok (.iload_n 1, 1) := by decide +kernel
theorem d_Sp_resolved_59 : decode (am_c m_Sp_resolved) 59 = .ok (.invokevirtual 267, 3) := by decide +kernel
theorem d_Sp_resolved_62 : decode (am_c m_Sp_resolved) 62 = .ok (.ifCond .eq 7, 3) := by decide +kernel
theorem d_Sp_resolved_65 : decode (am_c m_Sp_resolved) 65 = .ok (.iconst 1, 1) := by decide +kernel
theorem d_Sp_resolved_66 : decode (am_c m_Sp_resolved) 66 = .ok (.goto 4, 3) := by decide +kernel
theorem d_Sp_resolved_69 : decode (am_c m_Sp_resolved) 69 = .ok (.iconst 0, 1) := by decide +kernel
theorem d_Sp_resolved_70 : decode (am_c m_Sp_resolved) 70 = .ok (.ireturn, 1) := by decide +kernel
theorem d_Sp_best_0 : decode (am_c m_Sp_best) 0 = .ok (.iload_n 1, 1) := by decide +kernel
theorem d_Sp_best_1 : decode (am_c m_Sp_best) 1 = .ok (.iconst 0, 1) := by decide +kernel
theorem d_Sp_best_2 : decode (am_c m_Sp_best) 2 = .ok (.iconst 1, 1) := by decide +kernel
theorem d_Sp_best_3 : decode (am_c m_Sp_best) 3 = .ok (.invokestatic 82, 3) := by decide +kernel
theorem d_Sp_best_6 : decode (am_c m_Sp_best) 6 = .ok (.ifCond .ne 6, 3) := by decide +kernel
theorem d_Sp_best_9 : decode (am_c m_Sp_best) 9 = .ok (.bipush (-3), 2) := by decide +kernel
theorem d_Sp_best_11 : decode (am_c m_Sp_best) 11 = .ok (.ireturn, 1) := by decide +kernel
theorem d_Sp_best_12 : decode (am_c m_Sp_best) 12 = .ok (.aload_n 0, 1) := by decide +kernel
theorem d_Sp_best_13 : decode (am_c m_Sp_best) 13 = .ok (.getfield 28, 3) := by decide +kernel
theorem d_Sp_best_16 : decode (am_c m_Sp_best) 16 = .ok (.getfield 157, 3) := by decide +kernel
theorem d_Sp_best_19 : decode (am_c m_Sp_best) 19 = .ok (.ifCond .ne 6, 3) := by decide +kernel
theorem d_Sp_best_22 : decode (am_c m_Sp_best) 22 = .ok (.bipush (-4), 2) := by decide +kernel
theorem d_Sp_best_24 : decode (am_c m_Sp_best) 24 = .ok (.ireturn, 1) := by decide +kernel
theorem d_Sp_best_25 : decode (am_c m_Sp_best) 25 = .ok (.aload_n 0, 1) := by decide +kernel
theorem d_Sp_best_26 : decode (am_c m_Sp_best) 26 = .ok (.getfield 32, 3) := by decide +kernel
theorem d_Sp_best_29 : decode (am_c m_Sp_best) 29 = .ok (.invokevirtual 228, 3) := by decide +kernel
theorem d_Sp_best_32 : decode (am_c m_Sp_best) 32 = .ok (.aload_n 0, 1) := by decide +kernel
theorem d_Sp_best_33 : decode (am_c m_Sp_best) 33 = .ok (.getfield 57, 3) := by decide +kernel
theorem d_Sp_best_36 : decode (am_c m_Sp_best) 36 = .ok (.invokevirtual 252, 3) := by decide +kernel
theorem d_Sp_best_39 : decode (am_c m_Sp_best) 39 = .ok (.aload_n 0, 1) := by decide +kernel
theorem d_Sp_best_40 : decode (am_c m_Sp_best) 40 = .ok (.getfield 57, 3) := by decide +kernel
theorem d_Sp_best_43 : decode (am_c m_Sp_best) 43 = .ok (.invokevirtual 270, 3) := by decide +kernel
theorem d_Sp_best_46 : decode (am_c m_Sp_best) 46 = .ok (.iload_n 1, 1) := by decide +kernel
theorem d_Sp_best_47 : decode (am_c m_Sp_best) 47 = .ok (.ifCond .ne 13, 3) := by decide +kernel
theorem d_Sp_best_50 : decode (am_c m_Sp_best) 50 = .ok (.aload_n 0, 1) := by decide +kernel
theorem d_Sp_best_51 : decode (am_c m_Sp_best) 51 = .ok (.getfield 57, 3) := by decide +kernel
theorem d_Sp_best_54 : decode (am_c m_Sp_best) 54 = .ok (.getfield 273, 3) := by decide +kernel
theorem d_Sp_best_57 : decode (am_c m_Sp_best) 57 = .ok (.goto 10, 3) := by decide +kernel
theorem d_Sp_best_60 : decode (am_c m_Sp_best) 60 = .ok (.aload_n 0, 1) := by decide +kernel
theorem d_Sp_best_61 : decode (am_c m_Sp_best) 61 = .ok (.getfield 57, 3) := by decide +kernel
theorem d_Sp_best_64 : decode (am_c m_Sp_best) 64 = .ok (.getfield 276, 3) := by decide +kernel
theorem d_Sp_best_67 : decode (am_c m_Sp_best) 67 = .ok (.ireturn, 1) := by decide +kernel
theorem d_Sp_heap_0 : decode (am_c m_Sp_heap) 0 = .ok (.aload_n 0, 1) := by decide +kernel
theorem d_Sp_heap_1 : decode (am_c m_Sp_heap) 1 = .ok (.iload_n 1, 1) := by decide +kernel
theorem d_Sp_heap_2 : decode (am_c m_Sp_heap) 2 = .ok (.invokevirtual 163, 3) := by decide +kernel
theorem d_Sp_heap_5 : decode (am_c m_Sp_heap) 5 = .ok (.ifCond .eq 11, 3) := by decide +kernel
theorem d_Sp_heap_8 : decode (am_c m_Sp_heap) 8 = .ok (.aload_n 0, 1) := by decide +kernel
theorem d_Sp_heap_9 : decode (am_c m_Sp_heap) 9 = .ok (.iload_n 2, 1) := by decide +kernel
theorem d_Sp_heap_10 : decode (am_c m_Sp_heap) 10 = .ok (.invokevirtual 120, 3) := by decide +kernel
theorem d_Sp_heap_13 : decode (am_c m_Sp_heap) 13 = .ok (.ifCond .ne 6, 3) := by decide +kernel
theorem d_Sp_heap_16 : decode (am_c m_Sp_heap) 16 = .ok (.bipush (-2), 2) := by decide +kernel
theorem d_Sp_heap_18 : decode (am_c m_Sp_heap) 18 = .ok (.ireturn, 1) := by decide +kernel
theorem d_Sp_heap_19 : decode (am_c m_Sp_heap) 19 = .ok (.iload_n 3, 1) := by decide +kernel
theorem d_Sp_heap_20 : decode (am_c m_Sp_heap) 20 = .ok (.iconst 0, 1) := by decide +kernel
theorem d_Sp_heap_21 : decode (am_c m_Sp_heap) 21 = .ok (.iconst 1, 1) := by decide +kernel
theorem d_Sp_heap_22 : decode (am_c m_Sp_heap) 22 = .ok (.invokestatic 82, 3) := by decide +kernel
theorem d_Sp_heap_25 : decode (am_c m_Sp_heap) 25 = .ok (.ifCond .ne 6, 3) := by decide +kernel
theorem d_Sp_heap_28 : decode (am_c m_Sp_heap) 28 = .ok (.bipush (-3), 2) := by decide +kernel
theorem d_Sp_heap_30 : decode (am_c m_Sp_heap) 30 = .ok (.ireturn, 1) := by decide +kernel
theorem d_Sp_heap_31 : decode (am_c m_Sp_heap) 31 = .ok (.aload_n 0, 1) := by decide +kernel
theorem d_Sp_heap_32 : decode (am_c m_Sp_heap) 32 = .ok (.getfield 64, 3) := by decide +kernel
theorem d_Sp_heap_35 : decode (am_c m_Sp_heap) 35 = .ok (.iload_n 1, 1) := by decide +kernel
theorem d_Sp_heap_36 : decode (am_c m_Sp_heap) 36 = .ok (.iload_n 2, 1) := by decide +kernel
theorem d_Sp_heap_37 : decode (am_c m_Sp_heap) 37 = .ok (.invokevirtual 279, 3) := by decide +kernel
theorem d_Sp_heap_40 : decode (am_c m_Sp_heap) 40 = .ok (.iload_n 3, 1) := by decide +kernel
theorem d_Sp_heap_41 : decode (am_c m_Sp_heap) 41 = .ok (.ifCond .ne 13, 3) := by decide +kernel
theorem d_Sp_heap_44 : decode (am_c m_Sp_heap) 44 = .ok (.aload_n 0, 1) := by decide +kernel
theorem d_Sp_heap_45 : decode (am_c m_Sp_heap) 45 = .ok (.getfield 64, 3) := by decide +kernel
theorem d_Sp_heap_48 : decode (am_c m_Sp_heap) 48 = .ok (.getfield 282, 3) := by decide +kernel
theorem d_Sp_heap_51 : decode (am_c m_Sp_heap) 51 = .ok (.goto 10, 3) := by decide +kernel
theorem d_Sp_heap_54 : decode (am_c m_Sp_heap) 54 = .ok (.aload_n 0, 1) := by decide +kernel
theorem d_Sp_heap_55 : decode (am_c m_Sp_heap) 55 = .ok (.getfield 64, 3) := by decide +kernel
theorem d_Sp_heap_58 : decode (am_c m_Sp_heap) 58 = .ok (.getfield 285, 3) := by decide +kernel
theorem d_Sp_heap_61 : decode (am_c m_Sp_heap) 61 = .ok (.ireturn, 1) := by decide +kernel
theorem d_Sp_move_0 : decode (am_c m_Sp_move) 0 = .ok (.aload_n 0, 1) := by decide +kernel
theorem d_Sp_move_1 : decode (am_c m_Sp_move) 1 = .ok (.iload_n 1, 1) := by decide +kernel
theorem d_Sp_move_2 : decode (am_c m_Sp_move) 2 = .ok (.invokevirtual 163, 3) := by decide +kernel
theorem d_Sp_move_5 : decode (am_c m_Sp_move) 5 = .ok (.ifCond .ne 6, 3) := by decide +kernel
theorem d_Sp_move_8 : decode (am_c m_Sp_move) 8 = .ok (.bipush (-2), 2) := by decide +kernel
theorem d_Sp_move_10 : decode (am_c m_Sp_move) 10 = .ok (.ireturn, 1) := by decide +kernel
theorem d_Sp_move_11 : decode (am_c m_Sp_move) 11 = .ok (.aload_n 0, 1) := by decide +kernel
theorem d_Sp_move_12 : decode (am_c m_Sp_move) 12 = .ok (.getfield 28, 3) := by decide +kernel
theorem d_Sp_move_15 : decode (am_c m_Sp_move) 15 = .ok (.iload_n 1, 1) := by decide +kernel
theorem d_Sp_move_16 : decode (am_c m_Sp_move) 16 = .ok (.invokevirtual 288, 3) := by decide +kernel
theorem d_Sp_move_19 : decode (am_c m_Sp_move) 19 = .ok (.ifCond .ne 6, 3) := by decide +kernel
theorem d_Sp_move_22 : decode (am_c m_Sp_move) 22 = .ok (.bipush (-4), 2) := by decide +kernel
theorem d_Sp_move_24 : decode (am_c m_Sp_move) 24 = .ok (.ireturn, 1) := by decide +kernel
theorem d_Sp_move_25 : decode (am_c m_Sp_move) 25 = .ok (.aload_n 0, 1) := by decide +kernel
theorem d_Sp_move_26 : decode (am_c m_Sp_move) 26 = .ok (.getfield 64, 3) := by decide +kernel
theorem d_Sp_move_29 : decode (am_c m_Sp_move) 29 = .ok (.iload_n 1, 1) := by decide +kernel
theorem d_Sp_move_30 : decode (am_c m_Sp_move) 30 = .ok (.invokevirtual 291, 3) := by decide +kernel
theorem d_Sp_move_33 : decode (am_c m_Sp_move) 33 = .ok (.ireturn, 1) := by decide +kernel
theorem d_Sp_off_0 : decode (am_c m_Sp_off) 0 = .ok (.aload_n 0, 1) := by decide +kernel
theorem d_Sp_off_1 : decode (am_c m_Sp_off) 1 = .ok (.iload_n 1, 1) := by decide +kernel
theorem d_Sp_off_2 : decode (am_c m_Sp_off) 2 = .ok (.invokevirtual 151, 3) := by decide +kernel
theorem d_Sp_off_5 : decode (am_c m_Sp_off) 5 = .ok (.ifCond .eq 14, 3) := by decide +kernel
theorem d_Sp_off_8 : decode (am_c m_Sp_off) 8 = .ok (.aload_n 0, 1) := by decide +kernel
theorem d_Sp_off_9 : decode (am_c m_Sp_off) 9 = .ok (.getfield 64, 3) := by decide +kernel
theorem d_Sp_off_12 : decode (am_c m_Sp_off) 12 = .ok (.iload_n 1, 1) := by decide +kernel
theorem d_Sp_off_13 : decode (am_c m_Sp_off) 13 = .ok (.invokevirtual 294, 3) := by decide +kernel
theorem d_Sp_off_16 : decode (am_c m_Sp_off) 16 = .ok (.goto 5, 3) := by decide +kernel
theorem d_Sp_off_19 : decode (am_c m_Sp_off) 19 = .ok (.bipush (-102), 2) := by decide +kernel
theorem d_Sp_off_21 : decode (am_c m_Sp_off) 21 = .ok (.ireturn, 1) := by decide +kernel
theorem d_Sp_board_0 : decode (am_c m_Sp_board) 0 = .ok (.iload_n 1, 1) := by decide +kernel
theorem d_Sp_board_1 : decode (am_c m_Sp_board) 1 = .ok (.iconst 1, 1) := by decide +kernel
theorem d_Sp_board_2 : decode (am_c m_Sp_board) 2 = .ok (.bipush 60, 2) := by decide +kernel
theorem d_Sp_board_4 : decode (am_c m_Sp_board) 4 = .ok (.invokestatic 82, 3) := by decide +kernel
theorem d_Sp_board_7 : decode (am_c m_Sp_board) 7 = .ok (.ifCond .eq 23, 3) := by decide +kernel
theorem d_Sp_board_10 : decode (am_c m_Sp_board) 10 = .ok (.iload_n 2, 1) := by decide +kernel
theorem d_Sp_board_11 : decode (am_c m_Sp_board) 11 = .ok (.iconst 1, 1) := by decide +kernel
theorem d_Sp_board_12 : decode (am_c m_Sp_board) 12 = .ok (.bipush 60, 2) := by decide +kernel
theorem d_Sp_board_14 : decode (am_c m_Sp_board) 14 = .ok (.invokestatic 82, 3) := by decide +kernel
theorem d_Sp_board_17 : decode (am_c m_Sp_board) 17 = .ok (.ifCond .eq 13, 3) := by decide +kernel
theorem d_Sp_board_20 : decode (am_c m_Sp_board) 20 = .ok (.iload_n 3, 1) := by decide +kernel
theorem d_Sp_board_21 : decode (am_c m_Sp_board) 21 = .ok (.iconst 0, 1) := by decide +kernel
theorem d_Sp_board_22 : decode (am_c m_Sp_board) 22 = .ok (.bipush 20, 2) := by decide +kernel
theorem d_Sp_board_24 : decode (am_c m_Sp_board) 24 = .ok (.invokestatic 82, 3) := by decide +kernel
theorem d_Sp_board_27 : decode (am_c m_Sp_board) 27 = .ok (.ifCond .ne 6, 3) := by decide +kernel
theorem d_Sp_board_30 : decode (am_c m_Sp_board) 30 = .ok (.bipush (-3), 2) := by decide +kernel
theorem d_Sp_board_32 : decode (am_c m_Sp_board) 32 = .ok (.ireturn, 1) := by decide +kernel
theorem d_Sp_board_33 : decode (am_c m_Sp_board) 33 = .ok (.aload_n 0, 1) := by decide +kernel
theorem d_Sp_board_34 : decode (am_c m_Sp_board) 34 = .ok (.getfield 78, 3) := by decide +kernel
theorem d_Sp_board_37 : decode (am_c m_Sp_board) 37 = .ok (.invokevirtual 297, 3) := by decide +kernel
theorem d_Sp_board_40 : decode (am_c m_Sp_board) 40 = .ok (.aload_n 0, 1) := by decide +kernel
theorem d_Sp_board_41 : decode (am_c m_Sp_board) 41 = .ok (.getfield 22, 3) := by decide +kernel
theorem d_Sp_board_44 : decode (am_c m_Sp_board) 44 = .ok (.iload_n 1, 1) := by decide +kernel
theorem d_Sp_board_45 : decode (am_c m_Sp_board) 45 = .ok (.iload_n 2, 1) := by decide +kernel
theorem d_Sp_board_46 : decode (am_c m_Sp_board) 46 = .ok (.invokevirtual 300, 3) := by decide +kernel
theorem d_Sp_board_49 : decode (am_c m_Sp_board) 49 = .ok (.aload_n 0, 1) := by decide +kernel
theorem d_Sp_board_50 : decode (am_c m_Sp_board) 50 = .ok (.getfield 39, 3) := by decide +kernel
theorem d_Sp_board_53 : decode (am_c m_Sp_board) 53 = .ok (.iload_n 3, 1) := by decide +kernel
theorem d_Sp_board_54 : decode (am_c m_Sp_board) 54 = .ok (.invokevirtual 303, 3) := by decide +kernel
theorem d_Sp_board_57 : decode (am_c m_Sp_board) 57 = .ok (.aload_n 0, 1) := by decide +kernel
theorem d_Sp_board_58 : decode (am_c m_Sp_board) 58 = .ok (.getfield 22, 3) := by decide +kernel
theorem d_Sp_board_61 : decode (am_c m_Sp_board) 61 = .ok (.getfield 100, 3) := by decide +kernel
theorem d_Sp_board_64 : decode (am_c m_Sp_board) 64 = .ok (.iload_n 1, 1) := by decide +kernel
theorem d_Sp_board_65 : decode (am_c m_Sp_board) 65 = .ok (.iload_n 2, 1) := by decide +kernel
theorem d_Sp_board_66 : decode (am_c m_Sp_board) 66 = .ok (.iadd, 1) := by decide +kernel
theorem d_Sp_board_67 : decode (am_c m_Sp_board) 67 = .ok (.iconst 2, 1) := by decide +kernel
theorem d_Sp_board_68 : decode (am_c m_Sp_board) 68 = .ok (.idiv, 1) := by decide +kernel
theorem d_Sp_board_69 : decode (am_c m_Sp_board) 69 = .ok (.invokestatic 306, 3) := by decide +kernel
theorem d_Sp_board_72 : decode (am_c m_Sp_board) 72 = .ok (.aload_n 0, 1) := by decide +kernel
theorem d_Sp_board_73 : decode (am_c m_Sp_board) 73 = .ok (.getfield 39, 3) := by decide +kernel
theorem d_Sp_board_76 : decode (am_c m_Sp_board) 76 = .ok (.bipush 10, 2) := by decide +kernel
theorem d_Sp_board_78 : decode (am_c m_Sp_board) 78 = .ok (.invokevirtual 225, 3) := by decide +kernel
theorem d_Sp_board_81 : decode (am_c m_Sp_board) 81 = .ok (.pop, 1) := by decide +kernel
theorem d_Sp_board_82 : decode (am_c m_Sp_board) 82 = .ok (.aload_n 0, 1) := by decide +kernel
theorem d_Sp_board_83 : decode (am_c m_Sp_board) 83 = .ok (.getfield 22, 3) := by decide +kernel
theorem d_Sp_board_86 : decode (am_c m_Sp_board) 86 = .ok (.iload_n 1, 1) := by decide +kernel
theorem d_Sp_board_87 : decode (am_c m_Sp_board) 87 = .ok (.iload_n 2, 1) := by decide +kernel
theorem d_Sp_board_88 : decode (am_c m_Sp_board) 88 = .ok (.invokevirtual 312, 3) := by decide +kernel
theorem d_Sp_board_91 : decode (am_c m_Sp_board) 91 = .ok (.istore 4, 2) := by decide +kernel
theorem d_Sp_board_93 : decode (am_c m_Sp_board) 93 = .ok (.aload_n 0, 1) := by decide +kernel
theorem d_Sp_board_94 : decode (am_c m_Sp_board) 94 = .ok (.getfield 78, 3) := by decide +kernel
theorem d_Sp_board_97 : decode (am_c m_Sp_board) 97 = .ok (.invokevirtual 315, 3) := by decide +kernel
theorem d_Sp_board_100 : decode (am_c m_Sp_board) 100 = .ok (.iload 4, 2) := by decide +kernel
theorem d_Sp_board_102 : decode (am_c m_Sp_board) 102 = .ok (.ireturn, 1) := by decide +kernel
theorem d_Sp_write_0 : decode (am_c m_Sp_write) 0 = .ok (.iload_n 3, 1) := by decide +kernel
theorem d_Sp_write_1 : decode (am_c m_Sp_write) 1 = .ok (.iconst 1, 1) := by decide +kernel
theorem d_Sp_write_2 : decode (am_c m_Sp_write) 2 = .ok (.bipush 8, 2) := by decide +kernel
theorem d_Sp_write_4 : decode (am_c m_Sp_write) 4 = .ok (.invokestatic 82, 3) := by decide +kernel
theorem d_Sp_write_7 : decode (am_c m_Sp_write) 7 = .ok (.ifCond .ne 6, 3) := by decide +kernel
theorem d_Sp_write_10 : decode (am_c m_Sp_write) 10 = .ok (.bipush (-3), 2) := by decide +kernel
theorem d_Sp_write_12 : decode (am_c m_Sp_write) 12 = .ok (.ireturn, 1) := by decide +kernel
theorem d_Sp_write_13 : decode (am_c m_Sp_write) 13 = .ok (.aload_n 0, 1) := by decide +kernel
theorem d_Sp_write_14 : decode (am_c m_Sp_write) 14 = .ok (.getfield 71, 3) := by decide +kernel
theorem d_Sp_write_17 : decode (am_c m_Sp_write) 17 = .ok (.getfield 318, 3) := by decide +kernel
theorem d_Sp_write_20 : decode (am_c m_Sp_write) 20 = .ok (.iload_n 3, 1) := by decide +kernel
theorem d_Sp_write_21 : decode (am_c m_Sp_write) 21 = .ok (.iadd, 1) := by decide +kernel
theorem d_Sp_write_22 : decode (am_c m_Sp_write) 22 = .ok (.sipush 160, 3) := by decide +kernel
theorem d_Sp_write_25 : decode (am_c m_Sp_write) 25 = .ok (.if_icmp .le 6, 3) := by decide +kernel
theorem d_Sp_write_28 : decode (am_c m_Sp_write) 28 = .ok (.bipush (-5), 2) := by decide +kernel
theorem d_Sp_write_30 : decode (am_c m_Sp_write) 30 = .ok (.ireturn, 1) := by decide +kernel
theorem d_Sp_write_31 : decode (am_c m_Sp_write) 31 = .ok (.aload_n 0, 1) := by decide +kernel
theorem d_Sp_write_32 : decode (am_c m_Sp_write) 32 = .ok (.getfield 71, 3) := by decide +kernel
theorem d_Sp_write_35 : decode (am_c m_Sp_write) 35 = .ok (.lload_n 1, 1) := by decide +kernel
theorem d_Sp_write_36 : decode (am_c m_Sp_write) 36 = .ok (.iload_n 3, 1) := by decide +kernel
theorem d_Sp_write_37 : decode (am_c m_Sp_write) 37 = .ok (.invokevirtual 321, 3) := by decide +kernel
theorem d_Sp_write_40 : decode (am_c m_Sp_write) 40 = .ok (.aload_n 0, 1) := by decide +kernel
theorem d_Sp_write_41 : decode (am_c m_Sp_write) 41 = .ok (.getfield 71, 3) := by decide +kernel
theorem d_Sp_write_44 : decode (am_c m_Sp_write) 44 = .ok (.getfield 318, 3) := by decide +kernel
theorem d_Sp_write_47 : decode (am_c m_Sp_write) 47 = .ok (.ireturn, 1) := by decide +kernel
theorem d_Sp_erase_0 : decode (am_c m_Sp_erase) 0 = .ok (.aload_n 0, 1) := by decide +kernel
theorem d_Sp_erase_1 : decode (am_c m_Sp_erase) 1 = .ok (.getfield 71, 3) := by decide +kernel
theorem d_Sp_erase_4 : decode (am_c m_Sp_erase) 4 = .ok (.getfield 318, 3) := by decide +kernel
theorem d_Sp_erase_7 : decode (am_c m_Sp_erase) 7 = .ok (.istore_n 1, 1) := by decide +kernel
theorem d_Sp_erase_8 : decode (am_c m_Sp_erase) 8 = .ok (.aload_n 0, 1) := by decide +kernel
theorem d_Sp_erase_9 : decode (am_c m_Sp_erase) 9 = .ok (.getfield 71, 3) := by decide +kernel
theorem d_Sp_erase_12 : decode (am_c m_Sp_erase) 12 = .ok (.iconst 0, 1) := by decide +kernel
theorem d_Sp_erase_13 : decode (am_c m_Sp_erase) 13 = .ok (.putfield 318, 3) := by decide +kernel
theorem d_Sp_erase_16 : decode (am_c m_Sp_erase) 16 = .ok (.iload_n 1, 1) := by decide +kernel
theorem d_Sp_erase_17 : decode (am_c m_Sp_erase) 17 = .ok (.ireturn, 1) := by decide +kernel
theorem d_Sp_fault_0 : decode (am_c m_Sp_fault) 0 = .ok (.aload_n 0, 1) := by decide +kernel
theorem d_Sp_fault_1 : decode (am_c m_Sp_fault) 1 = .ok (.getfield 71, 3) := by decide +kernel
theorem d_Sp_fault_4 : decode (am_c m_Sp_fault) 4 = .ok (.invokevirtual 325, 3) := by decide +kernel
theorem d_Sp_fault_7 : decode (am_c m_Sp_fault) 7 = .ok (.ireturn, 1) := by decide +kernel
theorem d_Sp_run_0 : decode (am_c m_Sp_run) 0 = .ok (.aload_n 0, 1) := by decide +kernel
theorem d_Sp_run_1 : decode (am_c m_Sp_run) 1 = .ok (.getfield 71, 3) := by decide +kernel
theorem d_Sp_run_4 : decode (am_c m_Sp_run) 4 = .ok (.invokevirtual 325, 3) := by decide +kernel
theorem d_Sp_run_7 : decode (am_c m_Sp_run) 7 = .ok (.iconst (-1), 1) := by decide +kernel
theorem d_Sp_run_8 : decode (am_c m_Sp_run) 8 = .ok (.if_icmp .eq 6, 3) := by decide +kernel
theorem d_Sp_run_11 : decode (am_c m_Sp_run) 11 = .ok (.bipush (-4), 2) := by decide +kernel
theorem d_Sp_run_13 : decode (am_c m_Sp_run) 13 = .ok (.ireturn, 1) := by decide +kernel
theorem d_Sp_run_14 : decode (am_c m_Sp_run) 14 = .ok (.aload_n 0, 1) := by decide +kernel
theorem d_Sp_run_15 : decode (am_c m_Sp_run) 15 = .ok (.getfield 78, 3) := by decide +kernel
theorem d_Sp_run_18 : decode (am_c m_Sp_run) 18 = .ok (.invokevirtual 297, 3) := by decide +kernel
theorem d_Sp_run_21 : decode (am_c m_Sp_run) 21 = .ok (.iconst 0, 1) := by decide +kernel
theorem d_Sp_run_22 : decode (am_c m_Sp_run) 22 = .ok (.istore_n 1, 1) := by decide +kernel
theorem d_Sp_run_23 : decode (am_c m_Sp_run) 23 = .ok (.iload_n 1, 1) := by decide +kernel
theorem d_Sp_run_24 : decode (am_c m_Sp_run) 24 = .ok (.aload_n 0, 1) := by decide +kernel
theorem d_Sp_run_25 : decode (am_c m_Sp_run) 25 = .ok (.getfield 71, 3) := by decide +kernel
theorem d_Sp_run_28 : decode (am_c m_Sp_run) 28 = .ok (.getfield 328, 3) := by decide +kernel
theorem d_Sp_run_31 : decode (am_c m_Sp_run) 31 = .ok (.if_icmp .ge 53, 3) := by decide +kernel
theorem d_Sp_run_34 : decode (am_c m_Sp_run) 34 = .ok (.aload_n 0, 1) := by decide +kernel
theorem d_Sp_run_35 : decode (am_c m_Sp_run) 35 = .ok (.aload_n 0, 1) := by decide +kernel
theorem d_Sp_run_36 : decode (am_c m_Sp_run) 36 = .ok (.getfield 71, 3) := by decide +kernel
theorem d_Sp_run_39 : decode (am_c m_Sp_run) 39 = .ok (.getfield 331, 3) := by decide +kernel
theorem d_Sp_run_42 : decode (am_c m_Sp_run) 42 = .ok (.iload_n 1, 1) := by decide +kernel
theorem d_Sp_run_43 : decode (am_c m_Sp_run) 43 = .ok (.iaload, 1) := by decide +kernel
theorem d_Sp_run_44 : decode (am_c m_Sp_run) 44 = .ok (.aload_n 0, 1) := by decide +kernel
theorem d_Sp_run_45 : decode (am_c m_Sp_run) 45 = .ok (.getfield 71, 3) := by decide +kernel
theorem d_Sp_run_48 : decode (am_c m_Sp_run) 48 = .ok (.getfield 334, 3) := by decide +kernel
theorem d_Sp_run_51 : decode (am_c m_Sp_run) 51 = .ok (.iload_n 1, 1) := by decide +kernel
theorem d_Sp_run_52 : decode (am_c m_Sp_run) 52 = .ok (.iaload, 1) := by decide +kernel
theorem d_Sp_run_53 : decode (am_c m_Sp_run) 53 = .ok (.aload_n 0, 1) := by decide +kernel
theorem d_Sp_run_54 : decode (am_c m_Sp_run) 54 = .ok (.getfield 71, 3) := by decide +kernel
theorem d_Sp_run_57 : decode (am_c m_Sp_run) 57 = .ok (.getfield 337, 3) := by decide +kernel
theorem d_Sp_run_60 : decode (am_c m_Sp_run) 60 = .ok (.iload_n 1, 1) := by decide +kernel
theorem d_Sp_run_61 : decode (am_c m_Sp_run) 61 = .ok (.iaload, 1) := by decide +kernel
theorem d_Sp_run_62 : decode (am_c m_Sp_run) 62 = .ok (.invokevirtual 340, 3) := by decide +kernel
theorem d_Sp_run_65 : decode (am_c m_Sp_run) 65 = .ok (.ifCond .ne 13, 3) := by decide +kernel
theorem d_Sp_run_68 : decode (am_c m_Sp_run) 68 = .ok (.aload_n 0, 1) := by decide +kernel
theorem d_Sp_run_69 : decode (am_c m_Sp_run) 69 = .ok (.getfield 78, 3) := by decide +kernel
theorem d_Sp_run_72 : decode (am_c m_Sp_run) 72 = .ok (.invokevirtual 315, 3) := by decide +kernel
theorem d_Sp_run_75 : decode (am_c m_Sp_run) 75 = .ok (.bipush (-4), 2) := by decide +kernel
theorem d_Sp_run_77 : decode (am_c m_Sp_run) 77 = .ok (.ireturn, 1) := by decide +kernel
theorem d_Sp_run_78 : decode (am_c m_Sp_run) 78 = .ok (.iinc 1 1, 3) := by decide +kernel
theorem d_Sp_run_81 : decode (am_c m_Sp_run) 81 = .ok (.goto (-58), 3) := by decide +kernel
theorem d_Sp_run_84 : decode (am_c m_Sp_run) 84 = .ok (.aload_n 0, 1) := by decide +kernel
theorem d_Sp_run_85 : decode (am_c m_Sp_run) 85 = .ok (.getfield 71, 3) := by decide +kernel
theorem d_Sp_run_88 : decode (am_c m_Sp_run) 88 = .ok (.getfield 328, 3) := by decide +kernel
theorem d_Sp_run_91 : decode (am_c m_Sp_run) 91 = .ok (.ireturn, 1) := by decide +kernel
theorem d_Sp_obey_0 : decode (am_c m_Sp_obey) 0 = .ok (.iload_n 1, 1) := by decide +kernel
theorem d_Sp_obey_1 : decode (am_c m_Sp_obey) 1 = .ok (.tableswitch 85 0 3 #[31, 43, 61, 73], 31) := by decide +kernel
theorem d_Sp_obey_32 : decode (am_c m_Sp_obey) 32 = .ok (.aload_n 0, 1) := by decide +kernel
theorem d_Sp_obey_33 : decode (am_c m_Sp_obey) 33 = .ok (.getfield 22, 3) := by decide +kernel
theorem d_Sp_obey_36 : decode (am_c m_Sp_obey) 36 = .ok (.getfield 100, 3) := by decide +kernel
theorem d_Sp_obey_39 : decode (am_c m_Sp_obey) 39 = .ok (.iload_n 2, 1) := by decide +kernel
theorem d_Sp_obey_40 : decode (am_c m_Sp_obey) 40 = .ok (.iload_n 3, 1) := by decide +kernel
theorem d_Sp_obey_41 : decode (am_c m_Sp_obey) 41 = .ok (.iastore, 1) := by decide +kernel
theorem d_Sp_obey_42 : decode (am_c m_Sp_obey) 42 = .ok (.iconst 1, 1) := by decide +kernel
theorem d_Sp_obey_43 : decode (am_c m_Sp_obey) 43 = .ok (.ireturn, 1) := by decide +kernel
theorem d_Sp_obey_44 : decode (am_c m_Sp_obey) 44 = .ok (.aload_n 0, 1) := by decide +kernel
theorem d_Sp_obey_45 : decode (am_c m_Sp_obey) 45 = .ok (.getfield 39, 3) := by decide +kernel
theorem d_Sp_obey_48 : decode (am_c m_Sp_obey) 48 = .ok (.invokevirtual 222, 3) := by decide +kernel
theorem d_Sp_obey_51 : decode (am_c m_Sp_obey) 51 = .ok (.aload_n 0, 1) := by decide +kernel
theorem d_Sp_obey_52 : decode (am_c m_Sp_obey) 52 = .ok (.getfield 39, 3) := by decide +kernel
theorem d_Sp_obey_55 : decode (am_c m_Sp_obey) 55 = .ok (.iload_n 2, 1) := by decide +kernel
theorem d_Sp_obey_56 : decode (am_c m_Sp_obey) 56 = .ok (.invokevirtual 225, 3) := by decide +kernel
theorem d_Sp_obey_59 : decode (am_c m_Sp_obey) 59 = .ok (.pop, 1) := by decide +kernel
theorem d_Sp_obey_60 : decode (am_c m_Sp_obey) 60 = .ok (.iconst 1, 1) := by decide +kernel
theorem d_Sp_obey_61 : decode (am_c m_Sp_obey) 61 = .ok (.ireturn, 1) := by decide +kernel
theorem d_Sp_obey_62 : decode (am_c m_Sp_obey) 62 = .ok (.aload_n 0, 1) := by decide +kernel
theorem d_Sp_obey_63 : decode (am_c m_Sp_obey) 63 = .ok (.getfield 28, 3) := by decide +kernel
theorem d_Sp_obey_66 : decode (am_c m_Sp_obey) 66 = .ok (.getfield 346, 3) := by decide +kernel
theorem d_Sp_obey_69 : decode (am_c m_Sp_obey) 69 = .ok (.iload_n 2, 1) := by decide +kernel
theorem d_Sp_obey_70 : decode (am_c m_Sp_obey) 70 = .ok (.iload_n 3, 1) := by decide +kernel
theorem d_Sp_obey_71 : decode (am_c m_Sp_obey) 71 = .ok (.iastore, 1) := by decide +kernel
theorem d_Sp_obey_72 : decode (am_c m_Sp_obey) 72 = .ok (.iconst 1, 1) := by decide +kernel
theorem d_Sp_obey_73 : decode (am_c m_Sp_obey) 73 = .ok (.ireturn, 1) := by decide +kernel
theorem d_Sp_obey_74 : decode (am_c m_Sp_obey) 74 = .ok (.aload_n 0, 1) := by decide +kernel
theorem d_Sp_obey_75 : decode (am_c m_Sp_obey) 75 = .ok (.getfield 28, 3) := by decide +kernel
theorem d_Sp_obey_78 : decode (am_c m_Sp_obey) 78 = .ok (.getfield 154, 3) := by decide +kernel
theorem d_Sp_obey_81 : decode (am_c m_Sp_obey) 81 = .ok (.iload_n 2, 1) := by decide +kernel
theorem d_Sp_obey_82 : decode (am_c m_Sp_obey) 82 = .ok (.iload_n 3, 1) := by decide +kernel
theorem d_Sp_obey_83 : decode (am_c m_Sp_obey) 83 = .ok (.iastore, 1) := by decide +kernel
theorem d_Sp_obey_84 : decode (am_c m_Sp_obey) 84 = .ok (.iconst 1, 1) := by decide +kernel
theorem d_Sp_obey_85 : decode (am_c m_Sp_obey) 85 = .ok (.ireturn, 1) := by decide +kernel
theorem d_Sp_obey_86 : decode (am_c m_Sp_obey) 86 = .ok (.aload_n 0, 1) := by decide +kernel
theorem d_Sp_obey_87 : decode (am_c m_Sp_obey) 87 = .ok (.getfield 22, 3) := by decide +kernel
theorem d_Sp_obey_90 : decode (am_c m_Sp_obey) 90 = .ok (.iload_n 2, 1) := by decide +kernel
theorem d_Sp_obey_91 : decode (am_c m_Sp_obey) 91 = .ok (.iload_n 3, 1) := by decide +kernel
theorem d_Sp_obey_92 : decode (am_c m_Sp_obey) 92 = .ok (.invokevirtual 108, 3) := by decide +kernel
theorem d_Sp_obey_95 : decode (am_c m_Sp_obey) 95 = .ok (.ifCond .lt 7, 3) := by decide +kernel
theorem d_Sp_obey_98 : decode (am_c m_Sp_obey) 98 = .ok (.iconst 1, 1) := by decide +kernel
theorem d_Sp_obey_99 : decode (am_c m_Sp_obey) 99 = .ok (.goto 4, 3) := by decide +kernel
theorem d_Sp_obey_102 : decode (am_c m_Sp_obey) 102 = .ok (.iconst 0, 1) := by decide +kernel
theorem d_Sp_obey_103 : decode (am_c m_Sp_obey) 103 = .ok (.ireturn, 1) := by decide +kernel
theorem d_Sp_count_0 : decode (am_c m_Sp_count) 0 = .ok (.iload_n 1, 1) := by decide +kernel
theorem d_Sp_count_1 : decode (am_c m_Sp_count) 1 = .ok (.tableswitch 111 0 7 #[47, 55, 63, 71, 79, 87, 95, 103], 47) := by decide +kernel
theorem d_Sp_count_48 : decode (am_c m_Sp_count) 48 = .ok (.aload_n 0, 1) := by decide +kernel
theorem d_Sp_count_49 : decode (am_c m_Sp_count) 49 = .ok (.getfield 22, 3) := by decide +kernel
theorem d_Sp_count_52 : decode (am_c m_Sp_count) 52 = .ok (.getfield 89, 3) := by decide +kernel
theorem d_Sp_count_55 : decode (am_c m_Sp_count) 55 = .ok (.ireturn, 1) := by decide +kernel
theorem d_Sp_count_56 : decode (am_c m_Sp_count) 56 = .ok (.aload_n 0, 1) := by decide +kernel
theorem d_Sp_count_57 : decode (am_c m_Sp_count) 57 = .ok (.getfield 22, 3) := by decide +kernel
theorem d_Sp_count_60 : decode (am_c m_Sp_count) 60 = .ok (.invokevirtual 343, 3) := by decide +kernel
theorem d_Sp_count_63 : decode (am_c m_Sp_count) 63 = .ok (.ireturn, 1) := by decide +kernel
theorem d_Sp_count_64 : decode (am_c m_Sp_count) 64 = .ok (.aload_n 0, 1) := by decide +kernel
theorem d_Sp_count_65 : decode (am_c m_Sp_count) 65 = .ok (.getfield 28, 3) := by decide +kernel
theorem d_Sp_count_68 : decode (am_c m_Sp_count) 68 = .ok (.getfield 145, 3) := by decide +kernel
theorem d_Sp_count_71 : decode (am_c m_Sp_count) 71 = .ok (.ireturn, 1) := by decide +kernel
theorem d_Sp_count_72 : decode (am_c m_Sp_count) 72 = .ok (.aload_n 0, 1) := by decide +kernel
theorem d_Sp_count_73 : decode (am_c m_Sp_count) 73 = .ok (.getfield 28, 3) := by decide +kernel
theorem d_Sp_count_76 : decode (am_c m_Sp_count) 76 = .ok (.getfield 157, 3) := by decide +kernel
theorem d_Sp_count_79 : decode (am_c m_Sp_count) 79 = .ok (.ireturn, 1) := by decide +kernel
theorem d_Sp_count_80 : decode (am_c m_Sp_count) 80 = .ok (.aload_n 0, 1) := by decide +kernel
theorem d_Sp_count_81 : decode (am_c m_Sp_count) 81 = .ok (.getfield 28, 3) := by decide +kernel
theorem d_Sp_count_84 : decode (am_c m_Sp_count) 84 = .ok (.getfield 173, 3) := by decide +kernel
theorem d_Sp_count_87 : decode (am_c m_Sp_count) 87 = .ok (.ireturn, 1) := by decide +kernel
theorem d_Sp_count_88 : decode (am_c m_Sp_count) 88 = .ok (.aload_n 0, 1) := by decide +kernel
theorem d_Sp_count_89 : decode (am_c m_Sp_count) 89 = .ok (.getfield 28, 3) := by decide +kernel
theorem d_Sp_count_92 : decode (am_c m_Sp_count) 92 = .ok (.getfield 176, 3) := by decide +kernel
theorem d_Sp_count_95 : decode (am_c m_Sp_count) 95 = .ok (.ireturn, 1) := by decide +kernel
theorem d_Sp_count_96 : decode (am_c m_Sp_count) 96 = .ok (.aload_n 0, 1) := by decide +kernel
theorem d_Sp_count_97 : decode (am_c m_Sp_count) 97 = .ok (.getfield 28, 3) := by decide +kernel
theorem d_Sp_count_100 : decode (am_c m_Sp_count) 100 = .ok (.getfield 189, 3) := by decide +kernel
theorem d_Sp_count_103 : decode (am_c m_Sp_count) 103 = .ok (.ireturn, 1) := by decide +kernel
theorem d_Sp_count_104 : decode (am_c m_Sp_count) 104 = .ok (.aload_n 0, 1) := by decide +kernel
theorem d_Sp_count_105 : decode (am_c m_Sp_count) 105 = .ok (.getfield 71, 3) := by decide +kernel
theorem d_Sp_count_108 : decode (am_c m_Sp_count) 108 = .ok (.getfield 318, 3) := by decide +kernel
theorem d_Sp_count_111 : decode (am_c m_Sp_count) 111 = .ok (.ireturn, 1) := by decide +kernel
theorem d_Sp_count_112 : decode (am_c m_Sp_count) 112 = .ok (.bipush (-3), 2) := by decide +kernel
theorem d_Sp_count_114 : decode (am_c m_Sp_count) 114 = .ok (.ireturn, 1) := by decide +kernel
