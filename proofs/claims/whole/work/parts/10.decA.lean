/-! ===== what the bytes are ===== -/
theorem d_Gr_init_0 : decode (am_c m_Gr_init) 0 = .ok (.aload_n 0, 1) := by decide +kernel
theorem d_Gr_init_1 : decode (am_c m_Gr_init) 1 = .ok (.invokespecial 3, 3) := by decide +kernel
theorem d_Gr_init_4 : decode (am_c m_Gr_init) 4 = .ok (.aload_n 0, 1) := by decide +kernel
theorem d_Gr_init_5 : decode (am_c m_Gr_init) 5 = .ok (.bipush 17, 2) := by decide +kernel
theorem d_Gr_init_7 : decode (am_c m_Gr_init) 7 = .ok (.putfield 9, 3) := by decide +kernel
theorem d_Gr_init_10 : decode (am_c m_Gr_init) 10 = .ok (.aload_n 0, 1) := by decide +kernel
theorem d_Gr_init_11 : decode (am_c m_Gr_init) 11 = .ok (.bipush 16, 2) := by decide +kernel
theorem d_Gr_init_13 : decode (am_c m_Gr_init) 13 = .ok (.newarray .int, 2) := by decide +kernel
theorem d_Gr_init_15 : decode (am_c m_Gr_init) 15 = .ok (.putfield 15, 3) := by decide +kernel
theorem d_Gr_init_18 : decode (am_c m_Gr_init) 18 = .ok (.aload_n 0, 1) := by decide +kernel
theorem d_Gr_init_19 : decode (am_c m_Gr_init) 19 = .ok (.bipush 8, 2) := by decide +kernel
theorem d_Gr_init_21 : decode (am_c m_Gr_init) 21 = .ok (.newarray .int, 2) := by decide +kernel
theorem d_Gr_init_23 : decode (am_c m_Gr_init) 23 = .ok (.putfield 19, 3) := by decide +kernel
theorem d_Gr_init_26 : decode (am_c m_Gr_init) 26 = .ok (.aload_n 0, 1) := by decide +kernel
theorem d_Gr_init_27 : decode (am_c m_Gr_init) 27 = .ok (.bipush 64, 2) := by decide +kernel
theorem d_Gr_init_29 : decode (am_c m_Gr_init) 29 = .ok (.newarray .int, 2) := by decide +kernel
theorem d_Gr_init_31 : decode (am_c m_Gr_init) 31 = .ok (.putfield 22, 3) := by decide +kernel
theorem d_Gr_init_34 : decode (am_c m_Gr_init) 34 = .ok (.aload_n 0, 1) := by decide +kernel
theorem d_Gr_init_35 : decode (am_c m_Gr_init) 35 = .ok (.bipush 16, 2) := by decide +kernel
theorem d_Gr_init_37 : decode (am_c m_Gr_init) 37 = .ok (.newarray .int, 2) := by decide +kernel
theorem d_Gr_init_39 : decode (am_c m_Gr_init) 39 = .ok (.putfield 25, 3) := by decide +kernel
theorem d_Gr_init_42 : decode (am_c m_Gr_init) 42 = .ok (.aload_n 0, 1) := by decide +kernel
theorem d_Gr_init_43 : decode (am_c m_Gr_init) 43 = .ok (.bipush 16, 2) := by decide +kernel
theorem d_Gr_init_45 : decode (am_c m_Gr_init) 45 = .ok (.newarray .int, 2) := by decide +kernel
theorem d_Gr_init_47 : decode (am_c m_Gr_init) 47 = .ok (.putfield 28, 3) := by decide +kernel
theorem d_Gr_init_50 : decode (am_c m_Gr_init) 50 = .ok (.aload_n 0, 1) := by decide +kernel
theorem d_Gr_init_51 : decode (am_c m_Gr_init) 51 = .ok (.bipush 16, 2) := by decide +kernel
theorem d_Gr_init_53 : decode (am_c m_Gr_init) 53 = .ok (.newarray .int, 2) := by decide +kernel
theorem d_Gr_init_55 : decode (am_c m_Gr_init) 55 = .ok (.putfield 31, 3) := by decide +kernel
theorem d_Gr_init_58 : decode (am_c m_Gr_init) 58 = .ok (.return_, 1) := by decide +kernel
theorem d_Gr_lay_0 : decode (am_c m_Gr_lay) 0 = .ok (.aload_n 0, 1) := by decide +kernel
theorem d_Gr_lay_1 : decode (am_c m_Gr_lay) 1 = .ok (.iload_n 1, 1) := by decide +kernel
theorem d_Gr_lay_2 : decode (am_c m_Gr_lay) 2 = .ok (.iload_n 2, 1) := by decide +kernel
theorem d_Gr_lay_3 : decode (am_c m_Gr_lay) 3 = .ok (.imul, 1) := by decide +kernel
theorem d_Gr_lay_4 : decode (am_c m_Gr_lay) 4 = .ok (.putfield 34, 3) := by decide +kernel
theorem d_Gr_lay_7 : decode (am_c m_Gr_lay) 7 = .ok (.aload_n 0, 1) := by decide +kernel
theorem d_Gr_lay_8 : decode (am_c m_Gr_lay) 8 = .ok (.getfield 15, 3) := by decide +kernel
theorem d_Gr_lay_11 : decode (am_c m_Gr_lay) 11 = .ok (.iconst 0, 1) := by decide +kernel
theorem d_Gr_lay_12 : decode (am_c m_Gr_lay) 12 = .ok (.invokestatic 37, 3) := by decide +kernel
theorem d_Gr_lay_15 : decode (am_c m_Gr_lay) 15 = .ok (.aload_n 0, 1) := by decide +kernel
theorem d_Gr_lay_16 : decode (am_c m_Gr_lay) 16 = .ok (.getfield 19, 3) := by decide +kernel
theorem d_Gr_lay_19 : decode (am_c m_Gr_lay) 19 = .ok (.bipush 10, 2) := by decide +kernel
theorem d_Gr_lay_21 : decode (am_c m_Gr_lay) 21 = .ok (.invokestatic 37, 3) := by decide +kernel
theorem d_Gr_lay_24 : decode (am_c m_Gr_lay) 24 = .ok (.iconst 0, 1) := by decide +kernel
theorem d_Gr_lay_25 : decode (am_c m_Gr_lay) 25 = .ok (.istore_n 3, 1) := by decide +kernel
theorem d_Gr_lay_26 : decode (am_c m_Gr_lay) 26 = .ok (.iload_n 3, 1) := by decide +kernel
theorem d_Gr_lay_27 : decode (am_c m_Gr_lay) 27 = .ok (.iload_n 2, 1) := by decide +kernel
theorem d_Gr_lay_28 : decode (am_c m_Gr_lay) 28 = .ok (.if_icmp .ge 128, 3) := by decide +kernel
theorem d_Gr_lay_31 : decode (am_c m_Gr_lay) 31 = .ok (.iconst 0, 1) := by decide +kernel
theorem d_Gr_lay_32 : decode (am_c m_Gr_lay) 32 = .ok (.istore 4, 2) := by decide +kernel
theorem d_Gr_lay_34 : decode (am_c m_Gr_lay) 34 = .ok (.iload 4, 2) := by decide +kernel
theorem d_Gr_lay_36 : decode (am_c m_Gr_lay) 36 = .ok (.iload_n 1, 1) := by decide +kernel
theorem d_Gr_lay_37 : decode (am_c m_Gr_lay) 37 = .ok (.if_icmp .ge 113, 3) := by decide +kernel
theorem d_Gr_lay_40 : decode (am_c m_Gr_lay) 40 = .ok (.iload_n 1, 1) := by decide +kernel
theorem d_Gr_lay_41 : decode (am_c m_Gr_lay) 41 = .ok (.iload_n 3, 1) := by decide +kernel
theorem d_Gr_lay_42 : decode (am_c m_Gr_lay) 42 = .ok (.imul, 1) := by decide +kernel
theorem d_Gr_lay_43 : decode (am_c m_Gr_lay) 43 = .ok (.iload 4, 2) := by decide +kernel
theorem d_Gr_lay_45 : decode (am_c m_Gr_lay) 45 = .ok (.iadd, 1) := by decide +kernel
theorem d_Gr_lay_46 : decode (am_c m_Gr_lay) 46 = .ok (.istore 5, 2) := by decide +kernel
theorem d_Gr_lay_48 : decode (am_c m_Gr_lay) 48 = .ok (.iload 5, 2) := by decide +kernel
theorem d_Gr_lay_50 : decode (am_c m_Gr_lay) 50 = .ok (.iconst 4, 1) := by decide +kernel
theorem d_Gr_lay_51 : decode (am_c m_Gr_lay) 51 = .ok (.imul, 1) := by decide +kernel
theorem d_Gr_lay_52 : decode (am_c m_Gr_lay) 52 = .ok (.istore 6, 2) := by decide +kernel
theorem d_Gr_lay_54 : decode (am_c m_Gr_lay) 54 = .ok (.aload_n 0, 1) := by decide +kernel
theorem d_Gr_lay_55 : decode (am_c m_Gr_lay) 55 = .ok (.getfield 22, 3) := by decide +kernel
theorem d_Gr_lay_58 : decode (am_c m_Gr_lay) 58 = .ok (.iload 6, 2) := by decide +kernel
theorem d_Gr_lay_60 : decode (am_c m_Gr_lay) 60 = .ok (.iload_n 3, 1) := by decide +kernel
theorem d_Gr_lay_61 : decode (am_c m_Gr_lay) 61 = .ok (.ifCond .le 10, 3) := by decide +kernel
theorem d_Gr_lay_64 : decode (am_c m_Gr_lay) 64 = .ok (.iload 5, 2) := by decide +kernel
theorem d_Gr_lay_66 : decode (am_c m_Gr_lay) 66 = .ok (.iload_n 1, 1) := by decide +kernel
theorem d_Gr_lay_67 : decode (am_c m_Gr_lay) 67 = .ok (.isub, 1) := by decide +kernel
theorem d_Gr_lay_68 : decode (am_c m_Gr_lay) 68 = .ok (.goto 4, 3) := by decide +kernel
theorem d_Gr_lay_71 : decode (am_c m_Gr_lay) 71 = .ok (.iconst (-1), 1) := by decide +kernel
theorem d_Gr_lay_72 : decode (am_c m_Gr_lay) 72 = .ok (.iastore, 1) := by decide +kernel
theorem d_Gr_lay_73 : decode (am_c m_Gr_lay) 73 = .ok (.aload_n 0, 1) := by decide +kernel
theorem d_Gr_lay_74 : decode (am_c m_Gr_lay) 74 = .ok (.getfield 22, 3) := by decide +kernel
theorem d_Gr_lay_77 : decode (am_c m_Gr_lay) 77 = .ok (.iload 6, 2) := by decide +kernel
theorem d_Gr_lay_79 : decode (am_c m_Gr_lay) 79 = .ok (.iconst 1, 1) := by decide +kernel
theorem d_Gr_lay_80 : decode (am_c m_Gr_lay) 80 = .ok (.iadd, 1) := by decide +kernel
theorem d_Gr_lay_81 : decode (am_c m_Gr_lay) 81 = .ok (.iload 4, 2) := by decide +kernel
theorem d_Gr_lay_83 : decode (am_c m_Gr_lay) 83 = .ok (.ifCond .le 10, 3) := by decide +kernel
theorem d_Gr_lay_86 : decode (am_c m_Gr_lay) 86 = .ok (.iload 5, 2) := by decide +kernel
theorem d_Gr_lay_88 : decode (am_c m_Gr_lay) 88 = .ok (.iconst 1, 1) := by decide +kernel
theorem d_Gr_lay_89 : decode (am_c m_Gr_lay) 89 = .ok (.isub, 1) := by decide +kernel
theorem d_Gr_lay_90 : decode (am_c m_Gr_lay) 90 = .ok (.goto 4, 3) := by decide +kernel
theorem d_Gr_lay_93 : decode (am_c m_Gr_lay) 93 = .ok (.iconst (-1), 1) := by decide +kernel
theorem d_Gr_lay_94 : decode (am_c m_Gr_lay) 94 = .ok (.iastore, 1) := by decide +kernel
theorem d_Gr_lay_95 : decode (am_c m_Gr_lay) 95 = .ok (.aload_n 0, 1) := by decide +kernel
theorem d_Gr_lay_96 : decode (am_c m_Gr_lay) 96 = .ok (.getfield 22, 3) := by decide +kernel
theorem d_Gr_lay_99 : decode (am_c m_Gr_lay) 99 = .ok (.iload 6, 2) := by decide +kernel
theorem d_Gr_lay_101 : decode (am_c m_Gr_lay) 101 = .ok (.iconst 2, 1) := by decide +kernel
theorem d_Gr_lay_102 : decode (am_c m_Gr_lay) 102 = .ok (.iadd, 1) := by decide +kernel
theorem d_Gr_lay_103 : decode (am_c m_Gr_lay) 103 = .ok (.iload 4, 2) := by decide +kernel
theorem d_Gr_lay_105 : decode (am_c m_Gr_lay) 105 = .ok (.iload_n 1, 1) := by decide +kernel
theorem d_Gr_lay_106 : decode (am_c m_Gr_lay) 106 = .ok (.iconst 1, 1) := by decide +kernel
theorem d_Gr_lay_107 : decode (am_c m_Gr_lay) 107 = .ok (.isub, 1) := by decide +kernel
theorem d_Gr_lay_108 : decode (am_c m_Gr_lay) 108 = .ok (.if_icmp .ge 10, 3) := by decide +kernel
theorem d_Gr_lay_111 : decode (am_c m_Gr_lay) 111 = .ok (.iload 5, 2) := by decide +kernel
theorem d_Gr_lay_113 : decode (am_c m_Gr_lay) 113 = .ok (.iconst 1, 1) := by decide +kernel
theorem d_Gr_lay_114 : decode (am_c m_Gr_lay) 114 = .ok (.iadd, 1) := by decide +kernel
theorem d_Gr_lay_115 : decode (am_c m_Gr_lay) 115 = .ok (.goto 4, 3) := by decide +kernel
theorem d_Gr_lay_118 : decode (am_c m_Gr_lay) 118 = .ok (.iconst (-1), 1) := by decide +kernel
theorem d_Gr_lay_119 : decode (am_c m_Gr_lay) 119 = .ok (.iastore, 1) := by decide +kernel
theorem d_Gr_lay_120 : decode (am_c m_Gr_lay) 120 = .ok (.aload_n 0, 1) := by decide +kernel
theorem d_Gr_lay_121 : decode (am_c m_Gr_lay) 121 = .ok (.getfield 22, 3) := by decide +kernel
theorem d_Gr_lay_124 : decode (am_c m_Gr_lay) 124 = .ok (.iload 6, 2) := by decide +kernel
theorem d_Gr_lay_126 : decode (am_c m_Gr_lay) 126 = .ok (.iconst 3, 1) := by decide +kernel
theorem d_Gr_lay_127 : decode (am_c m_Gr_lay) 127 = .ok (.iadd, 1) := by decide +kernel
theorem d_Gr_lay_128 : decode (am_c m_Gr_lay) 128 = .ok (.iload_n 3, 1) := by decide +kernel
theorem d_Gr_lay_129 : decode (am_c m_Gr_lay) 129 = .ok (.iload_n 2, 1) := by decide +kernel
theorem d_Gr_lay_130 : decode (am_c m_Gr_lay) 130 = .ok (.iconst 1, 1) := by decide +kernel
theorem d_Gr_lay_131 : decode (am_c m_Gr_lay) 131 = .ok (.isub, 1) := by decide +kernel
theorem d_Gr_lay_132 : decode (am_c m_Gr_lay) 132 = .ok (.if_icmp .ge 10, 3) := by decide +kernel
theorem d_Gr_lay_135 : decode (am_c m_Gr_lay) 135 = .ok (.iload 5, 2) := by decide +kernel
theorem d_Gr_lay_137 : decode (am_c m_Gr_lay) 137 = .ok (.iload_n 1, 1) := by decide +kernel
theorem d_Gr_lay_138 : decode (am_c m_Gr_lay) 138 = .ok (.iadd, 1) := by decide +kernel
theorem d_Gr_lay_139 : decode (am_c m_Gr_lay) 139 = .ok (.goto 4, 3) := by decide +kernel
theorem d_Gr_lay_142 : decode (am_c m_Gr_lay) 142 = .ok (.iconst (-1), 1) := by decide +kernel
theorem d_Gr_lay_143 : decode (am_c m_Gr_lay) 143 = .ok (.iastore, 1) := by decide +kernel
theorem d_Gr_lay_144 : decode (am_c m_Gr_lay) 144 = .ok (.iinc 4 1, 3) := by decide +kernel
theorem d_Gr_lay_147 : decode (am_c m_Gr_lay) 147 = .ok (.goto (-113), 3) := by decide +kernel
theorem d_Gr_lay_150 : decode (am_c m_Gr_lay) 150 = .ok (.iinc 3 1, 3) := by decide +kernel
theorem d_Gr_lay_153 : decode (am_c m_Gr_lay) 153 = .ok (.goto (-127), 3) := by decide +kernel
theorem d_Gr_lay_156 : decode (am_c m_Gr_lay) 156 = .ok (.return_, 1) := by decide +kernel
theorem d_Bo_init_0 : decode (am_c m_Bo_init) 0 = .ok (.aload_n 0, 1) := by decide +kernel
theorem d_Bo_init_1 : decode (am_c m_Bo_init) 1 = .ok (.invokespecial 3, 3) := by decide +kernel
theorem d_Bo_init_4 : decode (am_c m_Bo_init) 4 = .ok (.aload_n 0, 1) := by decide +kernel
theorem d_Bo_init_5 : decode (am_c m_Bo_init) 5 = .ok (.bipush 6, 2) := by decide +kernel
theorem d_Bo_init_7 : decode (am_c m_Bo_init) 7 = .ok (.newarray .int, 2) := by decide +kernel
theorem d_Bo_init_9 : decode (am_c m_Bo_init) 9 = .ok (.putfield 9, 3) := by decide +kernel
theorem d_Bo_init_12 : decode (am_c m_Bo_init) 12 = .ok (.aload_n 0, 1) := by decide +kernel
theorem d_Bo_init_13 : decode (am_c m_Bo_init) 13 = .ok (.bipush 6, 2) := by decide +kernel
theorem d_Bo_init_15 : decode (am_c m_Bo_init) 15 = .ok (.newarray .int, 2) := by decide +kernel
theorem d_Bo_init_17 : decode (am_c m_Bo_init) 17 = .ok (.putfield 15, 3) := by decide +kernel
theorem d_Bo_init_20 : decode (am_c m_Bo_init) 20 = .ok (.aload_n 0, 1) := by decide +kernel
theorem d_Bo_init_21 : decode (am_c m_Bo_init) 21 = .ok (.iconst 5, 1) := by decide +kernel
theorem d_Bo_init_22 : decode (am_c m_Bo_init) 22 = .ok (.newarray .int, 2) := by decide +kernel
theorem d_Bo_init_24 : decode (am_c m_Bo_init) 24 = .ok (.putfield 18, 3) := by decide +kernel
theorem d_Bo_init_27 : decode (am_c m_Bo_init) 27 = .ok (.aload_n 0, 1) := by decide +kernel
theorem d_Bo_init_28 : decode (am_c m_Bo_init) 28 = .ok (.iconst 5, 1) := by decide +kernel
theorem d_Bo_init_29 : decode (am_c m_Bo_init) 29 = .ok (.newarray .int, 2) := by decide +kernel
theorem d_Bo_init_31 : decode (am_c m_Bo_init) 31 = .ok (.putfield 21, 3) := by decide +kernel
theorem d_Bo_init_34 : decode (am_c m_Bo_init) 34 = .ok (.aload_n 0, 1) := by decide +kernel
theorem d_Bo_init_35 : decode (am_c m_Bo_init) 35 = .ok (.bipush 12, 2) := by decide +kernel
theorem d_Bo_init_37 : decode (am_c m_Bo_init) 37 = .ok (.newarray .int, 2) := by decide +kernel
theorem d_Bo_init_39 : decode (am_c m_Bo_init) 39 = .ok (.putfield 24, 3) := by decide +kernel
theorem d_Bo_init_42 : decode (am_c m_Bo_init) 42 = .ok (.aload_n 0, 1) := by decide +kernel
theorem d_Bo_init_43 : decode (am_c m_Bo_init) 43 = .ok (.bipush 12, 2) := by decide +kernel
theorem d_Bo_init_45 : decode (am_c m_Bo_init) 45 = .ok (.newarray .int, 2) := by decide +kernel
theorem d_Bo_init_47 : decode (am_c m_Bo_init) 47 = .ok (.putfield 27, 3) := by decide +kernel
theorem d_Bo_init_50 : decode (am_c m_Bo_init) 50 = .ok (.aload_n 0, 1) := by decide +kernel
theorem d_Bo_init_51 : decode (am_c m_Bo_init) 51 = .ok (.bipush 12, 2) := by decide +kernel
theorem d_Bo_init_53 : decode (am_c m_Bo_init) 53 = .ok (.newarray .int, 2) := by decide +kernel
theorem d_Bo_init_55 : decode (am_c m_Bo_init) 55 = .ok (.putfield 30, 3) := by decide +kernel
theorem d_Bo_init_58 : decode (am_c m_Bo_init) 58 = .ok (.aload_n 0, 1) := by decide +kernel
theorem d_Bo_init_59 : decode (am_c m_Bo_init) 59 = .ok (.bipush 40, 2) := by decide +kernel
theorem d_Bo_init_61 : decode (am_c m_Bo_init) 61 = .ok (.newarray .int, 2) := by decide +kernel
theorem d_Bo_init_63 : decode (am_c m_Bo_init) 63 = .ok (.putfield 33, 3) := by decide +kernel
theorem d_Bo_init_66 : decode (am_c m_Bo_init) 66 = .ok (.aload_n 0, 1) := by decide +kernel
theorem d_Bo_init_67 : decode (am_c m_Bo_init) 67 = .ok (.bipush 40, 2) := by decide +kernel
theorem d_Bo_init_69 : decode (am_c m_Bo_init) 69 = .ok (.newarray .int, 2) := by decide +kernel
theorem d_Bo_init_71 : decode (am_c m_Bo_init) 71 = .ok (.putfield 36, 3) := by decide +kernel
theorem d_Bo_init_74 : decode (am_c m_Bo_init) 74 = .ok (.aload_n 0, 1) := by decide +kernel
theorem d_Bo_init_75 : decode (am_c m_Bo_init) 75 = .ok (.bipush 40, 2) := by decide +kernel
theorem d_Bo_init_77 : decode (am_c m_Bo_init) 77 = .ok (.newarray .int, 2) := by decide +kernel
theorem d_Bo_init_79 : decode (am_c m_Bo_init) 79 = .ok (.putfield 39, 3) := by decide +kernel
theorem d_Bo_init_82 : decode (am_c m_Bo_init) 82 = .ok (.aload_n 0, 1) := by decide +kernel
theorem d_Bo_init_83 : decode (am_c m_Bo_init) 83 = .ok (.bipush 40, 2) := by decide +kernel
theorem d_Bo_init_85 : decode (am_c m_Bo_init) 85 = .ok (.newarray .int, 2) := by decide +kernel
theorem d_Bo_init_87 : decode (am_c m_Bo_init) 87 = .ok (.putfield 42, 3) := by decide +kernel
theorem d_Bo_init_90 : decode (am_c m_Bo_init) 90 = .ok (.return_, 1) := by decide +kernel
theorem d_Ra_init_0 : decode (am_c m_Ra_init) 0 = .ok (.aload_n 0, 1) := by decide +kernel
theorem d_Ra_init_1 : decode (am_c m_Ra_init) 1 = .ok (.invokespecial 3, 3) := by decide +kernel
theorem d_Ra_init_4 : decode (am_c m_Ra_init) 4 = .ok (.aload_n 0, 1) := by decide +kernel
theorem d_Ra_init_5 : decode (am_c m_Ra_init) 5 = .ok (.bipush 12, 2) := by decide +kernel
theorem d_Ra_init_7 : decode (am_c m_Ra_init) 7 = .ok (.newarray .int, 2) := by decide +kernel
theorem d_Ra_init_9 : decode (am_c m_Ra_init) 9 = .ok (.putfield 9, 3) := by decide +kernel
theorem d_Ra_init_12 : decode (am_c m_Ra_init) 12 = .ok (.aload_n 0, 1) := by decide +kernel
theorem d_Ra_init_13 : decode (am_c m_Ra_init) 13 = .ok (.bipush 12, 2) := by decide +kernel
theorem d_Ra_init_15 : decode (am_c m_Ra_init) 15 = .ok (.bipush 8, 2) := by decide +kernel
theorem d_Ra_init_17 : decode (am_c m_Ra_init) 17 = .ok (.multianewarray 15 2, 4) := by decide +kernel
theorem d_Ra_init_21 : decode (am_c m_Ra_init) 21 = .ok (.putfield 17, 3) := by decide +kernel
theorem d_Ra_init_24 : decode (am_c m_Ra_init) 24 = .ok (.aload_n 0, 1) := by decide +kernel
theorem d_Ra_init_25 : decode (am_c m_Ra_init) 25 = .ok (.aload_n 1, 1) := by decide +kernel
theorem d_Ra_init_26 : decode (am_c m_Ra_init) 26 = .ok (.putfield 20, 3) := by decide +kernel
theorem d_Ra_init_29 : decode (am_c m_Ra_init) 29 = .ok (.aload_n 0, 1) := by decide +kernel
theorem d_Ra_init_30 : decode (am_c m_Ra_init) 30 = .ok (.aload_n 2, 1) := by decide +kernel
theorem d_Ra_init_31 : decode (am_c m_Ra_init) 31 = .ok (.putfield 24, 3) := by decide +kernel
theorem d_Ra_init_34 : decode (am_c m_Ra_init) 34 = .ok (.return_, 1) := by decide +kernel
theorem d_Ft_init_0 : decode (am_c m_Ft_init) 0 = .ok (.aload_n 0, 1) := by decide +kernel
theorem d_Ft_init_1 : decode (am_c m_Ft_init) 1 = .ok (.invokespecial 3, 3) := by decide +kernel
theorem d_Ft_init_4 : decode (am_c m_Ft_init) 4 = .ok (.aload_n 0, 1) := by decide +kernel
theorem d_Ft_init_5 : decode (am_c m_Ft_init) 5 = .ok (.bipush 12, 2) := by decide +kernel
theorem d_Ft_init_7 : decode (am_c m_Ft_init) 7 = .ok (.newarray .int, 2) := by decide +kernel
theorem d_Ft_init_9 : decode (am_c m_Ft_init) 9 = .ok (.putfield 9, 3) := by decide +kernel
theorem d_Ft_init_12 : decode (am_c m_Ft_init) 12 = .ok (.aload_n 0, 1) := by decide +kernel
theorem d_Ft_init_13 : decode (am_c m_Ft_init) 13 = .ok (.bipush 12, 2) := by decide +kernel
theorem d_Ft_init_15 : decode (am_c m_Ft_init) 15 = .ok (.newarray .int, 2) := by decide +kernel
theorem d_Ft_init_17 : decode (am_c m_Ft_init) 17 = .ok (.putfield 15, 3) := by decide +kernel
theorem d_Ft_init_20 : decode (am_c m_Ft_init) 20 = .ok (.aload_n 0, 1) := by decide +kernel
theorem d_Ft_init_21 : decode (am_c m_Ft_init) 21 = .ok (.bipush 61, 2) := by decide +kernel
theorem d_Ft_init_23 : decode (am_c m_Ft_init) 23 = .ok (.newarray .int, 2) := by decide +kernel
theorem d_Ft_init_25 : decode (am_c m_Ft_init) 25 = .ok (.putfield 18, 3) := by decide +kernel
theorem d_Ft_init_28 : decode (am_c m_Ft_init) 28 = .ok (.aload_n 0, 1) := by decide +kernel
theorem d_Ft_init_29 : decode (am_c m_Ft_init) 29 = .ok (.bipush 12, 2) := by decide +kernel
theorem d_Ft_init_31 : decode (am_c m_Ft_init) 31 = .ok (.newarray .int, 2) := by decide +kernel
theorem d_Ft_init_33 : decode (am_c m_Ft_init) 33 = .ok (.putfield 21, 3) := by decide +kernel
theorem d_Ft_init_36 : decode (am_c m_Ft_init) 36 = .ok (.aload_n 0, 1) := by decide +kernel
theorem d_Ft_init_37 : decode (am_c m_Ft_init) 37 = .ok (.bipush 61, 2) := by decide +kernel
theorem d_Ft_init_39 : decode (am_c m_Ft_init) 39 = .ok (.bipush 12, 2) := by decide +kernel
theorem d_Ft_init_41 : decode (am_c m_Ft_init) 41 = .ok (.multianewarray 24 2, 4) := by decide +kernel
theorem d_Ft_init_45 : decode (am_c m_Ft_init) 45 = .ok (.putfield 26, 3) := by decide +kernel
theorem d_Ft_init_48 : decode (am_c m_Ft_init) 48 = .ok (.aload_n 0, 1) := by decide +kernel
theorem d_Ft_init_49 : decode (am_c m_Ft_init) 49 = .ok (.bipush 61, 2) := by decide +kernel
theorem d_Ft_init_51 : decode (am_c m_Ft_init) 51 = .ok (.newarray .int, 2) := by decide +kernel
theorem d_Ft_init_53 : decode (am_c m_Ft_init) 53 = .ok (.putfield 29, 3) := by decide +kernel
theorem d_Ft_init_56 : decode (am_c m_Ft_init) 56 = .ok (.aload_n 0, 1) := by decide +kernel
theorem d_Ft_init_57 : decode (am_c m_Ft_init) 57 = .ok (.aload_n 1, 1) := by decide +kernel
theorem d_Ft_init_58 : decode (am_c m_Ft_init) 58 = .ok (.putfield 32, 3) := by decide +kernel
theorem d_Ft_init_61 : decode (am_c m_Ft_init) 61 = .ok (.aload_n 0, 1) := by decide +kernel
theorem d_Ft_init_62 : decode (am_c m_Ft_init) 62 = .ok (.aload_n 2, 1) := by decide +kernel
theorem d_Ft_init_63 : decode (am_c m_Ft_init) 63 = .ok (.putfield 36, 3) := by decide +kernel
theorem d_Ft_init_66 : decode (am_c m_Ft_init) 66 = .ok (.return_, 1) := by decide +kernel
theorem d_Bo_forgetAll_0 : decode (am_c m_Bo_forgetAll) 0 = .ok (.aload_n 0, 1) := by decide +kernel
theorem d_Bo_forgetAll_1 : decode (am_c m_Bo_forgetAll) 1 = .ok (.iconst 0, 1) := by decide +kernel
theorem d_Bo_forgetAll_2 : decode (am_c m_Bo_forgetAll) 2 = .ok (.putfield 45, 3) := by decide +kernel
theorem d_Bo_forgetAll_5 : decode (am_c m_Bo_forgetAll) 5 = .ok (.aload_n 0, 1) := by decide +kernel
theorem d_Bo_forgetAll_6 : decode (am_c m_Bo_forgetAll) 6 = .ok (.iconst 0, 1) := by decide +kernel
theorem d_Bo_forgetAll_7 : decode (am_c m_Bo_forgetAll) 7 = .ok (.putfield 49, 3) := by decide +kernel
theorem d_Bo_forgetAll_10 : decode (am_c m_Bo_forgetAll) 10 = .ok (.aload_n 0, 1) := by decide +kernel
theorem d_Bo_forgetAll_11 : decode (am_c m_Bo_forgetAll) 11 = .ok (.iconst 0, 1) := by decide +kernel
theorem d_Bo_forgetAll_12 : decode (am_c m_Bo_forgetAll) 12 = .ok (.putfield 52, 3) := by decide +kernel
theorem d_Bo_forgetAll_15 : decode (am_c m_Bo_forgetAll) 15 = .ok (.aload_n 0, 1) := by decide +kernel
theorem d_Bo_forgetAll_16 : decode (am_c m_Bo_forgetAll) 16 = .ok (.iconst 0, 1) := by decide +kernel
theorem d_Bo_forgetAll_17 : decode (am_c m_Bo_forgetAll) 17 = .ok (.putfield 55, 3) := by decide +kernel
theorem d_Bo_forgetAll_20 : decode (am_c m_Bo_forgetAll) 20 = .ok (.return_, 1) := by decide +kernel
theorem d_Gr_allCells_0 : decode (am_c m_Gr_allCells) 0 = .ok (.iconst 1, 1) := by decide +kernel
theorem d_Gr_allCells_1 : decode (am_c m_Gr_allCells) 1 = .ok (.aload_n 0, 1) := by decide +kernel
theorem d_Gr_allCells_2 : decode (am_c m_Gr_allCells) 2 = .ok (.getfield 34, 3) := by decide +kernel
theorem d_Gr_allCells_5 : decode (am_c m_Gr_allCells) 5 = .ok (.ishl, 1) := by decide +kernel
theorem d_Gr_allCells_6 : decode (am_c m_Gr_allCells) 6 = .ok (.iconst 1, 1) := by decide +kernel
theorem d_Gr_allCells_7 : decode (am_c m_Gr_allCells) 7 = .ok (.isub, 1) := by decide +kernel
theorem d_Gr_allCells_8 : decode (am_c m_Gr_allCells) 8 = .ok (.ireturn, 1) := by decide +kernel
theorem d_Gr_splitBlock_0 : decode (am_c m_Gr_splitBlock) 0 = .ok (.aload_n 0, 1) := by decide +kernel
theorem d_Gr_splitBlock_1 : decode (am_c m_Gr_splitBlock) 1 = .ok (.iload_n 1, 1) := by decide +kernel
theorem d_Gr_splitBlock_2 : decode (am_c m_Gr_splitBlock) 2 = .ok (.invokevirtual 43, 3) := by decide +kernel
theorem d_Gr_splitBlock_5 : decode (am_c m_Gr_splitBlock) 5 = .ok (.istore_n 3, 1) := by decide +kernel
theorem d_Gr_splitBlock_6 : decode (am_c m_Gr_splitBlock) 6 = .ok (.iload_n 3, 1) := by decide +kernel
theorem d_Gr_splitBlock_7 : decode (am_c m_Gr_splitBlock) 7 = .ok (.iload_n 2, 1) := by decide +kernel
theorem d_Gr_splitBlock_8 : decode (am_c m_Gr_splitBlock) 8 = .ok (.iand, 1) := by decide +kernel
theorem d_Gr_splitBlock_9 : decode (am_c m_Gr_splitBlock) 9 = .ok (.ifCond .eq 10, 3) := by decide +kernel
theorem d_Gr_splitBlock_12 : decode (am_c m_Gr_splitBlock) 12 = .ok (.iload_n 3, 1) := by decide +kernel
theorem d_Gr_splitBlock_13 : decode (am_c m_Gr_splitBlock) 13 = .ok (.iload_n 2, 1) := by decide +kernel
theorem d_Gr_splitBlock_14 : decode (am_c m_Gr_splitBlock) 14 = .ok (.iand, 1) := by decide +kernel
theorem d_Gr_splitBlock_15 : decode (am_c m_Gr_splitBlock) 15 = .ok (.iload_n 3, 1) := by decide +kernel
theorem d_Gr_splitBlock_16 : decode (am_c m_Gr_splitBlock) 16 = .ok (.if_icmp .ne 6, 3) := by decide +kernel
theorem d_Gr_splitBlock_19 : decode (am_c m_Gr_splitBlock) 19 = .ok (.bipush (-4), 2) := by decide +kernel
theorem d_Gr_splitBlock_21 : decode (am_c m_Gr_splitBlock) 21 = .ok (.ireturn, 1) := by decide +kernel
theorem d_Gr_splitBlock_22 : decode (am_c m_Gr_splitBlock) 22 = .ok (.iconst 0, 1) := by decide +kernel
theorem d_Gr_splitBlock_23 : decode (am_c m_Gr_splitBlock) 23 = .ok (.istore 4, 2) := by decide +kernel
theorem d_Gr_splitBlock_25 : decode (am_c m_Gr_splitBlock) 25 = .ok (.iload 4, 2) := by decide +kernel
theorem d_Gr_splitBlock_27 : decode (am_c m_Gr_splitBlock) 27 = .ok (.bipush 8, 2) := by decide +kernel
theorem d_Gr_splitBlock_29 : decode (am_c m_Gr_splitBlock) 29 = .ok (.if_icmp .ge 42, 3) := by decide +kernel
theorem d_Gr_splitBlock_32 : decode (am_c m_Gr_splitBlock) 32 = .ok (.aload_n 0, 1) := by decide +kernel
theorem d_Gr_splitBlock_33 : decode (am_c m_Gr_splitBlock) 33 = .ok (.iload 4, 2) := by decide +kernel
theorem d_Gr_splitBlock_35 : decode (am_c m_Gr_splitBlock) 35 = .ok (.invokevirtual 43, 3) := by decide +kernel
theorem d_Gr_splitBlock_38 : decode (am_c m_Gr_splitBlock) 38 = .ok (.ifCond .ne 27, 3) := by decide +kernel
theorem d_Gr_splitBlock_41 : decode (am_c m_Gr_splitBlock) 41 = .ok (.aload_n 0, 1) := by decide +kernel
theorem d_Gr_splitBlock_42 : decode (am_c m_Gr_splitBlock) 42 = .ok (.iload_n 1, 1) := by decide +kernel
theorem d_Gr_splitBlock_43 : decode (am_c m_Gr_splitBlock) 43 = .ok (.iload_n 2, 1) := by decide +kernel
theorem d_Gr_splitBlock_44 : decode (am_c m_Gr_splitBlock) 44 = .ok (.iload 4, 2) := by decide +kernel
theorem d_Gr_splitBlock_46 : decode (am_c m_Gr_splitBlock) 46 = .ok (.invokevirtual 52, 3) := by decide +kernel
theorem d_Gr_splitBlock_49 : decode (am_c m_Gr_splitBlock) 49 = .ok (.aload_n 0, 1) := by decide +kernel
theorem d_Gr_splitBlock_50 : decode (am_c m_Gr_splitBlock) 50 = .ok (.getfield 19, 3) := by decide +kernel
theorem d_Gr_splitBlock_53 : decode (am_c m_Gr_splitBlock) 53 = .ok (.iload 4, 2) := by decide +kernel
theorem d_Gr_splitBlock_55 : decode (am_c m_Gr_splitBlock) 55 = .ok (.aload_n 0, 1) := by decide +kernel
theorem d_Gr_splitBlock_56 : decode (am_c m_Gr_splitBlock) 56 = .ok (.getfield 19, 3) := by decide +kernel
theorem d_Gr_splitBlock_59 : decode (am_c m_Gr_splitBlock) 59 = .ok (.iload_n 1, 1) := by decide +kernel
theorem d_Gr_splitBlock_60 : decode (am_c m_Gr_splitBlock) 60 = .ok (.iaload, 1) := by decide +kernel
theorem d_Gr_splitBlock_61 : decode (am_c m_Gr_splitBlock) 61 = .ok (.iastore, 1) := by decide +kernel
theorem d_Gr_splitBlock_62 : decode (am_c m_Gr_splitBlock) 62 = .ok (.iload 4, 2) := by decide +kernel
theorem d_Gr_splitBlock_64 : decode (am_c m_Gr_splitBlock) 64 = .ok (.ireturn, 1) := by decide +kernel
theorem d_Gr_splitBlock_65 : decode (am_c m_Gr_splitBlock) 65 = .ok (.iinc 4 1, 3) := by decide +kernel
theorem d_Gr_splitBlock_68 : decode (am_c m_Gr_splitBlock) 68 = .ok (.goto (-43), 3) := by decide +kernel
theorem d_Gr_splitBlock_71 : decode (am_c m_Gr_splitBlock) 71 = .ok (.bipush (-5), 2) := by decide +kernel
theorem d_Gr_splitBlock_73 : decode (am_c m_Gr_splitBlock) 73 = .ok (.ireturn, 1) := by decide +kernel
theorem d_Gr_cellsOf_0 : decode (am_c m_Gr_cellsOf) 0 = .ok (.iconst 0, 1) := by decide +kernel
theorem d_Gr_cellsOf_1 : decode (am_c m_Gr_cellsOf) 1 = .ok (.istore_n 2, 1) := by decide +kernel
theorem d_Gr_cellsOf_2 : decode (am_c m_Gr_cellsOf) 2 = .ok (.iconst 0, 1) := by decide +kernel
theorem d_Gr_cellsOf_3 : decode (am_c m_Gr_cellsOf) 3 = .ok (.istore_n 3, 1) := by decide +kernel
theorem d_Gr_cellsOf_4 : decode (am_c m_Gr_cellsOf) 4 = .ok (.iload_n 3, 1) := by decide +kernel
theorem d_Gr_cellsOf_5 : decode (am_c m_Gr_cellsOf) 5 = .ok (.aload_n 0, 1) := by decide +kernel
theorem d_Gr_cellsOf_6 : decode (am_c m_Gr_cellsOf) 6 = .ok (.getfield 34, 3) := by decide +kernel
theorem d_Gr_cellsOf_9 : decode (am_c m_Gr_cellsOf) 9 = .ok (.if_icmp .ge 25, 3) := by decide +kernel
theorem d_Gr_cellsOf_12 : decode (am_c m_Gr_cellsOf) 12 = .ok (.aload_n 0, 1) := by decide +kernel
theorem d_Gr_cellsOf_13 : decode (am_c m_Gr_cellsOf) 13 = .ok (.getfield 15, 3) := by decide +kernel
theorem d_Gr_cellsOf_16 : decode (am_c m_Gr_cellsOf) 16 = .ok (.iload_n 3, 1) := by decide +kernel
theorem d_Gr_cellsOf_17 : decode (am_c m_Gr_cellsOf) 17 = .ok (.iaload, 1) := by decide +kernel
theorem d_Gr_cellsOf_18 : decode (am_c m_Gr_cellsOf) 18 = .ok (.iload_n 1, 1) := by decide +kernel
theorem d_Gr_cellsOf_19 : decode (am_c m_Gr_cellsOf) 19 = .ok (.if_icmp .ne 9, 3) := by decide +kernel
theorem d_Gr_cellsOf_22 : decode (am_c m_Gr_cellsOf) 22 = .ok (.iload_n 2, 1) := by decide +kernel
theorem d_Gr_cellsOf_23 : decode (am_c m_Gr_cellsOf) 23 = .ok (.iconst 1, 1) := by decide +kernel
theorem d_Gr_cellsOf_24 : decode (am_c m_Gr_cellsOf) 24 = .ok (.iload_n 3, 1) := by decide +kernel
theorem d_Gr_cellsOf_25 : decode (am_c m_Gr_cellsOf) 25 = .ok (.ishl, 1) := by decide +kernel
theorem d_Gr_cellsOf_26 : decode (am_c m_Gr_cellsOf) 26 = .ok (.ior, 1) := by decide +kernel
theorem d_Gr_cellsOf_27 : decode (am_c m_Gr_cellsOf) 27 = .ok (.istore_n 2, 1) := by decide +kernel
theorem d_Gr_cellsOf_28 : decode (am_c m_Gr_cellsOf) 28 = .ok (.iinc 3 1, 3) := by decide +kernel
theorem d_Gr_cellsOf_31 : decode (am_c m_Gr_cellsOf) 31 = .ok (.goto (-27), 3) := by decide +kernel
theorem d_Gr_cellsOf_34 : decode (am_c m_Gr_cellsOf) 34 = .ok (.iload_n 2, 1) := by decide +kernel
theorem d_Gr_cellsOf_35 : decode (am_c m_Gr_cellsOf) 35 = .ok (.ireturn, 1) := by decide +kernel
theorem d_Gr_moveCells_0 : decode (am_c m_Gr_moveCells) 0 = .ok (.iconst 0, 1) := by decide +kernel
theorem d_Gr_moveCells_1 : decode (am_c m_Gr_moveCells) 1 = .ok (.istore 4, 2) := by decide +kernel
theorem d_Gr_moveCells_3 : decode (am_c m_Gr_moveCells) 3 = .ok (.iload 4, 2) := by decide +kernel
theorem d_Gr_moveCells_5 : decode (am_c m_Gr_moveCells) 5 = .ok (.aload_n 0, 1) := by decide +kernel
theorem d_Gr_moveCells_6 : decode (am_c m_Gr_moveCells) 6 = .ok (.getfield 34, 3) := by decide +kernel
theorem d_Gr_moveCells_9 : decode (am_c m_Gr_moveCells) 9 = .ok (.if_icmp .ge 38, 3) := by decide +kernel
theorem d_Gr_moveCells_12 : decode (am_c m_Gr_moveCells) 12 = .ok (.aload_n 0, 1) := by decide +kernel
theorem d_Gr_moveCells_13 : decode (am_c m_Gr_moveCells) 13 = .ok (.getfield 15, 3) := by decide +kernel
theorem d_Gr_moveCells_16 : decode (am_c m_Gr_moveCells) 16 = .ok (.iload 4, 2) := by decide +kernel
theorem d_Gr_moveCells_18 : decode (am_c m_Gr_moveCells) 18 = .ok (.iaload, 1) := by decide +kernel
theorem d_Gr_moveCells_19 : decode (am_c m_Gr_moveCells) 19 = .ok (.iload_n 1, 1) := by decide +kernel
theorem d_Gr_moveCells_20 : decode (am_c m_Gr_moveCells) 20 = .ok (.if_icmp .ne 21, 3) := by decide +kernel
theorem d_Gr_moveCells_23 : decode (am_c m_Gr_moveCells) 23 = .ok (.iload_n 2, 1) := by decide +kernel
theorem d_Gr_moveCells_24 : decode (am_c m_Gr_moveCells) 24 = .ok (.iload 4, 2) := by decide +kernel
theorem d_Gr_moveCells_26 : decode (am_c m_Gr_moveCells) 26 = .ok (.ishr, 1) := by decide +kernel
theorem d_Gr_moveCells_27 : decode (am_c m_Gr_moveCells) 27 = .ok (.iconst 1, 1) := by decide +kernel
theorem d_Gr_moveCells_28 : decode (am_c m_Gr_moveCells) 28 = .ok (.iand, 1) := by decide +kernel
theorem d_Gr_moveCells_29 : decode (am_c m_Gr_moveCells) 29 = .ok (.iconst 1, 1) := by decide +kernel
theorem d_Gr_moveCells_30 : decode (am_c m_Gr_moveCells) 30 = .ok (.if_icmp .ne 11, 3) := by decide +kernel
theorem d_Gr_moveCells_33 : decode (am_c m_Gr_moveCells) 33 = .ok (.aload_n 0, 1) := by decide +kernel
theorem d_Gr_moveCells_34 : decode (am_c m_Gr_moveCells) 34 = .ok (.getfield 15, 3) := by decide +kernel
theorem d_Gr_moveCells_37 : decode (am_c m_Gr_moveCells) 37 = .ok (.iload 4, 2) := by decide +kernel
theorem d_Gr_moveCells_39 : decode (am_c m_Gr_moveCells) 39 = .ok (.iload_n 3, 1) := by decide +kernel
theorem d_Gr_moveCells_40 : decode (am_c m_Gr_moveCells) 40 = .ok (.iastore, 1) := by decide +kernel
theorem d_Gr_moveCells_41 : decode (am_c m_Gr_moveCells) 41 = .ok (.iinc 4 1, 3) := by decide +kernel
theorem d_Gr_moveCells_44 : decode (am_c m_Gr_moveCells) 44 = .ok (.goto (-41), 3) := by decide +kernel
theorem d_Gr_moveCells_47 : decode (am_c m_Gr_moveCells) 47 = .ok (.return_, 1) := by decide +kernel
theorem d_Gr_cellsIn_0 : decode (am_c m_Gr_cellsIn) 0 = .ok (.aload_n 0, 1) := by decide +kernel
theorem d_Gr_cellsIn_1 : decode (am_c m_Gr_cellsIn) 1 = .ok (.iload_n 1, 1) := by decide +kernel
theorem d_Gr_cellsIn_2 : decode (am_c m_Gr_cellsIn) 2 = .ok (.invokevirtual 43, 3) := by decide +kernel
theorem d_Gr_cellsIn_5 : decode (am_c m_Gr_cellsIn) 5 = .ok (.invokestatic 47, 3) := by decide +kernel
theorem d_Gr_cellsIn_8 : decode (am_c m_Gr_cellsIn) 8 = .ok (.ireturn, 1) := by decide +kernel
theorem d_Gr_spread_0 : decode (am_c m_Gr_spread) 0 = .ok (.iconst 0, 1) := by decide +kernel
theorem d_Gr_spread_1 : decode (am_c m_Gr_spread) 1 = .ok (.istore_n 3, 1) := by decide +kernel
theorem d_Gr_spread_2 : decode (am_c m_Gr_spread) 2 = .ok (.iload_n 3, 1) := by decide +kernel
theorem d_Gr_spread_3 : decode (am_c m_Gr_spread) 3 = .ok (.aload_n 0, 1) := by decide +kernel
theorem d_Gr_spread_4 : decode (am_c m_Gr_spread) 4 = .ok (.getfield 34, 3) := by decide +kernel
theorem d_Gr_spread_7 : decode (am_c m_Gr_spread) 7 = .ok (.if_icmp .ge 39, 3) := by decide +kernel
theorem d_Gr_spread_10 : decode (am_c m_Gr_spread) 10 = .ok (.aload_n 0, 1) := by decide +kernel
theorem d_Gr_spread_11 : decode (am_c m_Gr_spread) 11 = .ok (.getfield 25, 3) := by decide +kernel
theorem d_Gr_spread_14 : decode (am_c m_Gr_spread) 14 = .ok (.iload_n 3, 1) := by decide +kernel
theorem d_Gr_spread_15 : decode (am_c m_Gr_spread) 15 = .ok (.aload_n 0, 1) := by decide +kernel
theorem d_Gr_spread_16 : decode (am_c m_Gr_spread) 16 = .ok (.aload_n 0, 1) := by decide +kernel
theorem d_Gr_spread_17 : decode (am_c m_Gr_spread) 17 = .ok (.getfield 19, 3) := by decide +kernel
theorem d_Gr_spread_20 : decode (am_c m_Gr_spread) 20 = .ok (.aload_n 0, 1) := by decide +kernel
theorem d_Gr_spread_21 : decode (am_c m_Gr_spread) 21 = .ok (.getfield 15, 3) := by decide +kernel
theorem d_Gr_spread_24 : decode (am_c m_Gr_spread) 24 = .ok (.iload_n 3, 1) := by decide +kernel
theorem d_Gr_spread_25 : decode (am_c m_Gr_spread) 25 = .ok (.iaload, 1) := by decide +kernel
theorem d_Gr_spread_26 : decode (am_c m_Gr_spread) 26 = .ok (.iaload, 1) := by decide +kernel
theorem d_Gr_spread_27 : decode (am_c m_Gr_spread) 27 = .ok (.iload_n 2, 1) := by decide +kernel
theorem d_Gr_spread_28 : decode (am_c m_Gr_spread) 28 = .ok (.invokevirtual 56, 3) := by decide +kernel
theorem d_Gr_spread_31 : decode (am_c m_Gr_spread) 31 = .ok (.iastore, 1) := by decide +kernel
theorem d_Gr_spread_32 : decode (am_c m_Gr_spread) 32 = .ok (.aload_n 0, 1) := by decide +kernel
theorem d_Gr_spread_33 : decode (am_c m_Gr_spread) 33 = .ok (.getfield 28, 3) := by decide +kernel
theorem d_Gr_spread_36 : decode (am_c m_Gr_spread) 36 = .ok (.iload_n 3, 1) := by decide +kernel
theorem d_Gr_spread_37 : decode (am_c m_Gr_spread) 37 = .ok (.ldc 60, 2) := by decide +kernel
theorem d_Gr_spread_39 : decode (am_c m_Gr_spread) 39 = .ok (.iastore, 1) := by decide +kernel
theorem d_Gr_spread_40 : decode (am_c m_Gr_spread) 40 = .ok (.iinc 3 1, 3) := by decide +kernel
theorem d_Gr_spread_43 : decode (am_c m_Gr_spread) 43 = .ok (.goto (-41), 3) := by decide +kernel
theorem d_Gr_spread_46 : decode (am_c m_Gr_spread) 46 = .ok (.aload_n 0, 1) := by decide +kernel
theorem d_Gr_spread_47 : decode (am_c m_Gr_spread) 47 = .ok (.getfield 28, 3) := by decide +kernel
theorem d_Gr_spread_50 : decode (am_c m_Gr_spread) 50 = .ok (.iload_n 1, 1) := by decide +kernel
theorem d_Gr_spread_51 : decode (am_c m_Gr_spread) 51 = .ok (.iconst 0, 1) := by decide +kernel
theorem d_Gr_spread_52 : decode (am_c m_Gr_spread) 52 = .ok (.iastore, 1) := by decide +kernel
theorem d_Gr_spread_53 : decode (am_c m_Gr_spread) 53 = .ok (.iconst 1, 1) := by decide +kernel
theorem d_Gr_spread_54 : decode (am_c m_Gr_spread) 54 = .ok (.istore_n 3, 1) := by decide +kernel
theorem d_Gr_spread_55 : decode (am_c m_Gr_spread) 55 = .ok (.iconst 0, 1) := by decide +kernel
theorem d_Gr_spread_56 : decode (am_c m_Gr_spread) 56 = .ok (.istore 4, 2) := by decide +kernel
theorem d_Gr_spread_58 : decode (am_c m_Gr_spread) 58 = .ok (.iload 4, 2) := by decide +kernel
theorem d_Gr_spread_60 : decode (am_c m_Gr_spread) 60 = .ok (.aload_n 0, 1) := by decide +kernel
theorem d_Gr_spread_61 : decode (am_c m_Gr_spread) 61 = .ok (.getfield 34, 3) := by decide +kernel
theorem d_Gr_spread_64 : decode (am_c m_Gr_spread) 64 = .ok (.if_icmp .ge 67, 3) := by decide +kernel
theorem d_Gr_spread_67 : decode (am_c m_Gr_spread) 67 = .ok (.iload_n 3, 1) := by decide +kernel
theorem d_Gr_spread_68 : decode (am_c m_Gr_spread) 68 = .ok (.ifCond .eq 63, 3) := by decide +kernel
theorem d_Gr_spread_71 : decode (am_c m_Gr_spread) 71 = .ok (.iconst 0, 1) := by decide +kernel
theorem d_Gr_spread_72 : decode (am_c m_Gr_spread) 72 = .ok (.istore_n 3, 1) := by decide +kernel
theorem d_Gr_spread_73 : decode (am_c m_Gr_spread) 73 = .ok (.iconst 0, 1) := by decide +kernel
theorem d_Gr_spread_74 : decode (am_c m_Gr_spread) 74 = .ok (.istore 5, 2) := by decide +kernel
theorem d_Gr_spread_76 : decode (am_c m_Gr_spread) 76 = .ok (.iload 5, 2) := by decide +kernel
theorem d_Gr_spread_78 : decode (am_c m_Gr_spread) 78 = .ok (.aload_n 0, 1) := by decide +kernel
theorem d_Gr_spread_79 : decode (am_c m_Gr_spread) 79 = .ok (.getfield 34, 3) := by decide +kernel
theorem d_Gr_spread_82 : decode (am_c m_Gr_spread) 82 = .ok (.if_icmp .ge 43, 3) := by decide +kernel
theorem d_Gr_spread_85 : decode (am_c m_Gr_spread) 85 = .ok (.iload 4, 2) := by decide +kernel
theorem d_Gr_spread_87 : decode (am_c m_Gr_spread) 87 = .ok (.iconst 1, 1) := by decide +kernel
theorem d_Gr_spread_88 : decode (am_c m_Gr_spread) 88 = .ok (.iand, 1) := by decide +kernel
theorem d_Gr_spread_89 : decode (am_c m_Gr_spread) 89 = .ok (.ifCond .ne 8, 3) := by decide +kernel
theorem d_Gr_spread_92 : decode (am_c m_Gr_spread) 92 = .ok (.iload 5, 2) := by decide +kernel
theorem d_Gr_spread_94 : decode (am_c m_Gr_spread) 94 = .ok (.goto 12, 3) := by decide +kernel
theorem d_Gr_spread_97 : decode (am_c m_Gr_spread) 97 = .ok (.aload_n 0, 1) := by decide +kernel
theorem d_Gr_spread_98 : decode (am_c m_Gr_spread) 98 = .ok (.getfield 34, 3) := by decide +kernel
theorem d_Gr_spread_101 : decode (am_c m_Gr_spread) 101 = .ok (.iconst 1, 1) := by decide +kernel
theorem d_Gr_spread_102 : decode (am_c m_Gr_spread) 102 = .ok (.isub, 1) := by decide +kernel
theorem d_Gr_spread_103 : decode (am_c m_Gr_spread) 103 = .ok (.iload 5, 2) := by decide +kernel
theorem d_Gr_spread_105 : decode (am_c m_Gr_spread) 105 = .ok (.isub, 1) := by decide +kernel
theorem d_Gr_spread_106 : decode (am_c m_Gr_spread) 106 = .ok (.istore 6, 2) := by decide +kernel
theorem d_Gr_spread_108 : decode (am_c m_Gr_spread) 108 = .ok (.aload_n 0, 1) := by decide +kernel
theorem d_Gr_spread_109 : decode (am_c m_Gr_spread) 109 = .ok (.iload 6, 2) := by decide +kernel
theorem d_Gr_spread_111 : decode (am_c m_Gr_spread) 111 = .ok (.invokevirtual 61, 3) := by decide +kernel
theorem d_Gr_spread_114 : decode (am_c m_Gr_spread) 114 = .ok (.ifCond .eq 5, 3) := by decide +kernel
theorem d_Gr_spread_117 : decode (am_c m_Gr_spread) 117 = .ok (.iconst 1, 1) := by decide +kernel
theorem d_Gr_spread_118 : decode (am_c m_Gr_spread) 118 = .ok (.istore_n 3, 1) := by decide +kernel
theorem d_Gr_spread_119 : decode (am_c m_Gr_spread) 119 = .ok (.iinc 5 1, 3) := by decide +kernel
theorem d_Gr_spread_122 : decode (am_c m_Gr_spread) 122 = .ok (.goto (-46), 3) := by decide +kernel
theorem d_Gr_spread_125 : decode (am_c m_Gr_spread) 125 = .ok (.iinc 4 1, 3) := by decide +kernel
theorem d_Gr_spread_128 : decode (am_c m_Gr_spread) 128 = .ok (.goto (-70), 3) := by decide +kernel
theorem d_Gr_spread_131 : decode (am_c m_Gr_spread) 131 = .ok (.return_, 1) := by decide +kernel
theorem d_Gr_price_0 : decode (am_c m_Gr_price) 0 = .ok (.iload_n 2, 1) := by decide +kernel
theorem d_Gr_price_1 : decode (am_c m_Gr_price) 1 = .ok (.ifCond .ne 7, 3) := by decide +kernel
theorem d_Gr_price_4 : decode (am_c m_Gr_price) 4 = .ok (.iload_n 1, 1) := by decide +kernel
theorem d_Gr_price_5 : decode (am_c m_Gr_price) 5 = .ok (.goto 12, 3) := by decide +kernel
theorem d_Gr_price_8 : decode (am_c m_Gr_price) 8 = .ok (.iload_n 1, 1) := by decide +kernel
theorem d_Gr_price_9 : decode (am_c m_Gr_price) 9 = .ok (.aload_n 0, 1) := by decide +kernel
theorem d_Gr_price_10 : decode (am_c m_Gr_price) 10 = .ok (.getfield 9, 3) := by decide +kernel
theorem d_Gr_price_13 : decode (am_c m_Gr_price) 13 = .ok (.imul, 1) := by decide +kernel
theorem d_Gr_price_14 : decode (am_c m_Gr_price) 14 = .ok (.bipush 10, 2) := by decide +kernel
theorem d_Gr_price_16 : decode (am_c m_Gr_price) 16 = .ok (.idiv, 1) := by decide +kernel
theorem d_Gr_price_17 : decode (am_c m_Gr_price) 17 = .ok (.ireturn, 1) := by decide +kernel
theorem d_Gr_pull_0 : decode (am_c m_Gr_pull) 0 = .ok (.iconst 0, 1) := by decide +kernel
theorem d_Gr_pull_1 : decode (am_c m_Gr_pull) 1 = .ok (.istore_n 2, 1) := by decide +kernel
theorem d_Gr_pull_2 : decode (am_c m_Gr_pull) 2 = .ok (.iload_n 1, 1) := by decide +kernel
theorem d_Gr_pull_3 : decode (am_c m_Gr_pull) 3 = .ok (.iconst 4, 1) := by decide +kernel
theorem d_Gr_pull_4 : decode (am_c m_Gr_pull) 4 = .ok (.imul, 1) := by decide +kernel
theorem d_Gr_pull_5 : decode (am_c m_Gr_pull) 5 = .ok (.istore_n 3, 1) := by decide +kernel
theorem d_Gr_pull_6 : decode (am_c m_Gr_pull) 6 = .ok (.iload_n 3, 1) := by decide +kernel
theorem d_Gr_pull_7 : decode (am_c m_Gr_pull) 7 = .ok (.istore 4, 2) := by decide +kernel
theorem d_Gr_pull_9 : decode (am_c m_Gr_pull) 9 = .ok (.iload 4, 2) := by decide +kernel
theorem d_Gr_pull_11 : decode (am_c m_Gr_pull) 11 = .ok (.iload_n 3, 1) := by decide +kernel
theorem d_Gr_pull_12 : decode (am_c m_Gr_pull) 12 = .ok (.iconst 4, 1) := by decide +kernel
theorem d_Gr_pull_13 : decode (am_c m_Gr_pull) 13 = .ok (.iadd, 1) := by decide +kernel
theorem d_Gr_pull_14 : decode (am_c m_Gr_pull) 14 = .ok (.if_icmp .ge 84, 3) := by decide +kernel
theorem d_Gr_pull_17 : decode (am_c m_Gr_pull) 17 = .ok (.aload_n 0, 1) := by decide +kernel
theorem d_Gr_pull_18 : decode (am_c m_Gr_pull) 18 = .ok (.getfield 22, 3) := by decide +kernel
theorem d_Gr_pull_21 : decode (am_c m_Gr_pull) 21 = .ok (.iload 4, 2) := by decide +kernel
theorem d_Gr_pull_23 : decode (am_c m_Gr_pull) 23 = .ok (.iaload, 1) := by decide +kernel
theorem d_Gr_pull_24 : decode (am_c m_Gr_pull) 24 = .ok (.istore 5, 2) := by decide +kernel
theorem d_Gr_pull_26 : decode (am_c m_Gr_pull) 26 = .ok (.iload 5, 2) := by decide +kernel
theorem d_Gr_pull_28 : decode (am_c m_Gr_pull) 28 = .ok (.ifCond .lt 64, 3) := by decide +kernel
theorem d_Gr_pull_31 : decode (am_c m_Gr_pull) 31 = .ok (.aload_n 0, 1) := by decide +kernel
theorem d_Gr_pull_32 : decode (am_c m_Gr_pull) 32 = .ok (.getfield 28, 3) := by decide +kernel
theorem d_Gr_pull_35 : decode (am_c m_Gr_pull) 35 = .ok (.iload 5, 2) := by decide +kernel
theorem d_Gr_pull_37 : decode (am_c m_Gr_pull) 37 = .ok (.iaload, 1) := by decide +kernel
theorem d_Gr_pull_38 : decode (am_c m_Gr_pull) 38 = .ok (.aload_n 0, 1) := by decide +kernel
theorem d_Gr_pull_39 : decode (am_c m_Gr_pull) 39 = .ok (.getfield 25, 3) := by decide +kernel
theorem d_Gr_pull_42 : decode (am_c m_Gr_pull) 42 = .ok (.iload 5, 2) := by decide +kernel
theorem d_Gr_pull_44 : decode (am_c m_Gr_pull) 44 = .ok (.iaload, 1) := by decide +kernel
theorem d_Gr_pull_45 : decode (am_c m_Gr_pull) 45 = .ok (.iadd, 1) := by decide +kernel
theorem d_Gr_pull_46 : decode (am_c m_Gr_pull) 46 = .ok (.aload_n 0, 1) := by decide +kernel
theorem d_Gr_pull_47 : decode (am_c m_Gr_pull) 47 = .ok (.getfield 25, 3) := by decide +kernel
theorem d_Gr_pull_50 : decode (am_c m_Gr_pull) 50 = .ok (.iload_n 1, 1) := by decide +kernel
theorem d_Gr_pull_51 : decode (am_c m_Gr_pull) 51 = .ok (.iaload, 1) := by decide +kernel
theorem d_Gr_pull_52 : decode (am_c m_Gr_pull) 52 = .ok (.iadd, 1) := by decide +kernel
theorem d_Gr_pull_53 : decode (am_c m_Gr_pull) 53 = .ok (.aload_n 0, 1) := by decide +kernel
theorem d_Gr_pull_54 : decode (am_c m_Gr_pull) 54 = .ok (.getfield 28, 3) := by decide +kernel
theorem d_Gr_pull_57 : decode (am_c m_Gr_pull) 57 = .ok (.iload_n 1, 1) := by decide +kernel
theorem d_Gr_pull_58 : decode (am_c m_Gr_pull) 58 = .ok (.iaload, 1) := by decide +kernel
theorem d_Gr_pull_59 : decode (am_c m_Gr_pull) 59 = .ok (.if_icmp .ge 33, 3) := by decide +kernel
theorem d_Gr_pull_62 : decode (am_c m_Gr_pull) 62 = .ok (.aload_n 0, 1) := by decide +kernel
theorem d_Gr_pull_63 : decode (am_c m_Gr_pull) 63 = .ok (.getfield 28, 3) := by decide +kernel
theorem d_Gr_pull_66 : decode (am_c m_Gr_pull) 66 = .ok (.iload_n 1, 1) := by decide +kernel
theorem d_Gr_pull_67 : decode (am_c m_Gr_pull) 67 = .ok (.aload_n 0, 1) := by decide +kernel
theorem d_Gr_pull_68 : decode (am_c m_Gr_pull) 68 = .ok (.getfield 28, 3) := by decide +kernel
theorem d_Gr_pull_71 : decode (am_c m_Gr_pull) 71 = .ok (.iload 5, 2) := by decide +kernel
theorem d_Gr_pull_73 : decode (am_c m_Gr_pull) 73 = .ok (.iaload, 1) := by decide +kernel
theorem d_Gr_pull_74 : decode (am_c m_Gr_pull) 74 = .ok (.aload_n 0, 1) := by decide +kernel
theorem d_Gr_pull_75 : decode (am_c m_Gr_pull) 75 = .ok (.getfield 25, 3) := by decide +kernel
theorem d_Gr_pull_78 : decode (am_c m_Gr_pull) 78 = .ok (.iload 5, 2) := by decide +kernel
theorem d_Gr_pull_80 : decode (am_c m_Gr_pull) 80 = .ok (.iaload, 1) := by decide +kernel
theorem d_Gr_pull_81 : decode (am_c m_Gr_pull) 81 = .ok (.iadd, 1) := by decide +kernel
theorem d_Gr_pull_82 : decode (am_c m_Gr_pull) 82 = .ok (.aload_n 0, 1) := by decide +kernel
theorem d_Gr_pull_83 : decode (am_c m_Gr_pull) 83 = .ok (.getfield 25, 3) := by decide +kernel
theorem d_Gr_pull_86 : decode (am_c m_Gr_pull) 86 = .ok (.iload_n 1, 1) := by decide +kernel
theorem d_Gr_pull_87 : decode (am_c m_Gr_pull) 87 = .ok (.iaload, 1) := by decide +kernel
theorem d_Gr_pull_88 : decode (am_c m_Gr_pull) 88 = .ok (.iadd, 1) := by decide +kernel
theorem d_Gr_pull_89 : decode (am_c m_Gr_pull) 89 = .ok (.iastore, 1) := by decide +kernel
theorem d_Gr_pull_90 : decode (am_c m_Gr_pull) 90 = .ok (.iconst 1, 1) := by decide +kernel
theorem d_Gr_pull_91 : decode (am_c m_Gr_pull) 91 = .ok (.istore_n 2, 1) := by decide +kernel
theorem d_Gr_pull_92 : decode (am_c m_Gr_pull) 92 = .ok (.iinc 4 1, 3) := by decide +kernel
theorem d_Gr_pull_95 : decode (am_c m_Gr_pull) 95 = .ok (.goto (-86), 3) := by decide +kernel
theorem d_Gr_pull_98 : decode (am_c m_Gr_pull) 98 = .ok (.iload_n 2, 1) := by decide +kernel
theorem d_Gr_pull_99 : decode (am_c m_Gr_pull) 99 = .ok (.ireturn, 1) := by decide +kernel
theorem d_Gr_trace_0 : decode (am_c m_Gr_trace) 0 = .ok (.iload_n 1, 1) := by decide +kernel
theorem d_Gr_trace_1 : decode (am_c m_Gr_trace) 1 = .ok (.istore_n 2, 1) := by decide +kernel
theorem d_Gr_trace_2 : decode (am_c m_Gr_trace) 2 = .ok (.aload_n 0, 1) := by decide +kernel
theorem d_Gr_trace_3 : decode (am_c m_Gr_trace) 3 = .ok (.getfield 31, 3) := by decide +kernel
theorem d_Gr_trace_6 : decode (am_c m_Gr_trace) 6 = .ok (.iconst 0, 1) := by decide +kernel
theorem d_Gr_trace_7 : decode (am_c m_Gr_trace) 7 = .ok (.iload_n 2, 1) := by decide +kernel
theorem d_Gr_trace_8 : decode (am_c m_Gr_trace) 8 = .ok (.iastore, 1) := by decide +kernel
theorem d_Gr_trace_9 : decode (am_c m_Gr_trace) 9 = .ok (.aload_n 0, 1) := by decide +kernel
theorem d_Gr_trace_10 : decode (am_c m_Gr_trace) 10 = .ok (.iconst 1, 1) := by decide +kernel
theorem d_Gr_trace_11 : decode (am_c m_Gr_trace) 11 = .ok (.putfield 65, 3) := by decide +kernel
theorem d_Gr_trace_14 : decode (am_c m_Gr_trace) 14 = .ok (.aload_n 0, 1) := by decide +kernel
theorem d_Gr_trace_15 : decode (am_c m_Gr_trace) 15 = .ok (.getfield 65, 3) := by decide +kernel
theorem d_Gr_trace_18 : decode (am_c m_Gr_trace) 18 = .ok (.aload_n 0, 1) := by decide +kernel
theorem d_Gr_trace_19 : decode (am_c m_Gr_trace) 19 = .ok (.getfield 34, 3) := by decide +kernel
theorem d_Gr_trace_22 : decode (am_c m_Gr_trace) 22 = .ok (.if_icmp .ge 41, 3) := by decide +kernel
theorem d_Gr_trace_25 : decode (am_c m_Gr_trace) 25 = .ok (.aload_n 0, 1) := by decide +kernel
theorem d_Gr_trace_26 : decode (am_c m_Gr_trace) 26 = .ok (.getfield 28, 3) := by decide +kernel
theorem d_Gr_trace_29 : decode (am_c m_Gr_trace) 29 = .ok (.iload_n 2, 1) := by decide +kernel
theorem d_Gr_trace_30 : decode (am_c m_Gr_trace) 30 = .ok (.iaload, 1) := by decide +kernel
theorem d_Gr_trace_31 : decode (am_c m_Gr_trace) 31 = .ok (.ifCond .le 32, 3) := by decide +kernel
theorem d_Gr_trace_34 : decode (am_c m_Gr_trace) 34 = .ok (.aload_n 0, 1) := by decide +kernel
theorem d_Gr_trace_35 : decode (am_c m_Gr_trace) 35 = .ok (.iload_n 2, 1) := by decide +kernel
theorem d_Gr_trace_36 : decode (am_c m_Gr_trace) 36 = .ok (.invokevirtual 68, 3) := by decide +kernel
theorem d_Gr_trace_39 : decode (am_c m_Gr_trace) 39 = .ok (.istore_n 2, 1) := by decide +kernel
theorem d_Gr_trace_40 : decode (am_c m_Gr_trace) 40 = .ok (.aload_n 0, 1) := by decide +kernel
theorem d_Gr_trace_41 : decode (am_c m_Gr_trace) 41 = .ok (.getfield 31, 3) := by decide +kernel
theorem d_Gr_trace_44 : decode (am_c m_Gr_trace) 44 = .ok (.aload_n 0, 1) := by decide +kernel
theorem d_Gr_trace_45 : decode (am_c m_Gr_trace) 45 = .ok (.getfield 65, 3) := by decide +kernel
theorem d_Gr_trace_48 : decode (am_c m_Gr_trace) 48 = .ok (.iload_n 2, 1) := by decide +kernel
theorem d_Gr_trace_49 : decode (am_c m_Gr_trace) 49 = .ok (.iastore, 1) := by decide +kernel
theorem d_Gr_trace_50 : decode (am_c m_Gr_trace) 50 = .ok (.aload_n 0, 1) := by decide +kernel
theorem d_Gr_trace_51 : decode (am_c m_Gr_trace) 51 = .ok (.dup, 1) := by decide +kernel
theorem d_Gr_trace_52 : decode (am_c m_Gr_trace) 52 = .ok (.getfield 65, 3) := by decide +kernel
theorem d_Gr_trace_55 : decode (am_c m_Gr_trace) 55 = .ok (.iconst 1, 1) := by decide +kernel
theorem d_Gr_trace_56 : decode (am_c m_Gr_trace) 56 = .ok (.iadd, 1) := by decide +kernel
theorem d_Gr_trace_57 : decode (am_c m_Gr_trace) 57 = .ok (.putfield 65, 3) := by decide +kernel
theorem d_Gr_trace_60 : decode (am_c m_Gr_trace) 60 = .ok (.goto (-46), 3) := by decide +kernel
theorem d_Gr_trace_63 : decode (am_c m_Gr_trace) 63 = .ok (.return_, 1) := by decide +kernel
theorem d_Gr_nextOnWay_0 : decode (am_c m_Gr_nextOnWay) 0 = .ok (.iload_n 1, 1) := by decide +kernel
theorem d_Gr_nextOnWay_1 : decode (am_c m_Gr_nextOnWay) 1 = .ok (.iconst 4, 1) := by decide +kernel
theorem d_Gr_nextOnWay_2 : decode (am_c m_Gr_nextOnWay) 2 = .ok (.imul, 1) := by decide +kernel
theorem d_Gr_nextOnWay_3 : decode (am_c m_Gr_nextOnWay) 3 = .ok (.istore_n 2, 1) := by decide +kernel
theorem d_Gr_nextOnWay_4 : decode (am_c m_Gr_nextOnWay) 4 = .ok (.iload_n 2, 1) := by decide +kernel
theorem d_Gr_nextOnWay_5 : decode (am_c m_Gr_nextOnWay) 5 = .ok (.istore_n 3, 1) := by decide +kernel
theorem d_Gr_nextOnWay_6 : decode (am_c m_Gr_nextOnWay) 6 = .ok (.iload_n 3, 1) := by decide +kernel
theorem d_Gr_nextOnWay_7 : decode (am_c m_Gr_nextOnWay) 7 = .ok (.iload_n 2, 1) := by decide +kernel
theorem d_Gr_nextOnWay_8 : decode (am_c m_Gr_nextOnWay) 8 = .ok (.iconst 4, 1) := by decide +kernel
theorem d_Gr_nextOnWay_9 : decode (am_c m_Gr_nextOnWay) 9 = .ok (.iadd, 1) := by decide +kernel
theorem d_Gr_nextOnWay_10 : decode (am_c m_Gr_nextOnWay) 10 = .ok (.if_icmp .ge 56, 3) := by decide +kernel
theorem d_Gr_nextOnWay_13 : decode (am_c m_Gr_nextOnWay) 13 = .ok (.aload_n 0, 1) := by decide +kernel
theorem d_Gr_nextOnWay_14 : decode (am_c m_Gr_nextOnWay) 14 = .ok (.getfield 22, 3) := by decide +kernel
theorem d_Gr_nextOnWay_17 : decode (am_c m_Gr_nextOnWay) 17 = .ok (.iload_n 3, 1) := by decide +kernel
theorem d_Gr_nextOnWay_18 : decode (am_c m_Gr_nextOnWay) 18 = .ok (.iaload, 1) := by decide +kernel
theorem d_Gr_nextOnWay_19 : decode (am_c m_Gr_nextOnWay) 19 = .ok (.istore 4, 2) := by decide +kernel
theorem d_Gr_nextOnWay_21 : decode (am_c m_Gr_nextOnWay) 21 = .ok (.iload 4, 2) := by decide +kernel
theorem d_Gr_nextOnWay_23 : decode (am_c m_Gr_nextOnWay) 23 = .ok (.ifCond .lt 37, 3) := by decide +kernel
theorem d_Gr_nextOnWay_26 : decode (am_c m_Gr_nextOnWay) 26 = .ok (.aload_n 0, 1) := by decide +kernel
theorem d_Gr_nextOnWay_27 : decode (am_c m_Gr_nextOnWay) 27 = .ok (.getfield 28, 3) := by decide +kernel
theorem d_Gr_nextOnWay_30 : decode (am_c m_Gr_nextOnWay) 30 = .ok (.iload 4, 2) := by decide +kernel
theorem d_Gr_nextOnWay_32 : decode (am_c m_Gr_nextOnWay) 32 = .ok (.iaload, 1) := by decide +kernel
theorem d_Gr_nextOnWay_33 : decode (am_c m_Gr_nextOnWay) 33 = .ok (.aload_n 0, 1) := by decide +kernel
theorem d_Gr_nextOnWay_34 : decode (am_c m_Gr_nextOnWay) 34 = .ok (.getfield 25, 3) := by decide +kernel
theorem d_Gr_nextOnWay_37 : decode (am_c m_Gr_nextOnWay) 37 = .ok (.iload 4, 2) := by decide +kernel
theorem d_Gr_nextOnWay_39 : decode (am_c m_Gr_nextOnWay) 39 = .ok (.iaload, 1) := by decide +kernel
theorem d_Gr_nextOnWay_40 : decode (am_c m_Gr_nextOnWay) 40 = .ok (.iadd, 1) := by decide +kernel
theorem d_Gr_nextOnWay_41 : decode (am_c m_Gr_nextOnWay) 41 = .ok (.aload_n 0, 1) := by decide +kernel
theorem d_Gr_nextOnWay_42 : decode (am_c m_Gr_nextOnWay) 42 = .ok (.getfield 25, 3) := by decide +kernel
theorem d_Gr_nextOnWay_45 : decode (am_c m_Gr_nextOnWay) 45 = .ok (.iload_n 1, 1) := by decide +kernel
theorem d_Gr_nextOnWay_46 : decode (am_c m_Gr_nextOnWay) 46 = .ok (.iaload, 1) := by decide +kernel
theorem d_Gr_nextOnWay_47 : decode (am_c m_Gr_nextOnWay) 47 = .ok (.iadd, 1) := by decide +kernel
theorem d_Gr_nextOnWay_48 : decode (am_c m_Gr_nextOnWay) 48 = .ok (.aload_n 0, 1) := by decide +kernel
theorem d_Gr_nextOnWay_49 : decode (am_c m_Gr_nextOnWay) 49 = .ok (.getfield 28, 3) := by decide +kernel
theorem d_Gr_nextOnWay_52 : decode (am_c m_Gr_nextOnWay) 52 = .ok (.iload_n 1, 1) := by decide +kernel
theorem d_Gr_nextOnWay_53 : decode (am_c m_Gr_nextOnWay) 53 = .ok (.iaload, 1) := by decide +kernel
theorem d_Gr_nextOnWay_54 : decode (am_c m_Gr_nextOnWay) 54 = .ok (.if_icmp .ne 6, 3) := by decide +kernel
theorem d_Gr_nextOnWay_57 : decode (am_c m_Gr_nextOnWay) 57 = .ok (.iload 4, 2) := by decide +kernel
theorem d_Gr_nextOnWay_59 : decode (am_c m_Gr_nextOnWay) 59 = .ok (.ireturn, 1) := by decide +kernel
theorem d_Gr_nextOnWay_60 : decode (am_c m_Gr_nextOnWay) 60 = .ok (.iinc 3 1, 3) := by decide +kernel
theorem d_Gr_nextOnWay_63 : decode (am_c m_Gr_nextOnWay) 63 = .ok (.goto (-57), 3) := by decide +kernel
theorem d_Gr_nextOnWay_66 : decode (am_c m_Gr_nextOnWay) 66 = .ok (.iload_n 1, 1) := by decide +kernel
theorem d_Gr_nextOnWay_67 : decode (am_c m_Gr_nextOnWay) 67 = .ok (.ireturn, 1) := by decide +kernel
theorem d_Bo_addEar_0 : decode (am_c m_Bo_addEar) 0 = .ok (.aload_n 0, 1) := by decide +kernel
theorem d_Bo_addEar_1 : decode (am_c m_Bo_addEar) 1 = .ok (.getfield 9, 3) := by decide +kernel
theorem d_Bo_addEar_4 : decode (am_c m_Bo_addEar) 4 = .ok (.aload_n 0, 1) := by decide +kernel
theorem d_Bo_addEar_5 : decode (am_c m_Bo_addEar) 5 = .ok (.getfield 45, 3) := by decide +kernel
theorem d_Bo_addEar_8 : decode (am_c m_Bo_addEar) 8 = .ok (.iload_n 1, 1) := by decide +kernel
theorem d_Bo_addEar_9 : decode (am_c m_Bo_addEar) 9 = .ok (.iastore, 1) := by decide +kernel
theorem d_Bo_addEar_10 : decode (am_c m_Bo_addEar) 10 = .ok (.aload_n 0, 1) := by decide +kernel
theorem d_Bo_addEar_11 : decode (am_c m_Bo_addEar) 11 = .ok (.getfield 15, 3) := by decide +kernel
theorem d_Bo_addEar_14 : decode (am_c m_Bo_addEar) 14 = .ok (.aload_n 0, 1) := by decide +kernel
theorem d_Bo_addEar_15 : decode (am_c m_Bo_addEar) 15 = .ok (.getfield 45, 3) := by decide +kernel
theorem d_Bo_addEar_18 : decode (am_c m_Bo_addEar) 18 = .ok (.iconst 0, 1) := by decide +kernel
theorem d_Bo_addEar_19 : decode (am_c m_Bo_addEar) 19 = .ok (.iastore, 1) := by decide +kernel
theorem d_Bo_addEar_20 : decode (am_c m_Bo_addEar) 20 = .ok (.aload_n 0, 1) := by decide +kernel
theorem d_Bo_addEar_21 : decode (am_c m_Bo_addEar) 21 = .ok (.dup, 1) := by decide +kernel
theorem d_Bo_addEar_22 : decode (am_c m_Bo_addEar) 22 = .ok (.getfield 45, 3) := by decide +kernel
theorem d_Bo_addEar_25 : decode (am_c m_Bo_addEar) 25 = .ok (.iconst 1, 1) := by decide +kernel
theorem d_Bo_addEar_26 : decode (am_c m_Bo_addEar) 26 = .ok (.iadd, 1) := by decide +kernel
theorem d_Bo_addEar_27 : decode (am_c m_Bo_addEar) 27 = .ok (.putfield 45, 3) := by decide +kernel
theorem d_Bo_addEar_30 : decode (am_c m_Bo_addEar) 30 = .ok (.aload_n 0, 1) := by decide +kernel
theorem d_Bo_addEar_31 : decode (am_c m_Bo_addEar) 31 = .ok (.getfield 45, 3) := by decide +kernel
theorem d_Bo_addEar_34 : decode (am_c m_Bo_addEar) 34 = .ok (.iconst 1, 1) := by decide +kernel
theorem d_Bo_addEar_35 : decode (am_c m_Bo_addEar) 35 = .ok (.isub, 1) := by decide +kernel
theorem d_Bo_addEar_36 : decode (am_c m_Bo_addEar) 36 = .ok (.ireturn, 1) := by decide +kernel
theorem d_Bo_addShake_0 : decode (am_c m_Bo_addShake) 0 = .ok (.aload_n 0, 1) := by decide +kernel
theorem d_Bo_addShake_1 : decode (am_c m_Bo_addShake) 1 = .ok (.aload_n 0, 1) := by decide +kernel
theorem d_Bo_addShake_2 : decode (am_c m_Bo_addShake) 2 = .ok (.getfield 49, 3) := by decide +kernel
theorem d_Bo_addShake_5 : decode (am_c m_Bo_addShake) 5 = .ok (.iload_n 1, 1) := by decide +kernel
theorem d_Bo_addShake_6 : decode (am_c m_Bo_addShake) 6 = .ok (.iload_n 2, 1) := by decide +kernel
theorem d_Bo_addShake_7 : decode (am_c m_Bo_addShake) 7 = .ok (.invokevirtual 58, 3) := by decide +kernel
theorem d_Bo_addShake_10 : decode (am_c m_Bo_addShake) 10 = .ok (.aload_n 0, 1) := by decide +kernel
theorem d_Bo_addShake_11 : decode (am_c m_Bo_addShake) 11 = .ok (.dup, 1) := by decide +kernel
theorem d_Bo_addShake_12 : decode (am_c m_Bo_addShake) 12 = .ok (.getfield 49, 3) := by decide +kernel
theorem d_Bo_addShake_15 : decode (am_c m_Bo_addShake) 15 = .ok (.iconst 1, 1) := by decide +kernel
theorem d_Bo_addShake_16 : decode (am_c m_Bo_addShake) 16 = .ok (.iadd, 1) := by decide +kernel
theorem d_Bo_addShake_17 : decode (am_c m_Bo_addShake) 17 = .ok (.putfield 49, 3) := by decide +kernel
theorem d_Bo_addShake_20 : decode (am_c m_Bo_addShake) 20 = .ok (.aload_n 0, 1) := by decide +kernel
theorem d_Bo_addShake_21 : decode (am_c m_Bo_addShake) 21 = .ok (.getfield 49, 3) := by decide +kernel
theorem d_Bo_addShake_24 : decode (am_c m_Bo_addShake) 24 = .ok (.iconst 1, 1) := by decide +kernel
theorem d_Bo_addShake_25 : decode (am_c m_Bo_addShake) 25 = .ok (.isub, 1) := by decide +kernel
theorem d_Bo_addShake_26 : decode (am_c m_Bo_addShake) 26 = .ok (.ireturn, 1) := by decide +kernel
theorem d_Bo_placeShake_0 : decode (am_c m_Bo_placeShake) 0 = .ok (.aload_n 0, 1) := by decide +kernel
theorem d_Bo_placeShake_1 : decode (am_c m_Bo_placeShake) 1 = .ok (.getfield 18, 3) := by decide +kernel
theorem d_Bo_placeShake_4 : decode (am_c m_Bo_placeShake) 4 = .ok (.iload_n 1, 1) := by decide +kernel
theorem d_Bo_placeShake_5 : decode (am_c m_Bo_placeShake) 5 = .ok (.iload_n 2, 1) := by decide +kernel
theorem d_Bo_placeShake_6 : decode (am_c m_Bo_placeShake) 6 = .ok (.iastore, 1) := by decide +kernel
theorem d_Bo_placeShake_7 : decode (am_c m_Bo_placeShake) 7 = .ok (.aload_n 0, 1) := by decide +kernel
theorem d_Bo_placeShake_8 : decode (am_c m_Bo_placeShake) 8 = .ok (.getfield 21, 3) := by decide +kernel
theorem d_Bo_placeShake_11 : decode (am_c m_Bo_placeShake) 11 = .ok (.iload_n 1, 1) := by decide +kernel
theorem d_Bo_placeShake_12 : decode (am_c m_Bo_placeShake) 12 = .ok (.iload_n 3, 1) := by decide +kernel
theorem d_Bo_placeShake_13 : decode (am_c m_Bo_placeShake) 13 = .ok (.iastore, 1) := by decide +kernel
theorem d_Bo_placeShake_14 : decode (am_c m_Bo_placeShake) 14 = .ok (.return_, 1) := by decide +kernel
theorem d_Bo_addPick_0 : decode (am_c m_Bo_addPick) 0 = .ok (.aload_n 0, 1) := by decide +kernel
theorem d_Bo_addPick_1 : decode (am_c m_Bo_addPick) 1 = .ok (.getfield 24, 3) := by decide +kernel
theorem d_Bo_addPick_4 : decode (am_c m_Bo_addPick) 4 = .ok (.aload_n 0, 1) := by decide +kernel
theorem d_Bo_addPick_5 : decode (am_c m_Bo_addPick) 5 = .ok (.getfield 52, 3) := by decide +kernel
theorem d_Bo_addPick_8 : decode (am_c m_Bo_addPick) 8 = .ok (.iload_n 1, 1) := by decide +kernel
theorem d_Bo_addPick_9 : decode (am_c m_Bo_addPick) 9 = .ok (.iastore, 1) := by decide +kernel
theorem d_Bo_addPick_10 : decode (am_c m_Bo_addPick) 10 = .ok (.aload_n 0, 1) := by decide +kernel
theorem d_Bo_addPick_11 : decode (am_c m_Bo_addPick) 11 = .ok (.getfield 27, 3) := by decide +kernel
theorem d_Bo_addPick_14 : decode (am_c m_Bo_addPick) 14 = .ok (.aload_n 0, 1) := by decide +kernel
theorem d_Bo_addPick_15 : decode (am_c m_Bo_addPick) 15 = .ok (.getfield 52, 3) := by decide +kernel
theorem d_Bo_addPick_18 : decode (am_c m_Bo_addPick) 18 = .ok (.iload_n 2, 1) := by decide +kernel
theorem d_Bo_addPick_19 : decode (am_c m_Bo_addPick) 19 = .ok (.iastore, 1) := by decide +kernel
theorem d_Bo_addPick_20 : decode (am_c m_Bo_addPick) 20 = .ok (.aload_n 0, 1) := by decide +kernel
theorem d_Bo_addPick_21 : decode (am_c m_Bo_addPick) 21 = .ok (.getfield 30, 3) := by decide +kernel
theorem d_Bo_addPick_24 : decode (am_c m_Bo_addPick) 24 = .ok (.aload_n 0, 1) := by decide +kernel
theorem d_Bo_addPick_25 : decode (am_c m_Bo_addPick) 25 = .ok (.getfield 52, 3) := by decide +kernel
theorem d_Bo_addPick_28 : decode (am_c m_Bo_addPick) 28 = .ok (.iload_n 3, 1) := by decide +kernel
theorem d_Bo_addPick_29 : decode (am_c m_Bo_addPick) 29 = .ok (.iastore, 1) := by decide +kernel
theorem d_Bo_addPick_30 : decode (am_c m_Bo_addPick) 30 = .ok (.aload_n 0, 1) := by decide +kernel
theorem d_Bo_addPick_31 : decode (am_c m_Bo_addPick) 31 = .ok (.dup, 1) := by decide +kernel
theorem d_Bo_addPick_32 : decode (am_c m_Bo_addPick) 32 = .ok (.getfield 52, 3) := by decide +kernel
theorem d_Bo_addPick_35 : decode (am_c m_Bo_addPick) 35 = .ok (.iconst 1, 1) := by decide +kernel
theorem d_Bo_addPick_36 : decode (am_c m_Bo_addPick) 36 = .ok (.iadd, 1) := by decide +kernel
theorem d_Bo_addPick_37 : decode (am_c m_Bo_addPick) 37 = .ok (.putfield 52, 3) := by decide +kernel
theorem d_Bo_addPick_40 : decode (am_c m_Bo_addPick) 40 = .ok (.aload_n 0, 1) := by decide +kernel
theorem d_Bo_addPick_41 : decode (am_c m_Bo_addPick) 41 = .ok (.getfield 52, 3) := by decide +kernel
theorem d_Bo_addPick_44 : decode (am_c m_Bo_addPick) 44 = .ok (.iconst 1, 1) := by decide +kernel
theorem d_Bo_addPick_45 : decode (am_c m_Bo_addPick) 45 = .ok (.isub, 1) := by decide +kernel
theorem d_Bo_addPick_46 : decode (am_c m_Bo_addPick) 46 = .ok (.ireturn, 1) := by decide +kernel
theorem d_Bo_addTelling_0 : decode (am_c m_Bo_addTelling) 0 = .ok (.aload_n 0, 1) := by decide +kernel
theorem d_Bo_addTelling_1 : decode (am_c m_Bo_addTelling) 1 = .ok (.getfield 33, 3) := by decide +kernel
theorem d_Bo_addTelling_4 : decode (am_c m_Bo_addTelling) 4 = .ok (.aload_n 0, 1) := by decide +kernel
theorem d_Bo_addTelling_5 : decode (am_c m_Bo_addTelling) 5 = .ok (.getfield 55, 3) := by decide +kernel
theorem d_Bo_addTelling_8 : decode (am_c m_Bo_addTelling) 8 = .ok (.iload_n 1, 1) := by decide +kernel
theorem d_Bo_addTelling_9 : decode (am_c m_Bo_addTelling) 9 = .ok (.iastore, 1) := by decide +kernel
theorem d_Bo_addTelling_10 : decode (am_c m_Bo_addTelling) 10 = .ok (.aload_n 0, 1) := by decide +kernel
theorem d_Bo_addTelling_11 : decode (am_c m_Bo_addTelling) 11 = .ok (.getfield 36, 3) := by decide +kernel
theorem d_Bo_addTelling_14 : decode (am_c m_Bo_addTelling) 14 = .ok (.aload_n 0, 1) := by decide +kernel
theorem d_Bo_addTelling_15 : decode (am_c m_Bo_addTelling) 15 = .ok (.getfield 55, 3) := by decide +kernel
theorem d_Bo_addTelling_18 : decode (am_c m_Bo_addTelling) 18 = .ok (.aload_n 0, 1) := by decide +kernel
theorem d_Bo_addTelling_19 : decode (am_c m_Bo_addTelling) 19 = .ok (.getfield 62, 3) := by decide +kernel
theorem d_Bo_addTelling_22 : decode (am_c m_Bo_addTelling) 22 = .ok (.iastore, 1) := by decide +kernel
theorem d_Bo_addTelling_23 : decode (am_c m_Bo_addTelling) 23 = .ok (.aload_n 0, 1) := by decide +kernel
theorem d_Bo_addTelling_24 : decode (am_c m_Bo_addTelling) 24 = .ok (.getfield 39, 3) := by decide +kernel
theorem d_Bo_addTelling_27 : decode (am_c m_Bo_addTelling) 27 = .ok (.aload_n 0, 1) := by decide +kernel
theorem d_Bo_addTelling_28 : decode (am_c m_Bo_addTelling) 28 = .ok (.getfield 55, 3) := by decide +kernel
theorem d_Bo_addTelling_31 : decode (am_c m_Bo_addTelling) 31 = .ok (.iload_n 2, 1) := by decide +kernel
theorem d_Bo_addTelling_32 : decode (am_c m_Bo_addTelling) 32 = .ok (.iastore, 1) := by decide +kernel
theorem d_Bo_addTelling_33 : decode (am_c m_Bo_addTelling) 33 = .ok (.aload_n 0, 1) := by decide +kernel
theorem d_Bo_addTelling_34 : decode (am_c m_Bo_addTelling) 34 = .ok (.getfield 42, 3) := by decide +kernel
theorem d_Bo_addTelling_37 : decode (am_c m_Bo_addTelling) 37 = .ok (.aload_n 0, 1) := by decide +kernel
theorem d_Bo_addTelling_38 : decode (am_c m_Bo_addTelling) 38 = .ok (.getfield 55, 3) := by decide +kernel
theorem d_Bo_addTelling_41 : decode (am_c m_Bo_addTelling) 41 = .ok (.iload_n 3, 1) := by decide +kernel
theorem d_Bo_addTelling_42 : decode (am_c m_Bo_addTelling) 42 = .ok (.iastore, 1) := by decide +kernel
theorem d_Bo_addTelling_43 : decode (am_c m_Bo_addTelling) 43 = .ok (.aload_n 0, 1) := by decide +kernel
theorem d_Bo_addTelling_44 : decode (am_c m_Bo_addTelling) 44 = .ok (.dup, 1) := by decide +kernel
theorem d_Bo_addTelling_45 : decode (am_c m_Bo_addTelling) 45 = .ok (.getfield 55, 3) := by decide +kernel
theorem d_Bo_addTelling_48 : decode (am_c m_Bo_addTelling) 48 = .ok (.iconst 1, 1) := by decide +kernel
theorem d_Bo_addTelling_49 : decode (am_c m_Bo_addTelling) 49 = .ok (.iadd, 1) := by decide +kernel
theorem d_Bo_addTelling_50 : decode (am_c m_Bo_addTelling) 50 = .ok (.putfield 55, 3) := by decide +kernel
theorem d_Bo_addTelling_53 : decode (am_c m_Bo_addTelling) 53 = .ok (.return_, 1) := by decide +kernel
theorem d_Ft_foretold_0 : decode (am_c m_Ft_foretold) 0 = .ok (.aload_n 0, 1) := by decide +kernel
theorem d_Ft_foretold_1 : decode (am_c m_Ft_foretold) 1 = .ok (.getfield 32, 3) := by decide +kernel
theorem d_Ft_foretold_4 : decode (am_c m_Ft_foretold) 4 = .ok (.aload_n 0, 1) := by decide +kernel
theorem d_Ft_foretold_5 : decode (am_c m_Ft_foretold) 5 = .ok (.getfield 36, 3) := by decide +kernel
theorem d_Ft_foretold_8 : decode (am_c m_Ft_foretold) 8 = .ok (.iload_n 1, 1) := by decide +kernel
theorem d_Ft_foretold_9 : decode (am_c m_Ft_foretold) 9 = .ok (.invokevirtual 40, 3) := by decide +kernel
theorem d_Ft_foretold_12 : decode (am_c m_Ft_foretold) 12 = .ok (.aload_n 0, 1) := by decide +kernel
theorem d_Ft_foretold_13 : decode (am_c m_Ft_foretold) 13 = .ok (.getfield 36, 3) := by decide +kernel
theorem d_Ft_foretold_16 : decode (am_c m_Ft_foretold) 16 = .ok (.getfield 46, 3) := by decide +kernel
theorem d_Ft_foretold_19 : decode (am_c m_Ft_foretold) 19 = .ok (.iload_n 1, 1) := by decide +kernel
theorem d_Ft_foretold_20 : decode (am_c m_Ft_foretold) 20 = .ok (.iaload, 1) := by decide +kernel
theorem d_Ft_foretold_21 : decode (am_c m_Ft_foretold) 21 = .ok (.invokevirtual 49, 3) := by decide +kernel
theorem d_Ft_foretold_24 : decode (am_c m_Ft_foretold) 24 = .ok (.aload_n 0, 1) := by decide +kernel
theorem d_Ft_foretold_25 : decode (am_c m_Ft_foretold) 25 = .ok (.getfield 36, 3) := by decide +kernel
theorem d_Ft_foretold_28 : decode (am_c m_Ft_foretold) 28 = .ok (.iload_n 1, 1) := by decide +kernel
theorem d_Ft_foretold_29 : decode (am_c m_Ft_foretold) 29 = .ok (.invokevirtual 55, 3) := by decide +kernel
theorem d_Ft_foretold_32 : decode (am_c m_Ft_foretold) 32 = .ok (.aload_n 0, 1) := by decide +kernel
theorem d_Ft_foretold_33 : decode (am_c m_Ft_foretold) 33 = .ok (.getfield 32, 3) := by decide +kernel
theorem d_Ft_foretold_36 : decode (am_c m_Ft_foretold) 36 = .ok (.getfield 58, 3) := by decide +kernel
theorem d_Ft_foretold_39 : decode (am_c m_Ft_foretold) 39 = .ok (.aload_n 0, 1) := by decide +kernel
theorem d_Ft_foretold_40 : decode (am_c m_Ft_foretold) 40 = .ok (.getfield 36, 3) := by decide +kernel
theorem d_Ft_foretold_43 : decode (am_c m_Ft_foretold) 43 = .ok (.iload_n 1, 1) := by decide +kernel
theorem d_Ft_foretold_44 : decode (am_c m_Ft_foretold) 44 = .ok (.invokevirtual 61, 3) := by decide +kernel
theorem d_Ft_foretold_47 : decode (am_c m_Ft_foretold) 47 = .ok (.iaload, 1) := by decide +kernel
theorem d_Ft_foretold_48 : decode (am_c m_Ft_foretold) 48 = .ok (.iadd, 1) := by decide +kernel
theorem d_Ft_foretold_49 : decode (am_c m_Ft_foretold) 49 = .ok (.aload_n 0, 1) := by decide +kernel
theorem d_Ft_foretold_50 : decode (am_c m_Ft_foretold) 50 = .ok (.getfield 36, 3) := by decide +kernel
theorem d_Ft_foretold_53 : decode (am_c m_Ft_foretold) 53 = .ok (.iload_n 1, 1) := by decide +kernel
theorem d_Ft_foretold_54 : decode (am_c m_Ft_foretold) 54 = .ok (.invokevirtual 64, 3) := by decide +kernel
theorem d_Ft_foretold_57 : decode (am_c m_Ft_foretold) 57 = .ok (.iadd, 1) := by decide +kernel
theorem d_Ft_foretold_58 : decode (am_c m_Ft_foretold) 58 = .ok (.ireturn, 1) := by decide +kernel
theorem d_Bo_cellOfShake_0 : decode (am_c m_Bo_cellOfShake) 0 = .ok (.aload_n 0, 1) := by decide +kernel
theorem d_Bo_cellOfShake_1 : decode (am_c m_Bo_cellOfShake) 1 = .ok (.getfield 18, 3) := by decide +kernel
theorem d_Bo_cellOfShake_4 : decode (am_c m_Bo_cellOfShake) 4 = .ok (.aload_n 0, 1) := by decide +kernel
theorem d_Bo_cellOfShake_5 : decode (am_c m_Bo_cellOfShake) 5 = .ok (.getfield 27, 3) := by decide +kernel
theorem d_Bo_cellOfShake_8 : decode (am_c m_Bo_cellOfShake) 8 = .ok (.iload_n 1, 1) := by decide +kernel
theorem d_Bo_cellOfShake_9 : decode (am_c m_Bo_cellOfShake) 9 = .ok (.iaload, 1) := by decide +kernel
theorem d_Bo_cellOfShake_10 : decode (am_c m_Bo_cellOfShake) 10 = .ok (.iaload, 1) := by decide +kernel
theorem d_Bo_cellOfShake_11 : decode (am_c m_Bo_cellOfShake) 11 = .ok (.ireturn, 1) := by decide +kernel
theorem d_Bo_begunOf_0 : decode (am_c m_Bo_begunOf) 0 = .ok (.aload_n 0, 1) := by decide +kernel
theorem d_Bo_begunOf_1 : decode (am_c m_Bo_begunOf) 1 = .ok (.getfield 21, 3) := by decide +kernel
theorem d_Bo_begunOf_4 : decode (am_c m_Bo_begunOf) 4 = .ok (.aload_n 0, 1) := by decide +kernel
theorem d_Bo_begunOf_5 : decode (am_c m_Bo_begunOf) 5 = .ok (.getfield 27, 3) := by decide +kernel
theorem d_Bo_begunOf_8 : decode (am_c m_Bo_begunOf) 8 = .ok (.iload_n 1, 1) := by decide +kernel
theorem d_Bo_begunOf_9 : decode (am_c m_Bo_begunOf) 9 = .ok (.iaload, 1) := by decide +kernel
theorem d_Bo_begunOf_10 : decode (am_c m_Bo_begunOf) 10 = .ok (.iaload, 1) := by decide +kernel
theorem d_Bo_begunOf_11 : decode (am_c m_Bo_begunOf) 11 = .ok (.ireturn, 1) := by decide +kernel
theorem d_Bo_cellOfEar_0 : decode (am_c m_Bo_cellOfEar) 0 = .ok (.aload_n 0, 1) := by decide +kernel
theorem d_Bo_cellOfEar_1 : decode (am_c m_Bo_cellOfEar) 1 = .ok (.getfield 9, 3) := by decide +kernel
theorem d_Bo_cellOfEar_4 : decode (am_c m_Bo_cellOfEar) 4 = .ok (.aload_n 0, 1) := by decide +kernel
theorem d_Bo_cellOfEar_5 : decode (am_c m_Bo_cellOfEar) 5 = .ok (.getfield 24, 3) := by decide +kernel
theorem d_Bo_cellOfEar_8 : decode (am_c m_Bo_cellOfEar) 8 = .ok (.iload_n 1, 1) := by decide +kernel
theorem d_Bo_cellOfEar_9 : decode (am_c m_Bo_cellOfEar) 9 = .ok (.iaload, 1) := by decide +kernel
theorem d_Bo_cellOfEar_10 : decode (am_c m_Bo_cellOfEar) 10 = .ok (.iaload, 1) := by decide +kernel
theorem d_Bo_cellOfEar_11 : decode (am_c m_Bo_cellOfEar) 11 = .ok (.ireturn, 1) := by decide +kernel
theorem d_Bo_clockOf_0 : decode (am_c m_Bo_clockOf) 0 = .ok (.aload_n 0, 1) := by decide +kernel
theorem d_Bo_clockOf_1 : decode (am_c m_Bo_clockOf) 1 = .ok (.getfield 15, 3) := by decide +kernel
theorem d_Bo_clockOf_4 : decode (am_c m_Bo_clockOf) 4 = .ok (.aload_n 0, 1) := by decide +kernel
theorem d_Bo_clockOf_5 : decode (am_c m_Bo_clockOf) 5 = .ok (.getfield 24, 3) := by decide +kernel
theorem d_Bo_clockOf_8 : decode (am_c m_Bo_clockOf) 8 = .ok (.iload_n 1, 1) := by decide +kernel
theorem d_Bo_clockOf_9 : decode (am_c m_Bo_clockOf) 9 = .ok (.iaload, 1) := by decide +kernel
theorem d_Bo_clockOf_10 : decode (am_c m_Bo_clockOf) 10 = .ok (.iaload, 1) := by decide +kernel
theorem d_Bo_clockOf_11 : decode (am_c m_Bo_clockOf) 11 = .ok (.ireturn, 1) := by decide +kernel
theorem d_Bo_lowNow_0 : decode (am_c m_Bo_lowNow) 0 = .ok (.aload_n 0, 1) := by decide +kernel
theorem d_Bo_lowNow_1 : decode (am_c m_Bo_lowNow) 1 = .ok (.iload_n 1, 1) := by decide +kernel
theorem d_Bo_lowNow_2 : decode (am_c m_Bo_lowNow) 2 = .ok (.aload_n 0, 1) := by decide +kernel
theorem d_Bo_lowNow_3 : decode (am_c m_Bo_lowNow) 3 = .ok (.getfield 62, 3) := by decide +kernel
theorem d_Bo_lowNow_6 : decode (am_c m_Bo_lowNow) 6 = .ok (.invokevirtual 65, 3) := by decide +kernel
theorem d_Bo_lowNow_9 : decode (am_c m_Bo_lowNow) 9 = .ok (.istore_n 2, 1) := by decide +kernel
theorem d_Bo_lowNow_10 : decode (am_c m_Bo_lowNow) 10 = .ok (.iload_n 2, 1) := by decide +kernel
theorem d_Bo_lowNow_11 : decode (am_c m_Bo_lowNow) 11 = .ok (.ifCond .lt 12, 3) := by decide +kernel
theorem d_Bo_lowNow_14 : decode (am_c m_Bo_lowNow) 14 = .ok (.aload_n 0, 1) := by decide +kernel
theorem d_Bo_lowNow_15 : decode (am_c m_Bo_lowNow) 15 = .ok (.getfield 39, 3) := by decide +kernel
theorem d_Bo_lowNow_18 : decode (am_c m_Bo_lowNow) 18 = .ok (.iload_n 2, 1) := by decide +kernel
theorem d_Bo_lowNow_19 : decode (am_c m_Bo_lowNow) 19 = .ok (.iaload, 1) := by decide +kernel
theorem d_Bo_lowNow_20 : decode (am_c m_Bo_lowNow) 20 = .ok (.goto 4, 3) := by decide +kernel
theorem d_Bo_lowNow_23 : decode (am_c m_Bo_lowNow) 23 = .ok (.iconst 0, 1) := by decide +kernel
theorem d_Bo_lowNow_24 : decode (am_c m_Bo_lowNow) 24 = .ok (.ireturn, 1) := by decide +kernel
theorem d_Bo_lastTelling_0 : decode (am_c m_Bo_lastTelling) 0 = .ok (.aload_n 0, 1) := by decide +kernel
theorem d_Bo_lastTelling_1 : decode (am_c m_Bo_lastTelling) 1 = .ok (.getfield 55, 3) := by decide +kernel
theorem d_Bo_lastTelling_4 : decode (am_c m_Bo_lastTelling) 4 = .ok (.iconst 1, 1) := by decide +kernel
theorem d_Bo_lastTelling_5 : decode (am_c m_Bo_lastTelling) 5 = .ok (.isub, 1) := by decide +kernel
theorem d_Bo_lastTelling_6 : decode (am_c m_Bo_lastTelling) 6 = .ok (.istore_n 3, 1) := by decide +kernel
theorem d_Bo_lastTelling_7 : decode (am_c m_Bo_lastTelling) 7 = .ok (.iload_n 3, 1) := by decide +kernel
theorem d_Bo_lastTelling_8 : decode (am_c m_Bo_lastTelling) 8 = .ok (.ifCond .lt 31, 3) := by decide +kernel
theorem d_Bo_lastTelling_11 : decode (am_c m_Bo_lastTelling) 11 = .ok (.aload_n 0, 1) := by decide +kernel
theorem d_Bo_lastTelling_12 : decode (am_c m_Bo_lastTelling) 12 = .ok (.getfield 33, 3) := by decide +kernel
theorem d_Bo_lastTelling_15 : decode (am_c m_Bo_lastTelling) 15 = .ok (.iload_n 3, 1) := by decide +kernel
theorem d_Bo_lastTelling_16 : decode (am_c m_Bo_lastTelling) 16 = .ok (.iaload, 1) := by decide +kernel
theorem d_Bo_lastTelling_17 : decode (am_c m_Bo_lastTelling) 17 = .ok (.iload_n 1, 1) := by decide +kernel
theorem d_Bo_lastTelling_18 : decode (am_c m_Bo_lastTelling) 18 = .ok (.if_icmp .ne 15, 3) := by decide +kernel
theorem d_Bo_lastTelling_21 : decode (am_c m_Bo_lastTelling) 21 = .ok (.aload_n 0, 1) := by decide +kernel
theorem d_Bo_lastTelling_22 : decode (am_c m_Bo_lastTelling) 22 = .ok (.getfield 36, 3) := by decide +kernel
theorem d_Bo_lastTelling_25 : decode (am_c m_Bo_lastTelling) 25 = .ok (.iload_n 3, 1) := by decide +kernel
theorem d_Bo_lastTelling_26 : decode (am_c m_Bo_lastTelling) 26 = .ok (.iaload, 1) := by decide +kernel
theorem d_Bo_lastTelling_27 : decode (am_c m_Bo_lastTelling) 27 = .ok (.iload_n 2, 1) := by decide +kernel
theorem d_Bo_lastTelling_28 : decode (am_c m_Bo_lastTelling) 28 = .ok (.if_icmp .gt 5, 3) := by decide +kernel
theorem d_Bo_lastTelling_31 : decode (am_c m_Bo_lastTelling) 31 = .ok (.iload_n 3, 1) := by decide +kernel
theorem d_Bo_lastTelling_32 : decode (am_c m_Bo_lastTelling) 32 = .ok (.ireturn, 1) := by decide +kernel
theorem d_Bo_lastTelling_33 : decode (am_c m_Bo_lastTelling) 33 = .ok (.iinc 3 (-1), 3) := by decide +kernel
theorem d_Bo_lastTelling_36 : decode (am_c m_Bo_lastTelling) 36 = .ok (.goto (-29), 3) := by decide +kernel
theorem d_Bo_lastTelling_39 : decode (am_c m_Bo_lastTelling) 39 = .ok (.iconst (-1), 1) := by decide +kernel
theorem d_Bo_lastTelling_40 : decode (am_c m_Bo_lastTelling) 40 = .ok (.ireturn, 1) := by decide +kernel
theorem d_Bo_highNow_0 : decode (am_c m_Bo_highNow) 0 = .ok (.aload_n 0, 1) := by decide +kernel
theorem d_Bo_highNow_1 : decode (am_c m_Bo_highNow) 1 = .ok (.iload_n 1, 1) := by decide +kernel
theorem d_Bo_highNow_2 : decode (am_c m_Bo_highNow) 2 = .ok (.aload_n 0, 1) := by decide +kernel
theorem d_Bo_highNow_3 : decode (am_c m_Bo_highNow) 3 = .ok (.getfield 62, 3) := by decide +kernel
theorem d_Bo_highNow_6 : decode (am_c m_Bo_highNow) 6 = .ok (.invokevirtual 65, 3) := by decide +kernel
theorem d_Bo_highNow_9 : decode (am_c m_Bo_highNow) 9 = .ok (.istore_n 2, 1) := by decide +kernel
theorem d_Bo_highNow_10 : decode (am_c m_Bo_highNow) 10 = .ok (.iload_n 2, 1) := by decide +kernel
theorem d_Bo_highNow_11 : decode (am_c m_Bo_highNow) 11 = .ok (.ifCond .lt 12, 3) := by decide +kernel
theorem d_Bo_highNow_14 : decode (am_c m_Bo_highNow) 14 = .ok (.aload_n 0, 1) := by decide +kernel
theorem d_Bo_highNow_15 : decode (am_c m_Bo_highNow) 15 = .ok (.getfield 42, 3) := by decide +kernel
theorem d_Bo_highNow_18 : decode (am_c m_Bo_highNow) 18 = .ok (.iload_n 2, 1) := by decide +kernel
theorem d_Bo_highNow_19 : decode (am_c m_Bo_highNow) 19 = .ok (.iaload, 1) := by decide +kernel
theorem d_Bo_highNow_20 : decode (am_c m_Bo_highNow) 20 = .ok (.goto 4, 3) := by decide +kernel
theorem d_Bo_highNow_23 : decode (am_c m_Bo_highNow) 23 = .ok (.iconst 0, 1) := by decide +kernel
theorem d_Bo_highNow_24 : decode (am_c m_Bo_highNow) 24 = .ok (.ireturn, 1) := by decide +kernel
theorem d_Ft_aimAtTold_0 : decode (am_c m_Ft_aimAtTold) 0 = .ok (.iconst 0, 1) := by decide +kernel
theorem d_Ft_aimAtTold_1 : decode (am_c m_Ft_aimAtTold) 1 = .ok (.istore_n 1, 1) := by decide +kernel
theorem d_Ft_aimAtTold_2 : decode (am_c m_Ft_aimAtTold) 2 = .ok (.iload_n 1, 1) := by decide +kernel
theorem d_Ft_aimAtTold_3 : decode (am_c m_Ft_aimAtTold) 3 = .ok (.aload_n 0, 1) := by decide +kernel
theorem d_Ft_aimAtTold_4 : decode (am_c m_Ft_aimAtTold) 4 = .ok (.getfield 36, 3) := by decide +kernel
theorem d_Ft_aimAtTold_7 : decode (am_c m_Ft_aimAtTold) 7 = .ok (.getfield 67, 3) := by decide +kernel
theorem d_Ft_aimAtTold_10 : decode (am_c m_Ft_aimAtTold) 10 = .ok (.if_icmp .ge 37, 3) := by decide +kernel
theorem d_Ft_aimAtTold_13 : decode (am_c m_Ft_aimAtTold) 13 = .ok (.aload_n 0, 1) := by decide +kernel
theorem d_Ft_aimAtTold_14 : decode (am_c m_Ft_aimAtTold) 14 = .ok (.getfield 9, 3) := by decide +kernel
theorem d_Ft_aimAtTold_17 : decode (am_c m_Ft_aimAtTold) 17 = .ok (.iload_n 1, 1) := by decide +kernel
theorem d_Ft_aimAtTold_18 : decode (am_c m_Ft_aimAtTold) 18 = .ok (.aload_n 0, 1) := by decide +kernel
theorem d_Ft_aimAtTold_19 : decode (am_c m_Ft_aimAtTold) 19 = .ok (.getfield 36, 3) := by decide +kernel
theorem d_Ft_aimAtTold_22 : decode (am_c m_Ft_aimAtTold) 22 = .ok (.iload_n 1, 1) := by decide +kernel
theorem d_Ft_aimAtTold_23 : decode (am_c m_Ft_aimAtTold) 23 = .ok (.invokevirtual 71, 3) := by decide +kernel
theorem d_Ft_aimAtTold_26 : decode (am_c m_Ft_aimAtTold) 26 = .ok (.iastore, 1) := by decide +kernel
theorem d_Ft_aimAtTold_27 : decode (am_c m_Ft_aimAtTold) 27 = .ok (.aload_n 0, 1) := by decide +kernel
theorem d_Ft_aimAtTold_28 : decode (am_c m_Ft_aimAtTold) 28 = .ok (.getfield 15, 3) := by decide +kernel
theorem d_Ft_aimAtTold_31 : decode (am_c m_Ft_aimAtTold) 31 = .ok (.iload_n 1, 1) := by decide +kernel
theorem d_Ft_aimAtTold_32 : decode (am_c m_Ft_aimAtTold) 32 = .ok (.aload_n 0, 1) := by decide +kernel
theorem d_Ft_aimAtTold_33 : decode (am_c m_Ft_aimAtTold) 33 = .ok (.getfield 36, 3) := by decide +kernel
theorem d_Ft_aimAtTold_36 : decode (am_c m_Ft_aimAtTold) 36 = .ok (.iload_n 1, 1) := by decide +kernel
theorem d_Ft_aimAtTold_37 : decode (am_c m_Ft_aimAtTold) 37 = .ok (.invokevirtual 74, 3) := by decide +kernel
theorem d_Ft_aimAtTold_40 : decode (am_c m_Ft_aimAtTold) 40 = .ok (.iastore, 1) := by decide +kernel
theorem d_Ft_aimAtTold_41 : decode (am_c m_Ft_aimAtTold) 41 = .ok (.iinc 1 1, 3) := by decide +kernel
theorem d_Ft_aimAtTold_44 : decode (am_c m_Ft_aimAtTold) 44 = .ok (.goto (-42), 3) := by decide +kernel
theorem d_Ft_aimAtTold_47 : decode (am_c m_Ft_aimAtTold) 47 = .ok (.return_, 1) := by decide +kernel
theorem d_Ft_sweep_0 : decode (am_c m_Ft_sweep) 0 = .ok (.aload_n 0, 1) := by decide +kernel
theorem d_Ft_sweep_1 : decode (am_c m_Ft_sweep) 1 = .ok (.getfield 32, 3) := by decide +kernel
theorem d_Ft_sweep_4 : decode (am_c m_Ft_sweep) 4 = .ok (.invokevirtual 80, 3) := by decide +kernel
theorem d_Ft_sweep_7 : decode (am_c m_Ft_sweep) 7 = .ok (.istore_n 2, 1) := by decide +kernel
theorem d_Ft_sweep_8 : decode (am_c m_Ft_sweep) 8 = .ok (.iconst 0, 1) := by decide +kernel
theorem d_Ft_sweep_9 : decode (am_c m_Ft_sweep) 9 = .ok (.istore_n 3, 1) := by decide +kernel
theorem d_Ft_sweep_10 : decode (am_c m_Ft_sweep) 10 = .ok (.iconst 0, 1) := by decide +kernel
theorem d_Ft_sweep_11 : decode (am_c m_Ft_sweep) 11 = .ok (.istore 4, 2) := by decide +kernel
theorem d_Ft_sweep_13 : decode (am_c m_Ft_sweep) 13 = .ok (.iconst 0, 1) := by decide +kernel
theorem d_Ft_sweep_14 : decode (am_c m_Ft_sweep) 14 = .ok (.istore 5, 2) := by decide +kernel
theorem d_Ft_sweep_16 : decode (am_c m_Ft_sweep) 16 = .ok (.iload 5, 2) := by decide +kernel
theorem d_Ft_sweep_18 : decode (am_c m_Ft_sweep) 18 = .ok (.iload_n 1, 1) := by decide +kernel
theorem d_Ft_sweep_19 : decode (am_c m_Ft_sweep) 19 = .ok (.if_icmp .ge 105, 3) := by decide +kernel
theorem d_Ft_sweep_22 : decode (am_c m_Ft_sweep) 22 = .ok (.iload 4, 2) := by decide +kernel
theorem d_Ft_sweep_24 : decode (am_c m_Ft_sweep) 24 = .ok (.iload_n 2, 1) := by decide +kernel
theorem d_Ft_sweep_25 : decode (am_c m_Ft_sweep) 25 = .ok (.if_icmp .ge 99, 3) := by decide +kernel
theorem d_Ft_sweep_28 : decode (am_c m_Ft_sweep) 28 = .ok (.iconst 0, 1) := by decide +kernel
theorem d_Ft_sweep_29 : decode (am_c m_Ft_sweep) 29 = .ok (.istore 6, 2) := by decide +kernel
theorem d_Ft_sweep_31 : decode (am_c m_Ft_sweep) 31 = .ok (.iload 6, 2) := by decide +kernel
theorem d_Ft_sweep_33 : decode (am_c m_Ft_sweep) 33 = .ok (.bipush 8, 2) := by decide +kernel
theorem d_Ft_sweep_35 : decode (am_c m_Ft_sweep) 35 = .ok (.if_icmp .ge 83, 3) := by decide +kernel
theorem d_Ft_sweep_38 : decode (am_c m_Ft_sweep) 38 = .ok (.iload 4, 2) := by decide +kernel
theorem d_Ft_sweep_40 : decode (am_c m_Ft_sweep) 40 = .ok (.iload_n 2, 1) := by decide +kernel
theorem d_Ft_sweep_41 : decode (am_c m_Ft_sweep) 41 = .ok (.if_icmp .ge 77, 3) := by decide +kernel
theorem d_Ft_sweep_44 : decode (am_c m_Ft_sweep) 44 = .ok (.aload_n 0, 1) := by decide +kernel
theorem d_Ft_sweep_45 : decode (am_c m_Ft_sweep) 45 = .ok (.getfield 32, 3) := by decide +kernel
theorem d_Ft_sweep_48 : decode (am_c m_Ft_sweep) 48 = .ok (.iload 6, 2) := by decide +kernel
theorem d_Ft_sweep_50 : decode (am_c m_Ft_sweep) 50 = .ok (.invokevirtual 84, 3) := by decide +kernel
theorem d_Ft_sweep_53 : decode (am_c m_Ft_sweep) 53 = .ok (.ifCond .eq 59, 3) := by decide +kernel
theorem d_Ft_sweep_56 : decode (am_c m_Ft_sweep) 56 = .ok (.aload_n 0, 1) := by decide +kernel
theorem d_Ft_sweep_57 : decode (am_c m_Ft_sweep) 57 = .ok (.getfield 32, 3) := by decide +kernel
theorem d_Ft_sweep_60 : decode (am_c m_Ft_sweep) 60 = .ok (.getfield 87, 3) := by decide +kernel
theorem d_Ft_sweep_63 : decode (am_c m_Ft_sweep) 63 = .ok (.iload 6, 2) := by decide +kernel
theorem d_Ft_sweep_65 : decode (am_c m_Ft_sweep) 65 = .ok (.iaload, 1) := by decide +kernel
theorem d_Ft_sweep_66 : decode (am_c m_Ft_sweep) 66 = .ok (.istore 7, 2) := by decide +kernel
theorem d_Ft_sweep_68 : decode (am_c m_Ft_sweep) 68 = .ok (.aload_n 0, 1) := by decide +kernel
theorem d_Ft_sweep_69 : decode (am_c m_Ft_sweep) 69 = .ok (.iload 6, 2) := by decide +kernel
theorem d_Ft_sweep_71 : decode (am_c m_Ft_sweep) 71 = .ok (.invokevirtual 90, 3) := by decide +kernel
theorem d_Ft_sweep_74 : decode (am_c m_Ft_sweep) 74 = .ok (.istore_n 3, 1) := by decide +kernel
theorem d_Ft_sweep_75 : decode (am_c m_Ft_sweep) 75 = .ok (.aload_n 0, 1) := by decide +kernel
theorem d_Ft_sweep_76 : decode (am_c m_Ft_sweep) 76 = .ok (.getfield 32, 3) := by decide +kernel
theorem d_Ft_sweep_79 : decode (am_c m_Ft_sweep) 79 = .ok (.getfield 87, 3) := by decide +kernel
theorem d_Ft_sweep_82 : decode (am_c m_Ft_sweep) 82 = .ok (.iload 6, 2) := by decide +kernel
theorem d_Ft_sweep_84 : decode (am_c m_Ft_sweep) 84 = .ok (.iaload, 1) := by decide +kernel
theorem d_Ft_sweep_85 : decode (am_c m_Ft_sweep) 85 = .ok (.iload 7, 2) := by decide +kernel
theorem d_Ft_sweep_87 : decode (am_c m_Ft_sweep) 87 = .ok (.if_icmp .eq 7, 3) := by decide +kernel
theorem d_Ft_sweep_90 : decode (am_c m_Ft_sweep) 90 = .ok (.iconst 1, 1) := by decide +kernel
theorem d_Ft_sweep_91 : decode (am_c m_Ft_sweep) 91 = .ok (.goto 7, 3) := by decide +kernel
theorem d_Ft_sweep_94 : decode (am_c m_Ft_sweep) 94 = .ok (.iload 4, 2) := by decide +kernel
theorem d_Ft_sweep_96 : decode (am_c m_Ft_sweep) 96 = .ok (.iconst 1, 1) := by decide +kernel
theorem d_Ft_sweep_97 : decode (am_c m_Ft_sweep) 97 = .ok (.iadd, 1) := by decide +kernel
theorem d_Ft_sweep_98 : decode (am_c m_Ft_sweep) 98 = .ok (.istore 4, 2) := by decide +kernel
theorem d_Ft_sweep_100 : decode (am_c m_Ft_sweep) 100 = .ok (.iload_n 3, 1) := by decide +kernel
theorem d_Ft_sweep_101 : decode (am_c m_Ft_sweep) 101 = .ok (.ifCond .ne 7, 3) := by decide +kernel
theorem d_Ft_sweep_104 : decode (am_c m_Ft_sweep) 104 = .ok (.iload_n 2, 1) := by decide +kernel
theorem d_Ft_sweep_105 : decode (am_c m_Ft_sweep) 105 = .ok (.goto 5, 3) := by decide +kernel
theorem d_Ft_sweep_108 : decode (am_c m_Ft_sweep) 108 = .ok (.iload 4, 2) := by decide +kernel
theorem d_Ft_sweep_110 : decode (am_c m_Ft_sweep) 110 = .ok (.istore 4, 2) := by decide +kernel
theorem d_Ft_sweep_112 : decode (am_c m_Ft_sweep) 112 = .ok (.iinc 6 1, 3) := by decide +kernel
theorem d_Ft_sweep_115 : decode (am_c m_Ft_sweep) 115 = .ok (.goto (-84), 3) := by decide +kernel
theorem d_Ft_sweep_118 : decode (am_c m_Ft_sweep) 118 = .ok (.iinc 5 1, 3) := by decide +kernel
theorem d_Ft_sweep_121 : decode (am_c m_Ft_sweep) 121 = .ok (.goto (-105), 3) := by decide +kernel
theorem d_Ft_sweep_124 : decode (am_c m_Ft_sweep) 124 = .ok (.iload_n 3, 1) := by decide +kernel
theorem d_Ft_sweep_125 : decode (am_c m_Ft_sweep) 125 = .ok (.ireturn, 1) := by decide +kernel
theorem d_Gr_blocksInUse_0 : decode (am_c m_Gr_blocksInUse) 0 = .ok (.iconst 0, 1) := by decide +kernel
theorem d_Gr_blocksInUse_1 : decode (am_c m_Gr_blocksInUse) 1 = .ok (.istore_n 1, 1) := by decide +kernel
theorem d_Gr_blocksInUse_2 : decode (am_c m_Gr_blocksInUse) 2 = .ok (.iconst 0, 1) := by decide +kernel
theorem d_Gr_blocksInUse_3 : decode (am_c m_Gr_blocksInUse) 3 = .ok (.istore_n 2, 1) := by decide +kernel
theorem d_Gr_blocksInUse_4 : decode (am_c m_Gr_blocksInUse) 4 = .ok (.iload_n 2, 1) := by decide +kernel
theorem d_Gr_blocksInUse_5 : decode (am_c m_Gr_blocksInUse) 5 = .ok (.bipush 8, 2) := by decide +kernel
theorem d_Gr_blocksInUse_7 : decode (am_c m_Gr_blocksInUse) 7 = .ok (.if_icmp .ge 25, 3) := by decide +kernel
theorem d_Gr_blocksInUse_10 : decode (am_c m_Gr_blocksInUse) 10 = .ok (.iload_n 1, 1) := by decide +kernel
theorem d_Gr_blocksInUse_11 : decode (am_c m_Gr_blocksInUse) 11 = .ok (.aload_n 0, 1) := by decide +kernel
theorem d_Gr_blocksInUse_12 : decode (am_c m_Gr_blocksInUse) 12 = .ok (.iload_n 2, 1) := by decide +kernel
theorem d_Gr_blocksInUse_13 : decode (am_c m_Gr_blocksInUse) 13 = .ok (.invokevirtual 43, 3) := by decide +kernel
theorem d_Gr_blocksInUse_16 : decode (am_c m_Gr_blocksInUse) 16 = .ok (.ifCond .eq 7, 3) := by decide +kernel
theorem d_Gr_blocksInUse_19 : decode (am_c m_Gr_blocksInUse) 19 = .ok (.iconst 1, 1) := by decide +kernel
theorem d_Gr_blocksInUse_20 : decode (am_c m_Gr_blocksInUse) 20 = .ok (.goto 4, 3) := by decide +kernel
theorem d_Gr_blocksInUse_23 : decode (am_c m_Gr_blocksInUse) 23 = .ok (.iconst 0, 1) := by decide +kernel
theorem d_Gr_blocksInUse_24 : decode (am_c m_Gr_blocksInUse) 24 = .ok (.iadd, 1) := by decide +kernel
theorem d_Gr_blocksInUse_25 : decode (am_c m_Gr_blocksInUse) 25 = .ok (.istore_n 1, 1) := by decide +kernel
theorem d_Gr_blocksInUse_26 : decode (am_c m_Gr_blocksInUse) 26 = .ok (.iinc 2 1, 3) := by decide +kernel
theorem d_Gr_blocksInUse_29 : decode (am_c m_Gr_blocksInUse) 29 = .ok (.goto (-25), 3) := by decide +kernel
theorem d_Gr_blocksInUse_32 : decode (am_c m_Gr_blocksInUse) 32 = .ok (.iload_n 1, 1) := by decide +kernel
theorem d_Gr_blocksInUse_33 : decode (am_c m_Gr_blocksInUse) 33 = .ok (.ireturn, 1) := by decide +kernel
theorem d_Ft_improve_0 : decode (am_c m_Ft_improve) 0 = .ok (.aload_n 0, 1) := by decide +kernel
theorem d_Ft_improve_1 : decode (am_c m_Ft_improve) 1 = .ok (.getfield 18, 3) := by decide +kernel
theorem d_Ft_improve_4 : decode (am_c m_Ft_improve) 4 = .ok (.iconst 0, 1) := by decide +kernel
theorem d_Ft_improve_5 : decode (am_c m_Ft_improve) 5 = .ok (.invokestatic 93, 3) := by decide +kernel
theorem d_Ft_improve_8 : decode (am_c m_Ft_improve) 8 = .ok (.iconst 0, 1) := by decide +kernel
theorem d_Ft_improve_9 : decode (am_c m_Ft_improve) 9 = .ok (.istore_n 2, 1) := by decide +kernel
theorem d_Ft_improve_10 : decode (am_c m_Ft_improve) 10 = .ok (.iload_n 2, 1) := by decide +kernel
theorem d_Ft_improve_11 : decode (am_c m_Ft_improve) 11 = .ok (.aload_n 0, 1) := by decide +kernel
theorem d_Ft_improve_12 : decode (am_c m_Ft_improve) 12 = .ok (.getfield 36, 3) := by decide +kernel
theorem d_Ft_improve_15 : decode (am_c m_Ft_improve) 15 = .ok (.getfield 99, 3) := by decide +kernel
theorem d_Ft_improve_18 : decode (am_c m_Ft_improve) 18 = .ok (.if_icmp .ge 47, 3) := by decide +kernel
theorem d_Ft_improve_21 : decode (am_c m_Ft_improve) 21 = .ok (.iconst 0, 1) := by decide +kernel
theorem d_Ft_improve_22 : decode (am_c m_Ft_improve) 22 = .ok (.istore_n 3, 1) := by decide +kernel
theorem d_Ft_improve_23 : decode (am_c m_Ft_improve) 23 = .ok (.iload_n 3, 1) := by decide +kernel
theorem d_Ft_improve_24 : decode (am_c m_Ft_improve) 24 = .ok (.iconst 2, 1) := by decide +kernel
theorem d_Ft_improve_25 : decode (am_c m_Ft_improve) 25 = .ok (.if_icmp .ge 34, 3) := by decide +kernel
theorem d_Ft_improve_28 : decode (am_c m_Ft_improve) 28 = .ok (.aload_n 0, 1) := by decide +kernel
theorem d_Ft_improve_29 : decode (am_c m_Ft_improve) 29 = .ok (.iload_n 2, 1) := by decide +kernel
theorem d_Ft_improve_30 : decode (am_c m_Ft_improve) 30 = .ok (.iload_n 3, 1) := by decide +kernel
theorem d_Ft_improve_31 : decode (am_c m_Ft_improve) 31 = .ok (.invokevirtual 102, 3) := by decide +kernel
theorem d_Ft_improve_34 : decode (am_c m_Ft_improve) 34 = .ok (.aload_n 0, 1) := by decide +kernel
theorem d_Ft_improve_35 : decode (am_c m_Ft_improve) 35 = .ok (.getfield 105, 3) := by decide +kernel
theorem d_Ft_improve_38 : decode (am_c m_Ft_improve) 38 = .ok (.ifCond .le 15, 3) := by decide +kernel
theorem d_Ft_improve_41 : decode (am_c m_Ft_improve) 41 = .ok (.aload_n 0, 1) := by decide +kernel
theorem d_Ft_improve_42 : decode (am_c m_Ft_improve) 42 = .ok (.iload_n 1, 1) := by decide +kernel
theorem d_Ft_improve_43 : decode (am_c m_Ft_improve) 43 = .ok (.iload_n 2, 1) := by decide +kernel
theorem d_Ft_improve_44 : decode (am_c m_Ft_improve) 44 = .ok (.iload_n 3, 1) := by decide +kernel
theorem d_Ft_improve_45 : decode (am_c m_Ft_improve) 45 = .ok (.invokevirtual 108, 3) := by decide +kernel
theorem d_Ft_improve_48 : decode (am_c m_Ft_improve) 48 = .ok (.aload_n 0, 1) := by decide +kernel
theorem d_Ft_improve_49 : decode (am_c m_Ft_improve) 49 = .ok (.iload_n 2, 1) := by decide +kernel
theorem d_Ft_improve_50 : decode (am_c m_Ft_improve) 50 = .ok (.invokevirtual 112, 3) := by decide +kernel
theorem d_Ft_improve_53 : decode (am_c m_Ft_improve) 53 = .ok (.iinc 3 1, 3) := by decide +kernel
theorem d_Ft_improve_56 : decode (am_c m_Ft_improve) 56 = .ok (.goto (-33), 3) := by decide +kernel
theorem d_Ft_improve_59 : decode (am_c m_Ft_improve) 59 = .ok (.iinc 2 1, 3) := by decide +kernel
theorem d_Ft_improve_62 : decode (am_c m_Ft_improve) 62 = .ok (.goto (-52), 3) := by decide +kernel
theorem d_Ft_improve_65 : decode (am_c m_Ft_improve) 65 = .ok (.aload_n 0, 1) := by decide +kernel
theorem d_Ft_improve_66 : decode (am_c m_Ft_improve) 66 = .ok (.getfield 32, 3) := by decide +kernel
theorem d_Ft_improve_69 : decode (am_c m_Ft_improve) 69 = .ok (.getfield 87, 3) := by decide +kernel
theorem d_Ft_improve_72 : decode (am_c m_Ft_improve) 72 = .ok (.iload_n 1, 1) := by decide +kernel
theorem d_Ft_improve_73 : decode (am_c m_Ft_improve) 73 = .ok (.iaload, 1) := by decide +kernel
theorem d_Ft_improve_74 : decode (am_c m_Ft_improve) 74 = .ok (.istore_n 2, 1) := by decide +kernel
theorem d_Ft_improve_75 : decode (am_c m_Ft_improve) 75 = .ok (.iconst 1, 1) := by decide +kernel
theorem d_Ft_improve_76 : decode (am_c m_Ft_improve) 76 = .ok (.istore_n 3, 1) := by decide +kernel
theorem d_Ft_improve_77 : decode (am_c m_Ft_improve) 77 = .ok (.iload_n 3, 1) := by decide +kernel
theorem d_Ft_improve_78 : decode (am_c m_Ft_improve) 78 = .ok (.bipush 60, 2) := by decide +kernel
theorem d_Ft_improve_80 : decode (am_c m_Ft_improve) 80 = .ok (.if_icmp .gt 26, 3) := by decide +kernel
theorem d_Ft_improve_83 : decode (am_c m_Ft_improve) 83 = .ok (.aload_n 0, 1) := by decide +kernel
theorem d_Ft_improve_84 : decode (am_c m_Ft_improve) 84 = .ok (.getfield 18, 3) := by decide +kernel
theorem d_Ft_improve_87 : decode (am_c m_Ft_improve) 87 = .ok (.iload_n 3, 1) := by decide +kernel
theorem d_Ft_improve_88 : decode (am_c m_Ft_improve) 88 = .ok (.iaload, 1) := by decide +kernel
theorem d_Ft_improve_89 : decode (am_c m_Ft_improve) 89 = .ok (.aload_n 0, 1) := by decide +kernel
theorem d_Ft_improve_90 : decode (am_c m_Ft_improve) 90 = .ok (.getfield 18, 3) := by decide +kernel
theorem d_Ft_improve_93 : decode (am_c m_Ft_improve) 93 = .ok (.iload_n 2, 1) := by decide +kernel
theorem d_Ft_improve_94 : decode (am_c m_Ft_improve) 94 = .ok (.iaload, 1) := by decide +kernel
theorem d_Ft_improve_95 : decode (am_c m_Ft_improve) 95 = .ok (.if_icmp .ge 5, 3) := by decide +kernel
theorem d_Ft_improve_98 : decode (am_c m_Ft_improve) 98 = .ok (.iload_n 3, 1) := by decide +kernel
theorem d_Ft_improve_99 : decode (am_c m_Ft_improve) 99 = .ok (.istore_n 2, 1) := by decide +kernel
theorem d_Ft_improve_100 : decode (am_c m_Ft_improve) 100 = .ok (.iinc 3 1, 3) := by decide +kernel
theorem d_Ft_improve_103 : decode (am_c m_Ft_improve) 103 = .ok (.goto (-26), 3) := by decide +kernel
theorem d_Ft_improve_106 : decode (am_c m_Ft_improve) 106 = .ok (.aload_n 0, 1) := by decide +kernel
theorem d_Ft_improve_107 : decode (am_c m_Ft_improve) 107 = .ok (.getfield 32, 3) := by decide +kernel
theorem d_Ft_improve_110 : decode (am_c m_Ft_improve) 110 = .ok (.getfield 87, 3) := by decide +kernel
theorem d_Ft_improve_113 : decode (am_c m_Ft_improve) 113 = .ok (.iload_n 1, 1) := by decide +kernel
theorem d_Ft_improve_114 : decode (am_c m_Ft_improve) 114 = .ok (.iload_n 2, 1) := by decide +kernel
theorem d_Ft_improve_115 : decode (am_c m_Ft_improve) 115 = .ok (.iastore, 1) := by decide +kernel
theorem d_Ft_improve_116 : decode (am_c m_Ft_improve) 116 = .ok (.aload_n 0, 1) := by decide +kernel
theorem d_Ft_improve_117 : decode (am_c m_Ft_improve) 117 = .ok (.getfield 18, 3) := by decide +kernel
theorem d_Ft_improve_120 : decode (am_c m_Ft_improve) 120 = .ok (.iload_n 2, 1) := by decide +kernel
theorem d_Ft_improve_121 : decode (am_c m_Ft_improve) 121 = .ok (.iaload, 1) := by decide +kernel
theorem d_Ft_improve_122 : decode (am_c m_Ft_improve) 122 = .ok (.ireturn, 1) := by decide +kernel
theorem d_Ft_gatherMembers_0 : decode (am_c m_Ft_gatherMembers) 0 = .ok (.aload_n 0, 1) := by decide +kernel
theorem d_Ft_gatherMembers_1 : decode (am_c m_Ft_gatherMembers) 1 = .ok (.iconst 0, 1) := by decide +kernel
theorem d_Ft_gatherMembers_2 : decode (am_c m_Ft_gatherMembers) 2 = .ok (.putfield 105, 3) := by decide +kernel
theorem d_Ft_gatherMembers_5 : decode (am_c m_Ft_gatherMembers) 5 = .ok (.iconst 0, 1) := by decide +kernel
theorem d_Ft_gatherMembers_6 : decode (am_c m_Ft_gatherMembers) 6 = .ok (.istore_n 3, 1) := by decide +kernel
theorem d_Ft_gatherMembers_7 : decode (am_c m_Ft_gatherMembers) 7 = .ok (.iload_n 3, 1) := by decide +kernel
theorem d_Ft_gatherMembers_8 : decode (am_c m_Ft_gatherMembers) 8 = .ok (.aload_n 0, 1) := by decide +kernel
theorem d_Ft_gatherMembers_9 : decode (am_c m_Ft_gatherMembers) 9 = .ok (.getfield 36, 3) := by decide +kernel
theorem d_Ft_gatherMembers_12 : decode (am_c m_Ft_gatherMembers) 12 = .ok (.getfield 67, 3) := by decide +kernel
theorem d_Ft_gatherMembers_15 : decode (am_c m_Ft_gatherMembers) 15 = .ok (.if_icmp .ge 55, 3) := by decide +kernel
theorem d_Ft_gatherMembers_18 : decode (am_c m_Ft_gatherMembers) 18 = .ok (.aload_n 0, 1) := by decide +kernel
theorem d_Ft_gatherMembers_19 : decode (am_c m_Ft_gatherMembers) 19 = .ok (.getfield 36, 3) := by decide +kernel
theorem d_Ft_gatherMembers_22 : decode (am_c m_Ft_gatherMembers) 22 = .ok (.getfield 116, 3) := by decide +kernel
theorem d_Ft_gatherMembers_25 : decode (am_c m_Ft_gatherMembers) 25 = .ok (.iload_n 3, 1) := by decide +kernel
theorem d_Ft_gatherMembers_26 : decode (am_c m_Ft_gatherMembers) 26 = .ok (.iaload, 1) := by decide +kernel
theorem d_Ft_gatherMembers_27 : decode (am_c m_Ft_gatherMembers) 27 = .ok (.iload_n 1, 1) := by decide +kernel
theorem d_Ft_gatherMembers_28 : decode (am_c m_Ft_gatherMembers) 28 = .ok (.if_icmp .ne 36, 3) := by decide +kernel
theorem d_Ft_gatherMembers_31 : decode (am_c m_Ft_gatherMembers) 31 = .ok (.aload_n 0, 1) := by decide +kernel
theorem d_Ft_gatherMembers_32 : decode (am_c m_Ft_gatherMembers) 32 = .ok (.getfield 36, 3) := by decide +kernel
theorem d_Ft_gatherMembers_35 : decode (am_c m_Ft_gatherMembers) 35 = .ok (.getfield 46, 3) := by decide +kernel
theorem d_Ft_gatherMembers_38 : decode (am_c m_Ft_gatherMembers) 38 = .ok (.iload_n 3, 1) := by decide +kernel
theorem d_Ft_gatherMembers_39 : decode (am_c m_Ft_gatherMembers) 39 = .ok (.iaload, 1) := by decide +kernel
theorem d_Ft_gatherMembers_40 : decode (am_c m_Ft_gatherMembers) 40 = .ok (.iload_n 2, 1) := by decide +kernel
theorem d_Ft_gatherMembers_41 : decode (am_c m_Ft_gatherMembers) 41 = .ok (.if_icmp .ne 23, 3) := by decide +kernel
theorem d_Ft_gatherMembers_44 : decode (am_c m_Ft_gatherMembers) 44 = .ok (.aload_n 0, 1) := by decide +kernel
theorem d_Ft_gatherMembers_45 : decode (am_c m_Ft_gatherMembers) 45 = .ok (.getfield 21, 3) := by decide +kernel
theorem d_Ft_gatherMembers_48 : decode (am_c m_Ft_gatherMembers) 48 = .ok (.aload_n 0, 1) := by decide +kernel
theorem d_Ft_gatherMembers_49 : decode (am_c m_Ft_gatherMembers) 49 = .ok (.getfield 105, 3) := by decide +kernel
theorem d_Ft_gatherMembers_52 : decode (am_c m_Ft_gatherMembers) 52 = .ok (.iload_n 3, 1) := by decide +kernel
theorem d_Ft_gatherMembers_53 : decode (am_c m_Ft_gatherMembers) 53 = .ok (.iastore, 1) := by decide +kernel
theorem d_Ft_gatherMembers_54 : decode (am_c m_Ft_gatherMembers) 54 = .ok (.aload_n 0, 1) := by decide +kernel
theorem d_Ft_gatherMembers_55 : decode (am_c m_Ft_gatherMembers) 55 = .ok (.dup, 1) := by decide +kernel
theorem d_Ft_gatherMembers_56 : decode (am_c m_Ft_gatherMembers) 56 = .ok (.getfield 105, 3) := by decide +kernel
theorem d_Ft_gatherMembers_59 : decode (am_c m_Ft_gatherMembers) 59 = .ok (.iconst 1, 1) := by decide +kernel
theorem d_Ft_gatherMembers_60 : decode (am_c m_Ft_gatherMembers) 60 = .ok (.iadd, 1) := by decide +kernel
theorem d_Ft_gatherMembers_61 : decode (am_c m_Ft_gatherMembers) 61 = .ok (.putfield 105, 3) := by decide +kernel
theorem d_Ft_gatherMembers_64 : decode (am_c m_Ft_gatherMembers) 64 = .ok (.iinc 3 1, 3) := by decide +kernel
theorem d_Ft_gatherMembers_67 : decode (am_c m_Ft_gatherMembers) 67 = .ok (.goto (-60), 3) := by decide +kernel
theorem d_Ft_gatherMembers_70 : decode (am_c m_Ft_gatherMembers) 70 = .ok (.return_, 1) := by decide +kernel
theorem d_Ft_tabulate_0 : decode (am_c m_Ft_tabulate) 0 = .ok (.aload_n 0, 1) := by decide +kernel
theorem d_Ft_tabulate_1 : decode (am_c m_Ft_tabulate) 1 = .ok (.getfield 32, 3) := by decide +kernel
theorem d_Ft_tabulate_4 : decode (am_c m_Ft_tabulate) 4 = .ok (.getfield 87, 3) := by decide +kernel
theorem d_Ft_tabulate_7 : decode (am_c m_Ft_tabulate) 7 = .ok (.iload_n 1, 1) := by decide +kernel
theorem d_Ft_tabulate_8 : decode (am_c m_Ft_tabulate) 8 = .ok (.iaload, 1) := by decide +kernel
theorem d_Ft_tabulate_9 : decode (am_c m_Ft_tabulate) 9 = .ok (.istore 4, 2) := by decide +kernel
theorem d_Ft_tabulate_11 : decode (am_c m_Ft_tabulate) 11 = .ok (.aload_n 0, 1) := by decide +kernel
theorem d_Ft_tabulate_12 : decode (am_c m_Ft_tabulate) 12 = .ok (.getfield 36, 3) := by decide +kernel
theorem d_Ft_tabulate_15 : decode (am_c m_Ft_tabulate) 15 = .ok (.getfield 126, 3) := by decide +kernel
theorem d_Ft_tabulate_18 : decode (am_c m_Ft_tabulate) 18 = .ok (.iload_n 2, 1) := by decide +kernel
theorem d_Ft_tabulate_19 : decode (am_c m_Ft_tabulate) 19 = .ok (.iaload, 1) := by decide +kernel
theorem d_Ft_tabulate_20 : decode (am_c m_Ft_tabulate) 20 = .ok (.istore 5, 2) := by decide +kernel
theorem d_Ft_tabulate_22 : decode (am_c m_Ft_tabulate) 22 = .ok (.aload_n 0, 1) := by decide +kernel
theorem d_Ft_tabulate_23 : decode (am_c m_Ft_tabulate) 23 = .ok (.iload_n 1, 1) := by decide +kernel
theorem d_Ft_tabulate_24 : decode (am_c m_Ft_tabulate) 24 = .ok (.iconst 1, 1) := by decide +kernel
theorem d_Ft_tabulate_25 : decode (am_c m_Ft_tabulate) 25 = .ok (.iload 5, 2) := by decide +kernel
theorem d_Ft_tabulate_27 : decode (am_c m_Ft_tabulate) 27 = .ok (.iload_n 3, 1) := by decide +kernel
theorem d_Ft_tabulate_28 : decode (am_c m_Ft_tabulate) 28 = .ok (.invokevirtual 129, 3) := by decide +kernel
theorem d_Ft_tabulate_31 : decode (am_c m_Ft_tabulate) 31 = .ok (.aload_n 0, 1) := by decide +kernel
theorem d_Ft_tabulate_32 : decode (am_c m_Ft_tabulate) 32 = .ok (.iload_n 1, 1) := by decide +kernel
theorem d_Ft_tabulate_33 : decode (am_c m_Ft_tabulate) 33 = .ok (.bipush 60, 2) := by decide +kernel
theorem d_Ft_tabulate_35 : decode (am_c m_Ft_tabulate) 35 = .ok (.iload 5, 2) := by decide +kernel
theorem d_Ft_tabulate_37 : decode (am_c m_Ft_tabulate) 37 = .ok (.iload_n 3, 1) := by decide +kernel
theorem d_Ft_tabulate_38 : decode (am_c m_Ft_tabulate) 38 = .ok (.invokevirtual 129, 3) := by decide +kernel
theorem d_Ft_tabulate_41 : decode (am_c m_Ft_tabulate) 41 = .ok (.iconst 1, 1) := by decide +kernel
theorem d_Ft_tabulate_42 : decode (am_c m_Ft_tabulate) 42 = .ok (.istore 6, 2) := by decide +kernel
theorem d_Ft_tabulate_44 : decode (am_c m_Ft_tabulate) 44 = .ok (.iconst 0, 1) := by decide +kernel
theorem d_Ft_tabulate_45 : decode (am_c m_Ft_tabulate) 45 = .ok (.istore 7, 2) := by decide +kernel
theorem d_Ft_tabulate_47 : decode (am_c m_Ft_tabulate) 47 = .ok (.aload_n 0, 1) := by decide +kernel
theorem d_Ft_tabulate_48 : decode (am_c m_Ft_tabulate) 48 = .ok (.getfield 29, 3) := by decide +kernel
theorem d_Ft_tabulate_51 : decode (am_c m_Ft_tabulate) 51 = .ok (.iload 7, 2) := by decide +kernel
theorem d_Ft_tabulate_53 : decode (am_c m_Ft_tabulate) 53 = .ok (.bipush 60, 2) := by decide +kernel
theorem d_Ft_tabulate_55 : decode (am_c m_Ft_tabulate) 55 = .ok (.iastore, 1) := by decide +kernel
theorem d_Ft_tabulate_56 : decode (am_c m_Ft_tabulate) 56 = .ok (.iconst 0, 1) := by decide +kernel
theorem d_Ft_tabulate_57 : decode (am_c m_Ft_tabulate) 57 = .ok (.istore 8, 2) := by decide +kernel
theorem d_Ft_tabulate_59 : decode (am_c m_Ft_tabulate) 59 = .ok (.iload 8, 2) := by decide +kernel
theorem d_Ft_tabulate_61 : decode (am_c m_Ft_tabulate) 61 = .ok (.bipush 120, 2) := by decide +kernel
theorem d_Ft_tabulate_63 : decode (am_c m_Ft_tabulate) 63 = .ok (.if_icmp .ge 108, 3) := by decide +kernel
theorem d_Ft_tabulate_66 : decode (am_c m_Ft_tabulate) 66 = .ok (.iload 7, 2) := by decide +kernel
theorem d_Ft_tabulate_68 : decode (am_c m_Ft_tabulate) 68 = .ok (.ifCond .lt 103, 3) := by decide +kernel
theorem d_Ft_tabulate_71 : decode (am_c m_Ft_tabulate) 71 = .ok (.iload 7, 2) := by decide +kernel
theorem d_Ft_tabulate_73 : decode (am_c m_Ft_tabulate) 73 = .ok (.bipush 60, 2) := by decide +kernel
theorem d_Ft_tabulate_75 : decode (am_c m_Ft_tabulate) 75 = .ok (.if_icmp .ge 96, 3) := by decide +kernel
theorem d_Ft_tabulate_78 : decode (am_c m_Ft_tabulate) 78 = .ok (.aload_n 0, 1) := by decide +kernel
theorem d_Ft_tabulate_79 : decode (am_c m_Ft_tabulate) 79 = .ok (.getfield 29, 3) := by decide +kernel
theorem d_Ft_tabulate_82 : decode (am_c m_Ft_tabulate) 82 = .ok (.iload 7, 2) := by decide +kernel
theorem d_Ft_tabulate_84 : decode (am_c m_Ft_tabulate) 84 = .ok (.iaload, 1) := by decide +kernel
theorem d_Ft_tabulate_85 : decode (am_c m_Ft_tabulate) 85 = .ok (.istore 9, 2) := by decide +kernel
theorem d_Ft_tabulate_87 : decode (am_c m_Ft_tabulate) 87 = .ok (.iload 6, 2) := by decide +kernel
theorem d_Ft_tabulate_89 : decode (am_c m_Ft_tabulate) 89 = .ok (.iload 9, 2) := by decide +kernel
theorem d_Ft_tabulate_91 : decode (am_c m_Ft_tabulate) 91 = .ok (.iadd, 1) := by decide +kernel
theorem d_Ft_tabulate_92 : decode (am_c m_Ft_tabulate) 92 = .ok (.iconst 2, 1) := by decide +kernel
theorem d_Ft_tabulate_93 : decode (am_c m_Ft_tabulate) 93 = .ok (.idiv, 1) := by decide +kernel
theorem d_Ft_tabulate_94 : decode (am_c m_Ft_tabulate) 94 = .ok (.istore 10, 2) := by decide +kernel
theorem d_Ft_tabulate_96 : decode (am_c m_Ft_tabulate) 96 = .ok (.iload 10, 2) := by decide +kernel
theorem d_Ft_tabulate_98 : decode (am_c m_Ft_tabulate) 98 = .ok (.iload 6, 2) := by decide +kernel
theorem d_Ft_tabulate_100 : decode (am_c m_Ft_tabulate) 100 = .ok (.if_icmp .le 13, 3) := by decide +kernel
theorem d_Ft_tabulate_103 : decode (am_c m_Ft_tabulate) 103 = .ok (.aload_n 0, 1) := by decide +kernel
theorem d_Ft_tabulate_104 : decode (am_c m_Ft_tabulate) 104 = .ok (.iload_n 1, 1) := by decide +kernel
theorem d_Ft_tabulate_105 : decode (am_c m_Ft_tabulate) 105 = .ok (.iload 10, 2) := by decide +kernel
theorem d_Ft_tabulate_107 : decode (am_c m_Ft_tabulate) 107 = .ok (.iload 5, 2) := by decide +kernel
theorem d_Ft_tabulate_109 : decode (am_c m_Ft_tabulate) 109 = .ok (.iload_n 3, 1) := by decide +kernel
theorem d_Ft_tabulate_110 : decode (am_c m_Ft_tabulate) 110 = .ok (.invokevirtual 129, 3) := by decide +kernel
theorem d_Ft_tabulate_113 : decode (am_c m_Ft_tabulate) 113 = .ok (.iload 10, 2) := by decide +kernel
theorem d_Ft_tabulate_115 : decode (am_c m_Ft_tabulate) 115 = .ok (.iload 6, 2) := by decide +kernel
theorem d_Ft_tabulate_117 : decode (am_c m_Ft_tabulate) 117 = .ok (.if_icmp .eq 17, 3) := by decide +kernel
theorem d_Ft_tabulate_120 : decode (am_c m_Ft_tabulate) 120 = .ok (.aload_n 0, 1) := by decide +kernel
theorem d_Ft_tabulate_121 : decode (am_c m_Ft_tabulate) 121 = .ok (.iload 6, 2) := by decide +kernel
theorem d_Ft_tabulate_123 : decode (am_c m_Ft_tabulate) 123 = .ok (.iload 10, 2) := by decide +kernel
theorem d_Ft_tabulate_125 : decode (am_c m_Ft_tabulate) 125 = .ok (.iload 9, 2) := by decide +kernel
theorem d_Ft_tabulate_127 : decode (am_c m_Ft_tabulate) 127 = .ok (.iload_n 3, 1) := by decide +kernel
theorem d_Ft_tabulate_128 : decode (am_c m_Ft_tabulate) 128 = .ok (.invokevirtual 133, 3) := by decide +kernel
theorem d_Ft_tabulate_131 : decode (am_c m_Ft_tabulate) 131 = .ok (.ifCond .eq 22, 3) := by decide +kernel
theorem d_Ft_tabulate_134 : decode (am_c m_Ft_tabulate) 134 = .ok (.aload_n 0, 1) := by decide +kernel
theorem d_Ft_tabulate_135 : decode (am_c m_Ft_tabulate) 135 = .ok (.iload 6, 2) := by decide +kernel
theorem d_Ft_tabulate_137 : decode (am_c m_Ft_tabulate) 137 = .ok (.iload 9, 2) := by decide +kernel
theorem d_Ft_tabulate_139 : decode (am_c m_Ft_tabulate) 139 = .ok (.iload_n 3, 1) := by decide +kernel
theorem d_Ft_tabulate_140 : decode (am_c m_Ft_tabulate) 140 = .ok (.invokevirtual 137, 3) := by decide +kernel
theorem d_Ft_tabulate_143 : decode (am_c m_Ft_tabulate) 143 = .ok (.iload 9, 2) := by decide +kernel
theorem d_Ft_tabulate_145 : decode (am_c m_Ft_tabulate) 145 = .ok (.istore 6, 2) := by decide +kernel
theorem d_Ft_tabulate_147 : decode (am_c m_Ft_tabulate) 147 = .ok (.iinc 7 (-1), 3) := by decide +kernel
theorem d_Ft_tabulate_150 : decode (am_c m_Ft_tabulate) 150 = .ok (.goto 15, 3) := by decide +kernel
theorem d_Ft_tabulate_153 : decode (am_c m_Ft_tabulate) 153 = .ok (.iinc 7 1, 3) := by decide +kernel
theorem d_Ft_tabulate_156 : decode (am_c m_Ft_tabulate) 156 = .ok (.aload_n 0, 1) := by decide +kernel
theorem d_Ft_tabulate_157 : decode (am_c m_Ft_tabulate) 157 = .ok (.getfield 29, 3) := by decide +kernel
theorem d_Ft_tabulate_160 : decode (am_c m_Ft_tabulate) 160 = .ok (.iload 7, 2) := by decide +kernel
theorem d_Ft_tabulate_162 : decode (am_c m_Ft_tabulate) 162 = .ok (.iload 10, 2) := by decide +kernel
theorem d_Ft_tabulate_164 : decode (am_c m_Ft_tabulate) 164 = .ok (.iastore, 1) := by decide +kernel
theorem d_Ft_tabulate_165 : decode (am_c m_Ft_tabulate) 165 = .ok (.iinc 8 1, 3) := by decide +kernel
theorem d_Ft_tabulate_168 : decode (am_c m_Ft_tabulate) 168 = .ok (.goto (-109), 3) := by decide +kernel
theorem d_Ft_tabulate_171 : decode (am_c m_Ft_tabulate) 171 = .ok (.aload_n 0, 1) := by decide +kernel
theorem d_Ft_tabulate_172 : decode (am_c m_Ft_tabulate) 172 = .ok (.getfield 32, 3) := by decide +kernel
theorem d_Ft_tabulate_175 : decode (am_c m_Ft_tabulate) 175 = .ok (.getfield 87, 3) := by decide +kernel
theorem d_Ft_tabulate_178 : decode (am_c m_Ft_tabulate) 178 = .ok (.iload_n 1, 1) := by decide +kernel
theorem d_Ft_tabulate_179 : decode (am_c m_Ft_tabulate) 179 = .ok (.iload 4, 2) := by decide +kernel
theorem d_Ft_tabulate_181 : decode (am_c m_Ft_tabulate) 181 = .ok (.iastore, 1) := by decide +kernel
theorem d_Ft_tabulate_182 : decode (am_c m_Ft_tabulate) 182 = .ok (.return_, 1) := by decide +kernel
theorem d_Ft_measure_0 : decode (am_c m_Ft_measure) 0 = .ok (.aload_n 0, 1) := by decide +kernel
theorem d_Ft_measure_1 : decode (am_c m_Ft_measure) 1 = .ok (.getfield 32, 3) := by decide +kernel
theorem d_Ft_measure_4 : decode (am_c m_Ft_measure) 4 = .ok (.getfield 87, 3) := by decide +kernel
theorem d_Ft_measure_7 : decode (am_c m_Ft_measure) 7 = .ok (.iload_n 1, 1) := by decide +kernel
theorem d_Ft_measure_8 : decode (am_c m_Ft_measure) 8 = .ok (.iload_n 2, 1) := by decide +kernel
theorem d_Ft_measure_9 : decode (am_c m_Ft_measure) 9 = .ok (.iastore, 1) := by decide +kernel
theorem d_Ft_measure_10 : decode (am_c m_Ft_measure) 10 = .ok (.aload_n 0, 1) := by decide +kernel
theorem d_Ft_measure_11 : decode (am_c m_Ft_measure) 11 = .ok (.getfield 32, 3) := by decide +kernel
theorem d_Ft_measure_14 : decode (am_c m_Ft_measure) 14 = .ok (.iload_n 3, 1) := by decide +kernel
theorem d_Ft_measure_15 : decode (am_c m_Ft_measure) 15 = .ok (.iload 4, 2) := by decide +kernel
theorem d_Ft_measure_17 : decode (am_c m_Ft_measure) 17 = .ok (.invokevirtual 49, 3) := by decide +kernel
theorem d_Ft_measure_20 : decode (am_c m_Ft_measure) 20 = .ok (.iconst 0, 1) := by decide +kernel
theorem d_Ft_measure_21 : decode (am_c m_Ft_measure) 21 = .ok (.istore 5, 2) := by decide +kernel
theorem d_Ft_measure_23 : decode (am_c m_Ft_measure) 23 = .ok (.iload 5, 2) := by decide +kernel
theorem d_Ft_measure_25 : decode (am_c m_Ft_measure) 25 = .ok (.aload_n 0, 1) := by decide +kernel
theorem d_Ft_measure_26 : decode (am_c m_Ft_measure) 26 = .ok (.getfield 105, 3) := by decide +kernel
theorem d_Ft_measure_29 : decode (am_c m_Ft_measure) 29 = .ok (.if_icmp .ge 40, 3) := by decide +kernel
theorem d_Ft_measure_32 : decode (am_c m_Ft_measure) 32 = .ok (.aload_n 0, 1) := by decide +kernel
theorem d_Ft_measure_33 : decode (am_c m_Ft_measure) 33 = .ok (.getfield 26, 3) := by decide +kernel
theorem d_Ft_measure_36 : decode (am_c m_Ft_measure) 36 = .ok (.iload_n 2, 1) := by decide +kernel
theorem d_Ft_measure_37 : decode (am_c m_Ft_measure) 37 = .ok (.aaload, 1) := by decide +kernel
theorem d_Ft_measure_38 : decode (am_c m_Ft_measure) 38 = .ok (.iload 5, 2) := by decide +kernel
theorem d_Ft_measure_40 : decode (am_c m_Ft_measure) 40 = .ok (.aload_n 0, 1) := by decide +kernel
theorem d_Ft_measure_41 : decode (am_c m_Ft_measure) 41 = .ok (.getfield 32, 3) := by decide +kernel
theorem d_Ft_measure_44 : decode (am_c m_Ft_measure) 44 = .ok (.getfield 58, 3) := by decide +kernel
theorem d_Ft_measure_47 : decode (am_c m_Ft_measure) 47 = .ok (.aload_n 0, 1) := by decide +kernel
theorem d_Ft_measure_48 : decode (am_c m_Ft_measure) 48 = .ok (.getfield 36, 3) := by decide +kernel
theorem d_Ft_measure_51 : decode (am_c m_Ft_measure) 51 = .ok (.aload_n 0, 1) := by decide +kernel
theorem d_Ft_measure_52 : decode (am_c m_Ft_measure) 52 = .ok (.getfield 21, 3) := by decide +kernel
theorem d_Ft_measure_55 : decode (am_c m_Ft_measure) 55 = .ok (.iload 5, 2) := by decide +kernel
theorem d_Ft_measure_57 : decode (am_c m_Ft_measure) 57 = .ok (.iaload, 1) := by decide +kernel
theorem d_Ft_measure_58 : decode (am_c m_Ft_measure) 58 = .ok (.invokevirtual 61, 3) := by decide +kernel
theorem d_Ft_measure_61 : decode (am_c m_Ft_measure) 61 = .ok (.iaload, 1) := by decide +kernel
theorem d_Ft_measure_62 : decode (am_c m_Ft_measure) 62 = .ok (.iastore, 1) := by decide +kernel
theorem d_Ft_measure_63 : decode (am_c m_Ft_measure) 63 = .ok (.iinc 5 1, 3) := by decide +kernel
theorem d_Ft_measure_66 : decode (am_c m_Ft_measure) 66 = .ok (.goto (-43), 3) := by decide +kernel
theorem d_Ft_measure_69 : decode (am_c m_Ft_measure) 69 = .ok (.return_, 1) := by decide +kernel
theorem d_Ft_isStraight_0 : decode (am_c m_Ft_isStraight) 0 = .ok (.aload_n 0, 1) := by decide +kernel
theorem d_Ft_isStraight_1 : decode (am_c m_Ft_isStraight) 1 = .ok (.getfield 32, 3) := by decide +kernel
theorem d_Ft_isStraight_4 : decode (am_c m_Ft_isStraight) 4 = .ok (.iload_n 2, 1) := by decide +kernel
theorem d_Ft_isStraight_5 : decode (am_c m_Ft_isStraight) 5 = .ok (.iload 4, 2) := by decide +kernel
theorem d_Ft_isStraight_7 : decode (am_c m_Ft_isStraight) 7 = .ok (.invokevirtual 140, 3) := by decide +kernel
theorem d_Ft_isStraight_10 : decode (am_c m_Ft_isStraight) 10 = .ok (.aload_n 0, 1) := by decide +kernel
theorem d_Ft_isStraight_11 : decode (am_c m_Ft_isStraight) 11 = .ok (.getfield 32, 3) := by decide +kernel
theorem d_Ft_isStraight_14 : decode (am_c m_Ft_isStraight) 14 = .ok (.iload_n 1, 1) := by decide +kernel
theorem d_Ft_isStraight_15 : decode (am_c m_Ft_isStraight) 15 = .ok (.iload 4, 2) := by decide +kernel
theorem d_Ft_isStraight_17 : decode (am_c m_Ft_isStraight) 17 = .ok (.invokevirtual 140, 3) := by decide +kernel
theorem d_Ft_isStraight_20 : decode (am_c m_Ft_isStraight) 20 = .ok (.isub, 1) := by decide +kernel
theorem d_Ft_isStraight_21 : decode (am_c m_Ft_isStraight) 21 = .ok (.istore 5, 2) := by decide +kernel
theorem d_Ft_isStraight_23 : decode (am_c m_Ft_isStraight) 23 = .ok (.aload_n 0, 1) := by decide +kernel
theorem d_Ft_isStraight_24 : decode (am_c m_Ft_isStraight) 24 = .ok (.getfield 32, 3) := by decide +kernel
theorem d_Ft_isStraight_27 : decode (am_c m_Ft_isStraight) 27 = .ok (.iload_n 3, 1) := by decide +kernel
theorem d_Ft_isStraight_28 : decode (am_c m_Ft_isStraight) 28 = .ok (.iload 4, 2) := by decide +kernel
theorem d_Ft_isStraight_30 : decode (am_c m_Ft_isStraight) 30 = .ok (.invokevirtual 140, 3) := by decide +kernel
theorem d_Ft_isStraight_33 : decode (am_c m_Ft_isStraight) 33 = .ok (.aload_n 0, 1) := by decide +kernel
theorem d_Ft_isStraight_34 : decode (am_c m_Ft_isStraight) 34 = .ok (.getfield 32, 3) := by decide +kernel
theorem d_Ft_isStraight_37 : decode (am_c m_Ft_isStraight) 37 = .ok (.iload_n 1, 1) := by decide +kernel
theorem d_Ft_isStraight_38 : decode (am_c m_Ft_isStraight) 38 = .ok (.iload 4, 2) := by decide +kernel
theorem d_Ft_isStraight_40 : decode (am_c m_Ft_isStraight) 40 = .ok (.invokevirtual 140, 3) := by decide +kernel
theorem d_Ft_isStraight_43 : decode (am_c m_Ft_isStraight) 43 = .ok (.isub, 1) := by decide +kernel
theorem d_Ft_isStraight_44 : decode (am_c m_Ft_isStraight) 44 = .ok (.istore 6, 2) := by decide +kernel
theorem d_Ft_isStraight_46 : decode (am_c m_Ft_isStraight) 46 = .ok (.iconst 0, 1) := by decide +kernel
theorem d_Ft_isStraight_47 : decode (am_c m_Ft_isStraight) 47 = .ok (.istore 7, 2) := by decide +kernel
theorem d_Ft_isStraight_49 : decode (am_c m_Ft_isStraight) 49 = .ok (.iload 7, 2) := by decide +kernel
theorem d_Ft_isStraight_51 : decode (am_c m_Ft_isStraight) 51 = .ok (.aload_n 0, 1) := by decide +kernel
theorem d_Ft_isStraight_52 : decode (am_c m_Ft_isStraight) 52 = .ok (.getfield 105, 3) := by decide +kernel
theorem d_Ft_isStraight_55 : decode (am_c m_Ft_isStraight) 55 = .ok (.if_icmp .ge 66, 3) := by decide +kernel
theorem d_Ft_isStraight_58 : decode (am_c m_Ft_isStraight) 58 = .ok (.aload_n 0, 1) := by decide +kernel
theorem d_Ft_isStraight_59 : decode (am_c m_Ft_isStraight) 59 = .ok (.getfield 26, 3) := by decide +kernel
theorem d_Ft_isStraight_62 : decode (am_c m_Ft_isStraight) 62 = .ok (.iload_n 2, 1) := by decide +kernel
theorem d_Ft_isStraight_63 : decode (am_c m_Ft_isStraight) 63 = .ok (.aaload, 1) := by decide +kernel
theorem d_Ft_isStraight_64 : decode (am_c m_Ft_isStraight) 64 = .ok (.iload 7, 2) := by decide +kernel
theorem d_Ft_isStraight_66 : decode (am_c m_Ft_isStraight) 66 = .ok (.iaload, 1) := by decide +kernel
theorem d_Ft_isStraight_67 : decode (am_c m_Ft_isStraight) 67 = .ok (.aload_n 0, 1) := by decide +kernel
theorem d_Ft_isStraight_68 : decode (am_c m_Ft_isStraight) 68 = .ok (.getfield 26, 3) := by decide +kernel
theorem d_Ft_isStraight_71 : decode (am_c m_Ft_isStraight) 71 = .ok (.iload_n 1, 1) := by decide +kernel
theorem d_Ft_isStraight_72 : decode (am_c m_Ft_isStraight) 72 = .ok (.aaload, 1) := by decide +kernel
theorem d_Ft_isStraight_73 : decode (am_c m_Ft_isStraight) 73 = .ok (.iload 7, 2) := by decide +kernel
theorem d_Ft_isStraight_75 : decode (am_c m_Ft_isStraight) 75 = .ok (.iaload, 1) := by decide +kernel
theorem d_Ft_isStraight_76 : decode (am_c m_Ft_isStraight) 76 = .ok (.isub, 1) := by decide +kernel
theorem d_Ft_isStraight_77 : decode (am_c m_Ft_isStraight) 77 = .ok (.istore 8, 2) := by decide +kernel
theorem d_Ft_isStraight_79 : decode (am_c m_Ft_isStraight) 79 = .ok (.aload_n 0, 1) := by decide +kernel
theorem d_Ft_isStraight_80 : decode (am_c m_Ft_isStraight) 80 = .ok (.getfield 26, 3) := by decide +kernel
theorem d_Ft_isStraight_83 : decode (am_c m_Ft_isStraight) 83 = .ok (.iload_n 3, 1) := by decide +kernel
theorem d_Ft_isStraight_84 : decode (am_c m_Ft_isStraight) 84 = .ok (.aaload, 1) := by decide +kernel
theorem d_Ft_isStraight_85 : decode (am_c m_Ft_isStraight) 85 = .ok (.iload 7, 2) := by decide +kernel
theorem d_Ft_isStraight_87 : decode (am_c m_Ft_isStraight) 87 = .ok (.iaload, 1) := by decide +kernel
theorem d_Ft_isStraight_88 : decode (am_c m_Ft_isStraight) 88 = .ok (.aload_n 0, 1) := by decide +kernel
theorem d_Ft_isStraight_89 : decode (am_c m_Ft_isStraight) 89 = .ok (.getfield 26, 3) := by decide +kernel
theorem d_Ft_isStraight_92 : decode (am_c m_Ft_isStraight) 92 = .ok (.iload_n 1, 1) := by decide +kernel
theorem d_Ft_isStraight_93 : decode (am_c m_Ft_isStraight) 93 = .ok (.aaload, 1) := by decide +kernel
theorem d_Ft_isStraight_94 : decode (am_c m_Ft_isStraight) 94 = .ok (.iload 7, 2) := by decide +kernel
theorem d_Ft_isStraight_96 : decode (am_c m_Ft_isStraight) 96 = .ok (.iaload, 1) := by decide +kernel
theorem d_Ft_isStraight_97 : decode (am_c m_Ft_isStraight) 97 = .ok (.isub, 1) := by decide +kernel
theorem d_Ft_isStraight_98 : decode (am_c m_Ft_isStraight) 98 = .ok (.istore 9, 2) := by decide +kernel
theorem d_Ft_isStraight_100 : decode (am_c m_Ft_isStraight) 100 = .ok (.iload 8, 2) := by decide +kernel
theorem d_Ft_isStraight_102 : decode (am_c m_Ft_isStraight) 102 = .ok (.iload 6, 2) := by decide +kernel
theorem d_Ft_isStraight_104 : decode (am_c m_Ft_isStraight) 104 = .ok (.imul, 1) := by decide +kernel
theorem d_Ft_isStraight_105 : decode (am_c m_Ft_isStraight) 105 = .ok (.iload 9, 2) := by decide +kernel
theorem d_Ft_isStraight_107 : decode (am_c m_Ft_isStraight) 107 = .ok (.iload 5, 2) := by decide +kernel
theorem d_Ft_isStraight_109 : decode (am_c m_Ft_isStraight) 109 = .ok (.imul, 1) := by decide +kernel
theorem d_Ft_isStraight_110 : decode (am_c m_Ft_isStraight) 110 = .ok (.if_icmp .eq 5, 3) := by decide +kernel
theorem d_Ft_isStraight_113 : decode (am_c m_Ft_isStraight) 113 = .ok (.iconst 0, 1) := by decide +kernel
theorem d_Ft_isStraight_114 : decode (am_c m_Ft_isStraight) 114 = .ok (.ireturn, 1) := by decide +kernel
theorem d_Ft_isStraight_115 : decode (am_c m_Ft_isStraight) 115 = .ok (.iinc 7 1, 3) := by decide +kernel
theorem d_Ft_isStraight_118 : decode (am_c m_Ft_isStraight) 118 = .ok (.goto (-69), 3) := by decide +kernel
theorem d_Ft_isStraight_121 : decode (am_c m_Ft_isStraight) 121 = .ok (.iconst 1, 1) := by decide +kernel
theorem d_Ft_isStraight_122 : decode (am_c m_Ft_isStraight) 122 = .ok (.ireturn, 1) := by decide +kernel
theorem d_Ft_fillLine_0 : decode (am_c m_Ft_fillLine) 0 = .ok (.aload_n 0, 1) := by decide +kernel
theorem d_Ft_fillLine_1 : decode (am_c m_Ft_fillLine) 1 = .ok (.getfield 32, 3) := by decide +kernel
theorem d_Ft_fillLine_4 : decode (am_c m_Ft_fillLine) 4 = .ok (.iload_n 1, 1) := by decide +kernel
theorem d_Ft_fillLine_5 : decode (am_c m_Ft_fillLine) 5 = .ok (.iload_n 3, 1) := by decide +kernel
theorem d_Ft_fillLine_6 : decode (am_c m_Ft_fillLine) 6 = .ok (.invokevirtual 140, 3) := by decide +kernel
theorem d_Ft_fillLine_9 : decode (am_c m_Ft_fillLine) 9 = .ok (.istore 4, 2) := by decide +kernel
theorem d_Ft_fillLine_11 : decode (am_c m_Ft_fillLine) 11 = .ok (.aload_n 0, 1) := by decide +kernel
theorem d_Ft_fillLine_12 : decode (am_c m_Ft_fillLine) 12 = .ok (.getfield 32, 3) := by decide +kernel
theorem d_Ft_fillLine_15 : decode (am_c m_Ft_fillLine) 15 = .ok (.iload_n 2, 1) := by decide +kernel
theorem d_Ft_fillLine_16 : decode (am_c m_Ft_fillLine) 16 = .ok (.iload_n 3, 1) := by decide +kernel
theorem d_Ft_fillLine_17 : decode (am_c m_Ft_fillLine) 17 = .ok (.invokevirtual 140, 3) := by decide +kernel
theorem d_Ft_fillLine_20 : decode (am_c m_Ft_fillLine) 20 = .ok (.iload 4, 2) := by decide +kernel
theorem d_Ft_fillLine_22 : decode (am_c m_Ft_fillLine) 22 = .ok (.isub, 1) := by decide +kernel
theorem d_Ft_fillLine_23 : decode (am_c m_Ft_fillLine) 23 = .ok (.istore 5, 2) := by decide +kernel
theorem d_Ft_fillLine_25 : decode (am_c m_Ft_fillLine) 25 = .ok (.iload 5, 2) := by decide +kernel
theorem d_Ft_fillLine_27 : decode (am_c m_Ft_fillLine) 27 = .ok (.ifCond .gt 4, 3) := by decide +kernel
theorem d_Ft_fillLine_30 : decode (am_c m_Ft_fillLine) 30 = .ok (.return_, 1) := by decide +kernel
theorem d_Ft_fillLine_31 : decode (am_c m_Ft_fillLine) 31 = .ok (.iload_n 1, 1) := by decide +kernel
theorem d_Ft_fillLine_32 : decode (am_c m_Ft_fillLine) 32 = .ok (.iconst 1, 1) := by decide +kernel
theorem d_Ft_fillLine_33 : decode (am_c m_Ft_fillLine) 33 = .ok (.iadd, 1) := by decide +kernel
theorem d_Ft_fillLine_34 : decode (am_c m_Ft_fillLine) 34 = .ok (.istore 6, 2) := by decide +kernel
theorem d_Ft_fillLine_36 : decode (am_c m_Ft_fillLine) 36 = .ok (.iload 6, 2) := by decide +kernel
theorem d_Ft_fillLine_38 : decode (am_c m_Ft_fillLine) 38 = .ok (.iload_n 2, 1) := by decide +kernel
theorem d_Ft_fillLine_39 : decode (am_c m_Ft_fillLine) 39 = .ok (.if_icmp .ge 91, 3) := by decide +kernel
theorem d_Ft_fillLine_42 : decode (am_c m_Ft_fillLine) 42 = .ok (.aload_n 0, 1) := by decide +kernel
theorem d_Ft_fillLine_43 : decode (am_c m_Ft_fillLine) 43 = .ok (.getfield 32, 3) := by decide +kernel
theorem d_Ft_fillLine_46 : decode (am_c m_Ft_fillLine) 46 = .ok (.iload 6, 2) := by decide +kernel
theorem d_Ft_fillLine_48 : decode (am_c m_Ft_fillLine) 48 = .ok (.iload_n 3, 1) := by decide +kernel
theorem d_Ft_fillLine_49 : decode (am_c m_Ft_fillLine) 49 = .ok (.invokevirtual 140, 3) := by decide +kernel
theorem d_Ft_fillLine_52 : decode (am_c m_Ft_fillLine) 52 = .ok (.iload 4, 2) := by decide +kernel
theorem d_Ft_fillLine_54 : decode (am_c m_Ft_fillLine) 54 = .ok (.isub, 1) := by decide +kernel
theorem d_Ft_fillLine_55 : decode (am_c m_Ft_fillLine) 55 = .ok (.istore 7, 2) := by decide +kernel
theorem d_Ft_fillLine_57 : decode (am_c m_Ft_fillLine) 57 = .ok (.iconst 0, 1) := by decide +kernel
theorem d_Ft_fillLine_58 : decode (am_c m_Ft_fillLine) 58 = .ok (.istore 8, 2) := by decide +kernel
theorem d_Ft_fillLine_60 : decode (am_c m_Ft_fillLine) 60 = .ok (.iload 8, 2) := by decide +kernel
theorem d_Ft_fillLine_62 : decode (am_c m_Ft_fillLine) 62 = .ok (.aload_n 0, 1) := by decide +kernel
theorem d_Ft_fillLine_63 : decode (am_c m_Ft_fillLine) 63 = .ok (.getfield 105, 3) := by decide +kernel
theorem d_Ft_fillLine_66 : decode (am_c m_Ft_fillLine) 66 = .ok (.if_icmp .ge 58, 3) := by decide +kernel
theorem d_Ft_fillLine_69 : decode (am_c m_Ft_fillLine) 69 = .ok (.aload_n 0, 1) := by decide +kernel
theorem d_Ft_fillLine_70 : decode (am_c m_Ft_fillLine) 70 = .ok (.getfield 26, 3) := by decide +kernel
theorem d_Ft_fillLine_73 : decode (am_c m_Ft_fillLine) 73 = .ok (.iload_n 2, 1) := by decide +kernel
theorem d_Ft_fillLine_74 : decode (am_c m_Ft_fillLine) 74 = .ok (.aaload, 1) := by decide +kernel
theorem d_Ft_fillLine_75 : decode (am_c m_Ft_fillLine) 75 = .ok (.iload 8, 2) := by decide +kernel
theorem d_Ft_fillLine_77 : decode (am_c m_Ft_fillLine) 77 = .ok (.iaload, 1) := by decide +kernel
theorem d_Ft_fillLine_78 : decode (am_c m_Ft_fillLine) 78 = .ok (.aload_n 0, 1) := by decide +kernel
theorem d_Ft_fillLine_79 : decode (am_c m_Ft_fillLine) 79 = .ok (.getfield 26, 3) := by decide +kernel
theorem d_Ft_fillLine_82 : decode (am_c m_Ft_fillLine) 82 = .ok (.iload_n 1, 1) := by decide +kernel
theorem d_Ft_fillLine_83 : decode (am_c m_Ft_fillLine) 83 = .ok (.aaload, 1) := by decide +kernel
theorem d_Ft_fillLine_84 : decode (am_c m_Ft_fillLine) 84 = .ok (.iload 8, 2) := by decide +kernel
theorem d_Ft_fillLine_86 : decode (am_c m_Ft_fillLine) 86 = .ok (.iaload, 1) := by decide +kernel
theorem d_Ft_fillLine_87 : decode (am_c m_Ft_fillLine) 87 = .ok (.isub, 1) := by decide +kernel
theorem d_Ft_fillLine_88 : decode (am_c m_Ft_fillLine) 88 = .ok (.iload 5, 2) := by decide +kernel
theorem d_Ft_fillLine_90 : decode (am_c m_Ft_fillLine) 90 = .ok (.idiv, 1) := by decide +kernel
theorem d_Ft_fillLine_91 : decode (am_c m_Ft_fillLine) 91 = .ok (.istore 9, 2) := by decide +kernel
theorem d_Ft_fillLine_93 : decode (am_c m_Ft_fillLine) 93 = .ok (.aload_n 0, 1) := by decide +kernel
theorem d_Ft_fillLine_94 : decode (am_c m_Ft_fillLine) 94 = .ok (.getfield 26, 3) := by decide +kernel
theorem d_Ft_fillLine_97 : decode (am_c m_Ft_fillLine) 97 = .ok (.iload 6, 2) := by decide +kernel
theorem d_Ft_fillLine_99 : decode (am_c m_Ft_fillLine) 99 = .ok (.aaload, 1) := by decide +kernel
theorem d_Ft_fillLine_100 : decode (am_c m_Ft_fillLine) 100 = .ok (.iload 8, 2) := by decide +kernel
theorem d_Ft_fillLine_102 : decode (am_c m_Ft_fillLine) 102 = .ok (.aload_n 0, 1) := by decide +kernel
theorem d_Ft_fillLine_103 : decode (am_c m_Ft_fillLine) 103 = .ok (.getfield 26, 3) := by decide +kernel
theorem d_Ft_fillLine_106 : decode (am_c m_Ft_fillLine) 106 = .ok (.iload_n 1, 1) := by decide +kernel
theorem d_Ft_fillLine_107 : decode (am_c m_Ft_fillLine) 107 = .ok (.aaload, 1) := by decide +kernel
theorem d_Ft_fillLine_108 : decode (am_c m_Ft_fillLine) 108 = .ok (.iload 8, 2) := by decide +kernel
theorem d_Ft_fillLine_110 : decode (am_c m_Ft_fillLine) 110 = .ok (.iaload, 1) := by decide +kernel
theorem d_Ft_fillLine_111 : decode (am_c m_Ft_fillLine) 111 = .ok (.iload 9, 2) := by decide +kernel
theorem d_Ft_fillLine_113 : decode (am_c m_Ft_fillLine) 113 = .ok (.iload 7, 2) := by decide +kernel
theorem d_Ft_fillLine_115 : decode (am_c m_Ft_fillLine) 115 = .ok (.imul, 1) := by decide +kernel
theorem d_Ft_fillLine_116 : decode (am_c m_Ft_fillLine) 116 = .ok (.iadd, 1) := by decide +kernel
theorem d_Ft_fillLine_117 : decode (am_c m_Ft_fillLine) 117 = .ok (.iastore, 1) := by decide +kernel
theorem d_Ft_fillLine_118 : decode (am_c m_Ft_fillLine) 118 = .ok (.iinc 8 1, 3) := by decide +kernel
theorem d_Ft_fillLine_121 : decode (am_c m_Ft_fillLine) 121 = .ok (.goto (-61), 3) := by decide +kernel
theorem d_Ft_fillLine_124 : decode (am_c m_Ft_fillLine) 124 = .ok (.iinc 6 1, 3) := by decide +kernel
theorem d_Ft_fillLine_127 : decode (am_c m_Ft_fillLine) 127 = .ok (.goto (-91), 3) := by decide +kernel
theorem d_Ft_fillLine_130 : decode (am_c m_Ft_fillLine) 130 = .ok (.return_, 1) := by decide +kernel
theorem d_Ft_addMisfits_0 : decode (am_c m_Ft_addMisfits) 0 = .ok (.aload_n 0, 1) := by decide +kernel
theorem d_Ft_addMisfits_1 : decode (am_c m_Ft_addMisfits) 1 = .ok (.getfield 36, 3) := by decide +kernel
theorem d_Ft_addMisfits_4 : decode (am_c m_Ft_addMisfits) 4 = .ok (.getfield 119, 3) := by decide +kernel
theorem d_Ft_addMisfits_7 : decode (am_c m_Ft_addMisfits) 7 = .ok (.iload_n 1, 1) := by decide +kernel
theorem d_Ft_addMisfits_8 : decode (am_c m_Ft_addMisfits) 8 = .ok (.iaload, 1) := by decide +kernel
theorem d_Ft_addMisfits_9 : decode (am_c m_Ft_addMisfits) 9 = .ok (.istore_n 2, 1) := by decide +kernel
theorem d_Ft_addMisfits_10 : decode (am_c m_Ft_addMisfits) 10 = .ok (.iconst 0, 1) := by decide +kernel
theorem d_Ft_addMisfits_11 : decode (am_c m_Ft_addMisfits) 11 = .ok (.istore_n 3, 1) := by decide +kernel
theorem d_Ft_addMisfits_12 : decode (am_c m_Ft_addMisfits) 12 = .ok (.iload_n 3, 1) := by decide +kernel
theorem d_Ft_addMisfits_13 : decode (am_c m_Ft_addMisfits) 13 = .ok (.aload_n 0, 1) := by decide +kernel
theorem d_Ft_addMisfits_14 : decode (am_c m_Ft_addMisfits) 14 = .ok (.getfield 105, 3) := by decide +kernel
theorem d_Ft_addMisfits_17 : decode (am_c m_Ft_addMisfits) 17 = .ok (.if_icmp .ge 85, 3) := by decide +kernel
theorem d_Ft_addMisfits_20 : decode (am_c m_Ft_addMisfits) 20 = .ok (.aload_n 0, 1) := by decide +kernel
theorem d_Ft_addMisfits_21 : decode (am_c m_Ft_addMisfits) 21 = .ok (.getfield 21, 3) := by decide +kernel
theorem d_Ft_addMisfits_24 : decode (am_c m_Ft_addMisfits) 24 = .ok (.iload_n 3, 1) := by decide +kernel
theorem d_Ft_addMisfits_25 : decode (am_c m_Ft_addMisfits) 25 = .ok (.iaload, 1) := by decide +kernel
theorem d_Ft_addMisfits_26 : decode (am_c m_Ft_addMisfits) 26 = .ok (.istore 4, 2) := by decide +kernel
theorem d_Ft_addMisfits_28 : decode (am_c m_Ft_addMisfits) 28 = .ok (.iload_n 2, 1) := by decide +kernel
theorem d_Ft_addMisfits_29 : decode (am_c m_Ft_addMisfits) 29 = .ok (.aload_n 0, 1) := by decide +kernel
theorem d_Ft_addMisfits_30 : decode (am_c m_Ft_addMisfits) 30 = .ok (.getfield 36, 3) := by decide +kernel
theorem d_Ft_addMisfits_33 : decode (am_c m_Ft_addMisfits) 33 = .ok (.iload 4, 2) := by decide +kernel
theorem d_Ft_addMisfits_35 : decode (am_c m_Ft_addMisfits) 35 = .ok (.invokevirtual 64, 3) := by decide +kernel
theorem d_Ft_addMisfits_38 : decode (am_c m_Ft_addMisfits) 38 = .ok (.iadd, 1) := by decide +kernel
theorem d_Ft_addMisfits_39 : decode (am_c m_Ft_addMisfits) 39 = .ok (.istore 5, 2) := by decide +kernel
theorem d_Ft_addMisfits_41 : decode (am_c m_Ft_addMisfits) 41 = .ok (.iconst 1, 1) := by decide +kernel
theorem d_Ft_addMisfits_42 : decode (am_c m_Ft_addMisfits) 42 = .ok (.istore 6, 2) := by decide +kernel
theorem d_Ft_addMisfits_44 : decode (am_c m_Ft_addMisfits) 44 = .ok (.iload 6, 2) := by decide +kernel
theorem d_Ft_addMisfits_46 : decode (am_c m_Ft_addMisfits) 46 = .ok (.bipush 60, 2) := by decide +kernel
theorem d_Ft_addMisfits_48 : decode (am_c m_Ft_addMisfits) 48 = .ok (.if_icmp .gt 48, 3) := by decide +kernel
theorem d_Ft_addMisfits_51 : decode (am_c m_Ft_addMisfits) 51 = .ok (.aload_n 0, 1) := by decide +kernel
theorem d_Ft_addMisfits_52 : decode (am_c m_Ft_addMisfits) 52 = .ok (.getfield 18, 3) := by decide +kernel
theorem d_Ft_addMisfits_55 : decode (am_c m_Ft_addMisfits) 55 = .ok (.iload 6, 2) := by decide +kernel
theorem d_Ft_addMisfits_57 : decode (am_c m_Ft_addMisfits) 57 = .ok (.dup2, 1) := by decide +kernel
theorem d_Ft_addMisfits_58 : decode (am_c m_Ft_addMisfits) 58 = .ok (.iaload, 1) := by decide +kernel
theorem d_Ft_addMisfits_59 : decode (am_c m_Ft_addMisfits) 59 = .ok (.iload 5, 2) := by decide +kernel
theorem d_Ft_addMisfits_61 : decode (am_c m_Ft_addMisfits) 61 = .ok (.aload_n 0, 1) := by decide +kernel
theorem d_Ft_addMisfits_62 : decode (am_c m_Ft_addMisfits) 62 = .ok (.getfield 26, 3) := by decide +kernel
theorem d_Ft_addMisfits_65 : decode (am_c m_Ft_addMisfits) 65 = .ok (.iload 6, 2) := by decide +kernel
theorem d_Ft_addMisfits_67 : decode (am_c m_Ft_addMisfits) 67 = .ok (.aaload, 1) := by decide +kernel
theorem d_Ft_addMisfits_68 : decode (am_c m_Ft_addMisfits) 68 = .ok (.iload_n 3, 1) := by decide +kernel
theorem d_Ft_addMisfits_69 : decode (am_c m_Ft_addMisfits) 69 = .ok (.iaload, 1) := by decide +kernel
theorem d_Ft_addMisfits_70 : decode (am_c m_Ft_addMisfits) 70 = .ok (.iadd, 1) := by decide +kernel
theorem d_Ft_addMisfits_71 : decode (am_c m_Ft_addMisfits) 71 = .ok (.aload_n 0, 1) := by decide +kernel
theorem d_Ft_addMisfits_72 : decode (am_c m_Ft_addMisfits) 72 = .ok (.getfield 9, 3) := by decide +kernel
theorem d_Ft_addMisfits_75 : decode (am_c m_Ft_addMisfits) 75 = .ok (.iload 4, 2) := by decide +kernel
theorem d_Ft_addMisfits_77 : decode (am_c m_Ft_addMisfits) 77 = .ok (.iaload, 1) := by decide +kernel
theorem d_Ft_addMisfits_78 : decode (am_c m_Ft_addMisfits) 78 = .ok (.aload_n 0, 1) := by decide +kernel
theorem d_Ft_addMisfits_79 : decode (am_c m_Ft_addMisfits) 79 = .ok (.getfield 15, 3) := by decide +kernel
theorem d_Ft_addMisfits_82 : decode (am_c m_Ft_addMisfits) 82 = .ok (.iload 4, 2) := by decide +kernel
theorem d_Ft_addMisfits_84 : decode (am_c m_Ft_addMisfits) 84 = .ok (.iaload, 1) := by decide +kernel
theorem d_Ft_addMisfits_85 : decode (am_c m_Ft_addMisfits) 85 = .ok (.invokestatic 122, 3) := by decide +kernel
theorem d_Ft_addMisfits_88 : decode (am_c m_Ft_addMisfits) 88 = .ok (.iadd, 1) := by decide +kernel
theorem d_Ft_addMisfits_89 : decode (am_c m_Ft_addMisfits) 89 = .ok (.iastore, 1) := by decide +kernel
theorem d_Ft_addMisfits_90 : decode (am_c m_Ft_addMisfits) 90 = .ok (.iinc 6 1, 3) := by decide +kernel
theorem d_Ft_addMisfits_93 : decode (am_c m_Ft_addMisfits) 93 = .ok (.goto (-49), 3) := by decide +kernel
theorem d_Ft_addMisfits_96 : decode (am_c m_Ft_addMisfits) 96 = .ok (.iinc 3 1, 3) := by decide +kernel
theorem d_Ft_addMisfits_99 : decode (am_c m_Ft_addMisfits) 99 = .ok (.goto (-87), 3) := by decide +kernel
theorem d_Ft_addMisfits_102 : decode (am_c m_Ft_addMisfits) 102 = .ok (.return_, 1) := by decide +kernel
theorem d_Ra_gather_0 : decode (am_c m_Ra_gather) 0 = .ok (.aload_n 0, 1) := by decide +kernel
theorem d_Ra_gather_1 : decode (am_c m_Ra_gather) 1 = .ok (.iconst 0, 1) := by decide +kernel
theorem d_Ra_gather_2 : decode (am_c m_Ra_gather) 2 = .ok (.putfield 28, 3) := by decide +kernel
theorem d_Ra_gather_5 : decode (am_c m_Ra_gather) 5 = .ok (.iconst 0, 1) := by decide +kernel
theorem d_Ra_gather_6 : decode (am_c m_Ra_gather) 6 = .ok (.istore_n 1, 1) := by decide +kernel
theorem d_Ra_gather_7 : decode (am_c m_Ra_gather) 7 = .ok (.iload_n 1, 1) := by decide +kernel
theorem d_Ra_gather_8 : decode (am_c m_Ra_gather) 8 = .ok (.aload_n 0, 1) := by decide +kernel
theorem d_Ra_gather_9 : decode (am_c m_Ra_gather) 9 = .ok (.getfield 24, 3) := by decide +kernel
theorem d_Ra_gather_12 : decode (am_c m_Ra_gather) 12 = .ok (.getfield 32, 3) := by decide +kernel
theorem d_Ra_gather_15 : decode (am_c m_Ra_gather) 15 = .ok (.if_icmp .ge 88, 3) := by decide +kernel
theorem d_Ra_gather_18 : decode (am_c m_Ra_gather) 18 = .ok (.aload_n 0, 1) := by decide +kernel
theorem d_Ra_gather_19 : decode (am_c m_Ra_gather) 19 = .ok (.getfield 24, 3) := by decide +kernel
theorem d_Ra_gather_22 : decode (am_c m_Ra_gather) 22 = .ok (.getfield 37, 3) := by decide +kernel
theorem d_Ra_gather_25 : decode (am_c m_Ra_gather) 25 = .ok (.iload_n 1, 1) := by decide +kernel
theorem d_Ra_gather_26 : decode (am_c m_Ra_gather) 26 = .ok (.iaload, 1) := by decide +kernel
theorem d_Ra_gather_27 : decode (am_c m_Ra_gather) 27 = .ok (.ifCond .ne 70, 3) := by decide +kernel
theorem d_Ra_gather_30 : decode (am_c m_Ra_gather) 30 = .ok (.aload_n 0, 1) := by decide +kernel
theorem d_Ra_gather_31 : decode (am_c m_Ra_gather) 31 = .ok (.getfield 20, 3) := by decide +kernel
theorem d_Ra_gather_34 : decode (am_c m_Ra_gather) 34 = .ok (.aload_n 0, 1) := by decide +kernel
theorem d_Ra_gather_35 : decode (am_c m_Ra_gather) 35 = .ok (.getfield 24, 3) := by decide +kernel
theorem d_Ra_gather_38 : decode (am_c m_Ra_gather) 38 = .ok (.iload_n 1, 1) := by decide +kernel
theorem d_Ra_gather_39 : decode (am_c m_Ra_gather) 39 = .ok (.invokevirtual 40, 3) := by decide +kernel
theorem d_Ra_gather_42 : decode (am_c m_Ra_gather) 42 = .ok (.iconst 0, 1) := by decide +kernel
theorem d_Ra_gather_43 : decode (am_c m_Ra_gather) 43 = .ok (.invokevirtual 44, 3) := by decide +kernel
theorem d_Ra_gather_46 : decode (am_c m_Ra_gather) 46 = .ok (.aload_n 0, 1) := by decide +kernel
theorem d_Ra_gather_47 : decode (am_c m_Ra_gather) 47 = .ok (.getfield 20, 3) := by decide +kernel
theorem d_Ra_gather_50 : decode (am_c m_Ra_gather) 50 = .ok (.aload_n 0, 1) := by decide +kernel
theorem d_Ra_gather_51 : decode (am_c m_Ra_gather) 51 = .ok (.getfield 24, 3) := by decide +kernel
theorem d_Ra_gather_54 : decode (am_c m_Ra_gather) 54 = .ok (.iload_n 1, 1) := by decide +kernel
theorem d_Ra_gather_55 : decode (am_c m_Ra_gather) 55 = .ok (.invokevirtual 50, 3) := by decide +kernel
theorem d_Ra_gather_58 : decode (am_c m_Ra_gather) 58 = .ok (.invokevirtual 53, 3) := by decide +kernel
theorem d_Ra_gather_61 : decode (am_c m_Ra_gather) 61 = .ok (.aload_n 0, 1) := by decide +kernel
theorem d_Ra_gather_62 : decode (am_c m_Ra_gather) 62 = .ok (.getfield 20, 3) := by decide +kernel
theorem d_Ra_gather_65 : decode (am_c m_Ra_gather) 65 = .ok (.aload_n 0, 1) := by decide +kernel
theorem d_Ra_gather_66 : decode (am_c m_Ra_gather) 66 = .ok (.getfield 17, 3) := by decide +kernel
theorem d_Ra_gather_69 : decode (am_c m_Ra_gather) 69 = .ok (.aload_n 0, 1) := by decide +kernel
theorem d_Ra_gather_70 : decode (am_c m_Ra_gather) 70 = .ok (.getfield 28, 3) := by decide +kernel
theorem d_Ra_gather_73 : decode (am_c m_Ra_gather) 73 = .ok (.aaload, 1) := by decide +kernel
theorem d_Ra_gather_74 : decode (am_c m_Ra_gather) 74 = .ok (.invokevirtual 57, 3) := by decide +kernel
theorem d_Ra_gather_77 : decode (am_c m_Ra_gather) 77 = .ok (.aload_n 0, 1) := by decide +kernel
theorem d_Ra_gather_78 : decode (am_c m_Ra_gather) 78 = .ok (.getfield 9, 3) := by decide +kernel
theorem d_Ra_gather_81 : decode (am_c m_Ra_gather) 81 = .ok (.aload_n 0, 1) := by decide +kernel
theorem d_Ra_gather_82 : decode (am_c m_Ra_gather) 82 = .ok (.getfield 28, 3) := by decide +kernel
theorem d_Ra_gather_85 : decode (am_c m_Ra_gather) 85 = .ok (.iload_n 1, 1) := by decide +kernel
theorem d_Ra_gather_86 : decode (am_c m_Ra_gather) 86 = .ok (.iastore, 1) := by decide +kernel
theorem d_Ra_gather_87 : decode (am_c m_Ra_gather) 87 = .ok (.aload_n 0, 1) := by decide +kernel
theorem d_Ra_gather_88 : decode (am_c m_Ra_gather) 88 = .ok (.dup, 1) := by decide +kernel
theorem d_Ra_gather_89 : decode (am_c m_Ra_gather) 89 = .ok (.getfield 28, 3) := by decide +kernel
theorem d_Ra_gather_92 : decode (am_c m_Ra_gather) 92 = .ok (.iconst 1, 1) := by decide +kernel
theorem d_Ra_gather_93 : decode (am_c m_Ra_gather) 93 = .ok (.iadd, 1) := by decide +kernel
theorem d_Ra_gather_94 : decode (am_c m_Ra_gather) 94 = .ok (.putfield 28, 3) := by decide +kernel
theorem d_Ra_gather_97 : decode (am_c m_Ra_gather) 97 = .ok (.iinc 1 1, 3) := by decide +kernel
theorem d_Ra_gather_100 : decode (am_c m_Ra_gather) 100 = .ok (.goto (-93), 3) := by decide +kernel
theorem d_Ra_gather_103 : decode (am_c m_Ra_gather) 103 = .ok (.return_, 1) := by decide +kernel
theorem d_Gr_countRays_0 : decode (am_c m_Gr_countRays) 0 = .ok (.aload_n 1, 1) := by decide +kernel
theorem d_Gr_countRays_1 : decode (am_c m_Gr_countRays) 1 = .ok (.iconst 0, 1) := by decide +kernel
theorem d_Gr_countRays_2 : decode (am_c m_Gr_countRays) 2 = .ok (.invokestatic 37, 3) := by decide +kernel
theorem d_Gr_countRays_5 : decode (am_c m_Gr_countRays) 5 = .ok (.iconst 1, 1) := by decide +kernel
theorem d_Gr_countRays_6 : decode (am_c m_Gr_countRays) 6 = .ok (.istore_n 2, 1) := by decide +kernel
theorem d_Gr_countRays_7 : decode (am_c m_Gr_countRays) 7 = .ok (.iload_n 2, 1) := by decide +kernel
theorem d_Gr_countRays_8 : decode (am_c m_Gr_countRays) 8 = .ok (.aload_n 0, 1) := by decide +kernel
theorem d_Gr_countRays_9 : decode (am_c m_Gr_countRays) 9 = .ok (.getfield 65, 3) := by decide +kernel
theorem d_Gr_countRays_12 : decode (am_c m_Gr_countRays) 12 = .ok (.if_icmp .ge 45, 3) := by decide +kernel
theorem d_Gr_countRays_15 : decode (am_c m_Gr_countRays) 15 = .ok (.aload_n 1, 1) := by decide +kernel
theorem d_Gr_countRays_16 : decode (am_c m_Gr_countRays) 16 = .ok (.aload_n 0, 1) := by decide +kernel
theorem d_Gr_countRays_17 : decode (am_c m_Gr_countRays) 17 = .ok (.getfield 15, 3) := by decide +kernel
theorem d_Gr_countRays_20 : decode (am_c m_Gr_countRays) 20 = .ok (.aload_n 0, 1) := by decide +kernel
theorem d_Gr_countRays_21 : decode (am_c m_Gr_countRays) 21 = .ok (.getfield 31, 3) := by decide +kernel
theorem d_Gr_countRays_24 : decode (am_c m_Gr_countRays) 24 = .ok (.iload_n 2, 1) := by decide +kernel
theorem d_Gr_countRays_25 : decode (am_c m_Gr_countRays) 25 = .ok (.iconst 1, 1) := by decide +kernel
theorem d_Gr_countRays_26 : decode (am_c m_Gr_countRays) 26 = .ok (.isub, 1) := by decide +kernel
theorem d_Gr_countRays_27 : decode (am_c m_Gr_countRays) 27 = .ok (.iaload, 1) := by decide +kernel
theorem d_Gr_countRays_28 : decode (am_c m_Gr_countRays) 28 = .ok (.iaload, 1) := by decide +kernel
theorem d_Gr_countRays_29 : decode (am_c m_Gr_countRays) 29 = .ok (.dup2, 1) := by decide +kernel
theorem d_Gr_countRays_30 : decode (am_c m_Gr_countRays) 30 = .ok (.iaload, 1) := by decide +kernel
theorem d_Gr_countRays_31 : decode (am_c m_Gr_countRays) 31 = .ok (.iconst 1, 1) := by decide +kernel
theorem d_Gr_countRays_32 : decode (am_c m_Gr_countRays) 32 = .ok (.iadd, 1) := by decide +kernel
theorem d_Gr_countRays_33 : decode (am_c m_Gr_countRays) 33 = .ok (.iastore, 1) := by decide +kernel
theorem d_Gr_countRays_34 : decode (am_c m_Gr_countRays) 34 = .ok (.aload_n 1, 1) := by decide +kernel
theorem d_Gr_countRays_35 : decode (am_c m_Gr_countRays) 35 = .ok (.aload_n 0, 1) := by decide +kernel
theorem d_Gr_countRays_36 : decode (am_c m_Gr_countRays) 36 = .ok (.getfield 15, 3) := by decide +kernel
theorem d_Gr_countRays_39 : decode (am_c m_Gr_countRays) 39 = .ok (.aload_n 0, 1) := by decide +kernel
theorem d_Gr_countRays_40 : decode (am_c m_Gr_countRays) 40 = .ok (.getfield 31, 3) := by decide +kernel
theorem d_Gr_countRays_43 : decode (am_c m_Gr_countRays) 43 = .ok (.iload_n 2, 1) := by decide +kernel
theorem d_Gr_countRays_44 : decode (am_c m_Gr_countRays) 44 = .ok (.iaload, 1) := by decide +kernel
theorem d_Gr_countRays_45 : decode (am_c m_Gr_countRays) 45 = .ok (.iaload, 1) := by decide +kernel
theorem d_Gr_countRays_46 : decode (am_c m_Gr_countRays) 46 = .ok (.dup2, 1) := by decide +kernel
theorem d_Gr_countRays_47 : decode (am_c m_Gr_countRays) 47 = .ok (.iaload, 1) := by decide +kernel
theorem d_Gr_countRays_48 : decode (am_c m_Gr_countRays) 48 = .ok (.iconst 1, 1) := by decide +kernel
theorem d_Gr_countRays_49 : decode (am_c m_Gr_countRays) 49 = .ok (.iadd, 1) := by decide +kernel
theorem d_Gr_countRays_50 : decode (am_c m_Gr_countRays) 50 = .ok (.iastore, 1) := by decide +kernel
theorem d_Gr_countRays_51 : decode (am_c m_Gr_countRays) 51 = .ok (.iinc 2 1, 3) := by decide +kernel
theorem d_Gr_countRays_54 : decode (am_c m_Gr_countRays) 54 = .ok (.goto (-47), 3) := by decide +kernel
theorem d_Gr_countRays_57 : decode (am_c m_Gr_countRays) 57 = .ok (.return_, 1) := by decide +kernel
theorem d_Ra_allRows_0 : decode (am_c m_Ra_allRows) 0 = .ok (.iconst 1, 1) := by decide +kernel
theorem d_Ra_allRows_1 : decode (am_c m_Ra_allRows) 1 = .ok (.aload_n 0, 1) := by decide +kernel
theorem d_Ra_allRows_2 : decode (am_c m_Ra_allRows) 2 = .ok (.getfield 28, 3) := by decide +kernel
theorem d_Ra_allRows_5 : decode (am_c m_Ra_allRows) 5 = .ok (.ishl, 1) := by decide +kernel
theorem d_Ra_allRows_6 : decode (am_c m_Ra_allRows) 6 = .ok (.iconst 1, 1) := by decide +kernel
theorem d_Ra_allRows_7 : decode (am_c m_Ra_allRows) 7 = .ok (.isub, 1) := by decide +kernel
theorem d_Ra_allRows_8 : decode (am_c m_Ra_allRows) 8 = .ok (.ireturn, 1) := by decide +kernel
theorem d_Ra_picksOf_0 : decode (am_c m_Ra_picksOf) 0 = .ok (.iconst 0, 1) := by decide +kernel
theorem d_Ra_picksOf_1 : decode (am_c m_Ra_picksOf) 1 = .ok (.istore_n 2, 1) := by decide +kernel
theorem d_Ra_picksOf_2 : decode (am_c m_Ra_picksOf) 2 = .ok (.iconst 0, 1) := by decide +kernel
theorem d_Ra_picksOf_3 : decode (am_c m_Ra_picksOf) 3 = .ok (.istore_n 3, 1) := by decide +kernel
theorem d_Ra_picksOf_4 : decode (am_c m_Ra_picksOf) 4 = .ok (.iload_n 3, 1) := by decide +kernel
theorem d_Ra_picksOf_5 : decode (am_c m_Ra_picksOf) 5 = .ok (.aload_n 0, 1) := by decide +kernel
theorem d_Ra_picksOf_6 : decode (am_c m_Ra_picksOf) 6 = .ok (.getfield 28, 3) := by decide +kernel
theorem d_Ra_picksOf_9 : decode (am_c m_Ra_picksOf) 9 = .ok (.if_icmp .ge 29, 3) := by decide +kernel
theorem d_Ra_picksOf_12 : decode (am_c m_Ra_picksOf) 12 = .ok (.iload_n 1, 1) := by decide +kernel
theorem d_Ra_picksOf_13 : decode (am_c m_Ra_picksOf) 13 = .ok (.iload_n 3, 1) := by decide +kernel
theorem d_Ra_picksOf_14 : decode (am_c m_Ra_picksOf) 14 = .ok (.ishr, 1) := by decide +kernel
theorem d_Ra_picksOf_15 : decode (am_c m_Ra_picksOf) 15 = .ok (.iconst 1, 1) := by decide +kernel
theorem d_Ra_picksOf_16 : decode (am_c m_Ra_picksOf) 16 = .ok (.iand, 1) := by decide +kernel
theorem d_Ra_picksOf_17 : decode (am_c m_Ra_picksOf) 17 = .ok (.iconst 1, 1) := by decide +kernel
theorem d_Ra_picksOf_18 : decode (am_c m_Ra_picksOf) 18 = .ok (.if_icmp .ne 14, 3) := by decide +kernel
theorem d_Ra_picksOf_21 : decode (am_c m_Ra_picksOf) 21 = .ok (.iload_n 2, 1) := by decide +kernel
theorem d_Ra_picksOf_22 : decode (am_c m_Ra_picksOf) 22 = .ok (.iconst 1, 1) := by decide +kernel
theorem d_Ra_picksOf_23 : decode (am_c m_Ra_picksOf) 23 = .ok (.aload_n 0, 1) := by decide +kernel
theorem d_Ra_picksOf_24 : decode (am_c m_Ra_picksOf) 24 = .ok (.getfield 9, 3) := by decide +kernel
theorem d_Ra_picksOf_27 : decode (am_c m_Ra_picksOf) 27 = .ok (.iload_n 3, 1) := by decide +kernel
theorem d_Ra_picksOf_28 : decode (am_c m_Ra_picksOf) 28 = .ok (.iaload, 1) := by decide +kernel
theorem d_Ra_picksOf_29 : decode (am_c m_Ra_picksOf) 29 = .ok (.ishl, 1) := by decide +kernel
theorem d_Ra_picksOf_30 : decode (am_c m_Ra_picksOf) 30 = .ok (.ior, 1) := by decide +kernel
theorem d_Ra_picksOf_31 : decode (am_c m_Ra_picksOf) 31 = .ok (.istore_n 2, 1) := by decide +kernel
theorem d_Ra_picksOf_32 : decode (am_c m_Ra_picksOf) 32 = .ok (.iinc 3 1, 3) := by decide +kernel
theorem d_Ra_picksOf_35 : decode (am_c m_Ra_picksOf) 35 = .ok (.goto (-31), 3) := by decide +kernel
theorem d_Ra_picksOf_38 : decode (am_c m_Ra_picksOf) 38 = .ok (.iload_n 2, 1) := by decide +kernel
theorem d_Ra_picksOf_39 : decode (am_c m_Ra_picksOf) 39 = .ok (.ireturn, 1) := by decide +kernel
theorem d_Ra_isTouched_0 : decode (am_c m_Ra_isTouched) 0 = .ok (.iconst 0, 1) := by decide +kernel
theorem d_Ra_isTouched_1 : decode (am_c m_Ra_isTouched) 1 = .ok (.istore_n 2, 1) := by decide +kernel
theorem d_Ra_isTouched_2 : decode (am_c m_Ra_isTouched) 2 = .ok (.iload_n 2, 1) := by decide +kernel
theorem d_Ra_isTouched_3 : decode (am_c m_Ra_isTouched) 3 = .ok (.aload_n 0, 1) := by decide +kernel
theorem d_Ra_isTouched_4 : decode (am_c m_Ra_isTouched) 4 = .ok (.getfield 28, 3) := by decide +kernel
theorem d_Ra_isTouched_7 : decode (am_c m_Ra_isTouched) 7 = .ok (.if_icmp .ge 22, 3) := by decide +kernel
theorem d_Ra_isTouched_10 : decode (am_c m_Ra_isTouched) 10 = .ok (.aload_n 0, 1) := by decide +kernel
theorem d_Ra_isTouched_11 : decode (am_c m_Ra_isTouched) 11 = .ok (.getfield 17, 3) := by decide +kernel
theorem d_Ra_isTouched_14 : decode (am_c m_Ra_isTouched) 14 = .ok (.iload_n 2, 1) := by decide +kernel
theorem d_Ra_isTouched_15 : decode (am_c m_Ra_isTouched) 15 = .ok (.aaload, 1) := by decide +kernel
theorem d_Ra_isTouched_16 : decode (am_c m_Ra_isTouched) 16 = .ok (.iload_n 1, 1) := by decide +kernel
theorem d_Ra_isTouched_17 : decode (am_c m_Ra_isTouched) 17 = .ok (.iaload, 1) := by decide +kernel
theorem d_Ra_isTouched_18 : decode (am_c m_Ra_isTouched) 18 = .ok (.ifCond .le 5, 3) := by decide +kernel
theorem d_Ra_isTouched_21 : decode (am_c m_Ra_isTouched) 21 = .ok (.iconst 1, 1) := by decide +kernel
theorem d_Ra_isTouched_22 : decode (am_c m_Ra_isTouched) 22 = .ok (.ireturn, 1) := by decide +kernel
theorem d_Ra_isTouched_23 : decode (am_c m_Ra_isTouched) 23 = .ok (.iinc 2 1, 3) := by decide +kernel
theorem d_Ra_isTouched_26 : decode (am_c m_Ra_isTouched) 26 = .ok (.goto (-24), 3) := by decide +kernel
theorem d_Ra_isTouched_29 : decode (am_c m_Ra_isTouched) 29 = .ok (.iconst 0, 1) := by decide +kernel
theorem d_Ra_isTouched_30 : decode (am_c m_Ra_isTouched) 30 = .ok (.ireturn, 1) := by decide +kernel
theorem d_Bo_hasPicks_0 : decode (am_c m_Bo_hasPicks) 0 = .ok (.iconst 0, 1) := by decide +kernel
theorem d_Bo_hasPicks_1 : decode (am_c m_Bo_hasPicks) 1 = .ok (.istore_n 2, 1) := by decide +kernel
theorem d_Bo_hasPicks_2 : decode (am_c m_Bo_hasPicks) 2 = .ok (.iload_n 2, 1) := by decide +kernel
theorem d_Bo_hasPicks_3 : decode (am_c m_Bo_hasPicks) 3 = .ok (.aload_n 0, 1) := by decide +kernel
theorem d_Bo_hasPicks_4 : decode (am_c m_Bo_hasPicks) 4 = .ok (.getfield 52, 3) := by decide +kernel
theorem d_Bo_hasPicks_7 : decode (am_c m_Bo_hasPicks) 7 = .ok (.if_icmp .ge 21, 3) := by decide +kernel
theorem d_Bo_hasPicks_10 : decode (am_c m_Bo_hasPicks) 10 = .ok (.aload_n 0, 1) := by decide +kernel
theorem d_Bo_hasPicks_11 : decode (am_c m_Bo_hasPicks) 11 = .ok (.getfield 27, 3) := by decide +kernel
theorem d_Bo_hasPicks_14 : decode (am_c m_Bo_hasPicks) 14 = .ok (.iload_n 2, 1) := by decide +kernel
theorem d_Bo_hasPicks_15 : decode (am_c m_Bo_hasPicks) 15 = .ok (.iaload, 1) := by decide +kernel
theorem d_Bo_hasPicks_16 : decode (am_c m_Bo_hasPicks) 16 = .ok (.iload_n 1, 1) := by decide +kernel
theorem d_Bo_hasPicks_17 : decode (am_c m_Bo_hasPicks) 17 = .ok (.if_icmp .ne 5, 3) := by decide +kernel
theorem d_Bo_hasPicks_20 : decode (am_c m_Bo_hasPicks) 20 = .ok (.iconst 1, 1) := by decide +kernel
theorem d_Bo_hasPicks_21 : decode (am_c m_Bo_hasPicks) 21 = .ok (.ireturn, 1) := by decide +kernel
theorem d_Bo_hasPicks_22 : decode (am_c m_Bo_hasPicks) 22 = .ok (.iinc 2 1, 3) := by decide +kernel
theorem d_Bo_hasPicks_25 : decode (am_c m_Bo_hasPicks) 25 = .ok (.goto (-23), 3) := by decide +kernel
theorem d_Bo_hasPicks_28 : decode (am_c m_Bo_hasPicks) 28 = .ok (.iconst 0, 1) := by decide +kernel
theorem d_Bo_hasPicks_29 : decode (am_c m_Bo_hasPicks) 29 = .ok (.ireturn, 1) := by decide +kernel
theorem d_Gr_paintBoard_0 : decode (am_c m_Gr_paintBoard) 0 = .ok (.iconst 0, 1) := by decide +kernel
theorem d_Gr_paintBoard_1 : decode (am_c m_Gr_paintBoard) 1 = .ok (.istore_n 3, 1) := by decide +kernel
theorem d_Gr_paintBoard_2 : decode (am_c m_Gr_paintBoard) 2 = .ok (.iload_n 3, 1) := by decide +kernel
theorem d_Gr_paintBoard_3 : decode (am_c m_Gr_paintBoard) 3 = .ok (.bipush 8, 2) := by decide +kernel
theorem d_Gr_paintBoard_5 : decode (am_c m_Gr_paintBoard) 5 = .ok (.if_icmp .ge 21, 3) := by decide +kernel
theorem d_Gr_paintBoard_8 : decode (am_c m_Gr_paintBoard) 8 = .ok (.aload_n 0, 1) := by decide +kernel
theorem d_Gr_paintBoard_9 : decode (am_c m_Gr_paintBoard) 9 = .ok (.getfield 19, 3) := by decide +kernel
theorem d_Gr_paintBoard_12 : decode (am_c m_Gr_paintBoard) 12 = .ok (.iload_n 3, 1) := by decide +kernel
theorem d_Gr_paintBoard_13 : decode (am_c m_Gr_paintBoard) 13 = .ok (.iload_n 3, 1) := by decide +kernel
theorem d_Gr_paintBoard_14 : decode (am_c m_Gr_paintBoard) 14 = .ok (.iload_n 1, 1) := by decide +kernel
theorem d_Gr_paintBoard_15 : decode (am_c m_Gr_paintBoard) 15 = .ok (.iload_n 2, 1) := by decide +kernel
theorem d_Gr_paintBoard_16 : decode (am_c m_Gr_paintBoard) 16 = .ok (.invokestatic 71, 3) := by decide +kernel
theorem d_Gr_paintBoard_19 : decode (am_c m_Gr_paintBoard) 19 = .ok (.iastore, 1) := by decide +kernel
theorem d_Gr_paintBoard_20 : decode (am_c m_Gr_paintBoard) 20 = .ok (.iinc 3 1, 3) := by decide +kernel
theorem d_Gr_paintBoard_23 : decode (am_c m_Gr_paintBoard) 23 = .ok (.goto (-21), 3) := by decide +kernel
theorem d_Gr_paintBoard_26 : decode (am_c m_Gr_paintBoard) 26 = .ok (.return_, 1) := by decide +kernel
theorem d_Gr_onBoard_0 : decode (am_c m_Gr_onBoard) 0 = .ok (.iload_n 0, 1) := by decide +kernel
theorem d_Gr_onBoard_1 : decode (am_c m_Gr_onBoard) 1 = .ok (.iconst 1, 1) := by decide +kernel
theorem d_Gr_onBoard_2 : decode (am_c m_Gr_onBoard) 2 = .ok (.iand, 1) := by decide +kernel
theorem d_Gr_onBoard_3 : decode (am_c m_Gr_onBoard) 3 = .ok (.ifCond .ne 7, 3) := by decide +kernel
theorem d_Gr_onBoard_6 : decode (am_c m_Gr_onBoard) 6 = .ok (.iload_n 1, 1) := by decide +kernel
theorem d_Gr_onBoard_7 : decode (am_c m_Gr_onBoard) 7 = .ok (.goto 4, 3) := by decide +kernel
theorem d_Gr_onBoard_10 : decode (am_c m_Gr_onBoard) 10 = .ok (.iload_n 2, 1) := by decide +kernel
theorem d_Gr_onBoard_11 : decode (am_c m_Gr_onBoard) 11 = .ok (.ireturn, 1) := by decide +kernel
theorem d_Ft_aimAtForetold_0 : decode (am_c m_Ft_aimAtForetold) 0 = .ok (.iconst 0, 1) := by decide +kernel
theorem d_Ft_aimAtForetold_1 : decode (am_c m_Ft_aimAtForetold) 1 = .ok (.istore_n 2, 1) := by decide +kernel
theorem d_Ft_aimAtForetold_2 : decode (am_c m_Ft_aimAtForetold) 2 = .ok (.iload_n 2, 1) := by decide +kernel
theorem d_Ft_aimAtForetold_3 : decode (am_c m_Ft_aimAtForetold) 3 = .ok (.aload_n 0, 1) := by decide +kernel
theorem d_Ft_aimAtForetold_4 : decode (am_c m_Ft_aimAtForetold) 4 = .ok (.getfield 36, 3) := by decide +kernel
theorem d_Ft_aimAtForetold_7 : decode (am_c m_Ft_aimAtForetold) 7 = .ok (.getfield 67, 3) := by decide +kernel
theorem d_Ft_aimAtForetold_10 : decode (am_c m_Ft_aimAtForetold) 10 = .ok (.if_icmp .ge 33, 3) := by decide +kernel
theorem d_Ft_aimAtForetold_13 : decode (am_c m_Ft_aimAtForetold) 13 = .ok (.aload_n 0, 1) := by decide +kernel
theorem d_Ft_aimAtForetold_14 : decode (am_c m_Ft_aimAtForetold) 14 = .ok (.iload_n 2, 1) := by decide +kernel
theorem d_Ft_aimAtForetold_15 : decode (am_c m_Ft_aimAtForetold) 15 = .ok (.invokevirtual 77, 3) := by decide +kernel
theorem d_Ft_aimAtForetold_18 : decode (am_c m_Ft_aimAtForetold) 18 = .ok (.istore_n 3, 1) := by decide +kernel
theorem d_Ft_aimAtForetold_19 : decode (am_c m_Ft_aimAtForetold) 19 = .ok (.aload_n 0, 1) := by decide +kernel
theorem d_Ft_aimAtForetold_20 : decode (am_c m_Ft_aimAtForetold) 20 = .ok (.getfield 9, 3) := by decide +kernel
theorem d_Ft_aimAtForetold_23 : decode (am_c m_Ft_aimAtForetold) 23 = .ok (.iload_n 2, 1) := by decide +kernel
theorem d_Ft_aimAtForetold_24 : decode (am_c m_Ft_aimAtForetold) 24 = .ok (.iload_n 3, 1) := by decide +kernel
theorem d_Ft_aimAtForetold_25 : decode (am_c m_Ft_aimAtForetold) 25 = .ok (.iload_n 1, 1) := by decide +kernel
theorem d_Ft_aimAtForetold_26 : decode (am_c m_Ft_aimAtForetold) 26 = .ok (.isub, 1) := by decide +kernel
theorem d_Ft_aimAtForetold_27 : decode (am_c m_Ft_aimAtForetold) 27 = .ok (.iastore, 1) := by decide +kernel
theorem d_Ft_aimAtForetold_28 : decode (am_c m_Ft_aimAtForetold) 28 = .ok (.aload_n 0, 1) := by decide +kernel
theorem d_Ft_aimAtForetold_29 : decode (am_c m_Ft_aimAtForetold) 29 = .ok (.getfield 15, 3) := by decide +kernel
theorem d_Ft_aimAtForetold_32 : decode (am_c m_Ft_aimAtForetold) 32 = .ok (.iload_n 2, 1) := by decide +kernel
theorem d_Ft_aimAtForetold_33 : decode (am_c m_Ft_aimAtForetold) 33 = .ok (.iload_n 3, 1) := by decide +kernel
theorem d_Ft_aimAtForetold_34 : decode (am_c m_Ft_aimAtForetold) 34 = .ok (.iload_n 1, 1) := by decide +kernel
theorem d_Ft_aimAtForetold_35 : decode (am_c m_Ft_aimAtForetold) 35 = .ok (.iadd, 1) := by decide +kernel
theorem d_Ft_aimAtForetold_36 : decode (am_c m_Ft_aimAtForetold) 36 = .ok (.iastore, 1) := by decide +kernel
theorem d_Ft_aimAtForetold_37 : decode (am_c m_Ft_aimAtForetold) 37 = .ok (.iinc 2 1, 3) := by decide +kernel
theorem d_Ft_aimAtForetold_40 : decode (am_c m_Ft_aimAtForetold) 40 = .ok (.goto (-38), 3) := by decide +kernel
theorem d_Ft_aimAtForetold_43 : decode (am_c m_Ft_aimAtForetold) 43 = .ok (.return_, 1) := by decide +kernel
theorem d_Gr_countAsOnBoard_0 : decode (am_c m_Gr_countAsOnBoard) 0 = .ok (.iconst 0, 1) := by decide +kernel
theorem d_Gr_countAsOnBoard_1 : decode (am_c m_Gr_countAsOnBoard) 1 = .ok (.istore_n 3, 1) := by decide +kernel
theorem d_Gr_countAsOnBoard_2 : decode (am_c m_Gr_countAsOnBoard) 2 = .ok (.iconst 0, 1) := by decide +kernel
theorem d_Gr_countAsOnBoard_3 : decode (am_c m_Gr_countAsOnBoard) 3 = .ok (.istore 4, 2) := by decide +kernel
theorem d_Gr_countAsOnBoard_5 : decode (am_c m_Gr_countAsOnBoard) 5 = .ok (.iload 4, 2) := by decide +kernel
theorem d_Gr_countAsOnBoard_7 : decode (am_c m_Gr_countAsOnBoard) 7 = .ok (.bipush 8, 2) := by decide +kernel
theorem d_Gr_countAsOnBoard_9 : decode (am_c m_Gr_countAsOnBoard) 9 = .ok (.if_icmp .ge 38, 3) := by decide +kernel
theorem d_Gr_countAsOnBoard_12 : decode (am_c m_Gr_countAsOnBoard) 12 = .ok (.aload_n 0, 1) := by decide +kernel
theorem d_Gr_countAsOnBoard_13 : decode (am_c m_Gr_countAsOnBoard) 13 = .ok (.iload 4, 2) := by decide +kernel
theorem d_Gr_countAsOnBoard_15 : decode (am_c m_Gr_countAsOnBoard) 15 = .ok (.invokevirtual 43, 3) := by decide +kernel
theorem d_Gr_countAsOnBoard_18 : decode (am_c m_Gr_countAsOnBoard) 18 = .ok (.ifCond .eq 23, 3) := by decide +kernel
theorem d_Gr_countAsOnBoard_21 : decode (am_c m_Gr_countAsOnBoard) 21 = .ok (.aload_n 0, 1) := by decide +kernel
theorem d_Gr_countAsOnBoard_22 : decode (am_c m_Gr_countAsOnBoard) 22 = .ok (.getfield 19, 3) := by decide +kernel
theorem d_Gr_countAsOnBoard_25 : decode (am_c m_Gr_countAsOnBoard) 25 = .ok (.iload 4, 2) := by decide +kernel
theorem d_Gr_countAsOnBoard_27 : decode (am_c m_Gr_countAsOnBoard) 27 = .ok (.iaload, 1) := by decide +kernel
theorem d_Gr_countAsOnBoard_28 : decode (am_c m_Gr_countAsOnBoard) 28 = .ok (.iload 4, 2) := by decide +kernel
theorem d_Gr_countAsOnBoard_30 : decode (am_c m_Gr_countAsOnBoard) 30 = .ok (.iload_n 1, 1) := by decide +kernel
theorem d_Gr_countAsOnBoard_31 : decode (am_c m_Gr_countAsOnBoard) 31 = .ok (.iload_n 2, 1) := by decide +kernel
theorem d_Gr_countAsOnBoard_32 : decode (am_c m_Gr_countAsOnBoard) 32 = .ok (.invokestatic 71, 3) := by decide +kernel
theorem d_Gr_countAsOnBoard_35 : decode (am_c m_Gr_countAsOnBoard) 35 = .ok (.if_icmp .ne 6, 3) := by decide +kernel
theorem d_Gr_countAsOnBoard_38 : decode (am_c m_Gr_countAsOnBoard) 38 = .ok (.iinc 3 1, 3) := by decide +kernel
theorem d_Gr_countAsOnBoard_41 : decode (am_c m_Gr_countAsOnBoard) 41 = .ok (.iinc 4 1, 3) := by decide +kernel
theorem d_Gr_countAsOnBoard_44 : decode (am_c m_Gr_countAsOnBoard) 44 = .ok (.goto (-39), 3) := by decide +kernel
theorem d_Gr_countAsOnBoard_47 : decode (am_c m_Gr_countAsOnBoard) 47 = .ok (.iload_n 3, 1) := by decide +kernel
theorem d_Gr_countAsOnBoard_48 : decode (am_c m_Gr_countAsOnBoard) 48 = .ok (.ireturn, 1) := by decide +kernel
