/-! ===== what the bytes are ===== -/
theorem d_Mo_fit_0 : decode (am_c m_Mo_fit) 0 = .ok (.iload_n 1, 1) := by decide +kernel
theorem d_Mo_fit_1 : decode (am_c m_Mo_fit) 1 = .ok (.iconst 1, 1) := by decide +kernel
theorem d_Mo_fit_2 : decode (am_c m_Mo_fit) 2 = .ok (.bipush 10, 2) := by decide +kernel
theorem d_Mo_fit_4 : decode (am_c m_Mo_fit) 4 = .ok (.invokestatic 122, 3) := by decide +kernel
theorem d_Mo_fit_7 : decode (am_c m_Mo_fit) 7 = .ok (.ifCond .ne 6, 3) := by decide +kernel
theorem d_Mo_fit_10 : decode (am_c m_Mo_fit) 10 = .ok (.bipush (-3), 2) := by decide +kernel
theorem d_Mo_fit_12 : decode (am_c m_Mo_fit) 12 = .ok (.ireturn, 1) := by decide +kernel
theorem d_Mo_fit_13 : decode (am_c m_Mo_fit) 13 = .ok (.aload_n 0, 1) := by decide +kernel
theorem d_Mo_fit_14 : decode (am_c m_Mo_fit) 14 = .ok (.aload_n 0, 1) := by decide +kernel
theorem d_Mo_fit_15 : decode (am_c m_Mo_fit) 15 = .ok (.getfield 174, 3) := by decide +kernel
theorem d_Mo_fit_18 : decode (am_c m_Mo_fit) 18 = .ok (.invokevirtual 196, 3) := by decide +kernel
theorem d_Mo_fit_21 : decode (am_c m_Mo_fit) 21 = .ok (.aload_n 0, 1) := by decide +kernel
theorem d_Mo_fit_22 : decode (am_c m_Mo_fit) 22 = .ok (.iload_n 1, 1) := by decide +kernel
theorem d_Mo_fit_23 : decode (am_c m_Mo_fit) 23 = .ok (.invokevirtual 206, 3) := by decide +kernel
theorem d_Mo_fit_26 : decode (am_c m_Mo_fit) 26 = .ok (.aload_n 0, 1) := by decide +kernel
theorem d_Mo_fit_27 : decode (am_c m_Mo_fit) 27 = .ok (.invokevirtual 200, 3) := by decide +kernel
theorem d_Mo_fit_30 : decode (am_c m_Mo_fit) 30 = .ok (.ireturn, 1) := by decide +kernel
theorem d_Mo_fitAll_0 : decode (am_c m_Mo_fitAll) 0 = .ok (.iconst 1, 1) := by decide +kernel
theorem d_Mo_fitAll_1 : decode (am_c m_Mo_fitAll) 1 = .ok (.istore_n 2, 1) := by decide +kernel
theorem d_Mo_fitAll_2 : decode (am_c m_Mo_fitAll) 2 = .ok (.iconst 0, 1) := by decide +kernel
theorem d_Mo_fitAll_3 : decode (am_c m_Mo_fitAll) 3 = .ok (.istore_n 3, 1) := by decide +kernel
theorem d_Mo_fitAll_4 : decode (am_c m_Mo_fitAll) 4 = .ok (.iload_n 3, 1) := by decide +kernel
theorem d_Mo_fitAll_5 : decode (am_c m_Mo_fitAll) 5 = .ok (.iload_n 1, 1) := by decide +kernel
theorem d_Mo_fitAll_6 : decode (am_c m_Mo_fitAll) 6 = .ok (.if_icmp .ge 51, 3) := by decide +kernel
theorem d_Mo_fitAll_9 : decode (am_c m_Mo_fitAll) 9 = .ok (.iload_n 2, 1) := by decide +kernel
theorem d_Mo_fitAll_10 : decode (am_c m_Mo_fitAll) 10 = .ok (.ifCond .eq 47, 3) := by decide +kernel
theorem d_Mo_fitAll_13 : decode (am_c m_Mo_fitAll) 13 = .ok (.iconst 0, 1) := by decide +kernel
theorem d_Mo_fitAll_14 : decode (am_c m_Mo_fitAll) 14 = .ok (.istore_n 2, 1) := by decide +kernel
theorem d_Mo_fitAll_15 : decode (am_c m_Mo_fitAll) 15 = .ok (.iconst 0, 1) := by decide +kernel
theorem d_Mo_fitAll_16 : decode (am_c m_Mo_fitAll) 16 = .ok (.istore 4, 2) := by decide +kernel
theorem d_Mo_fitAll_18 : decode (am_c m_Mo_fitAll) 18 = .ok (.iload 4, 2) := by decide +kernel
theorem d_Mo_fitAll_20 : decode (am_c m_Mo_fitAll) 20 = .ok (.bipush 8, 2) := by decide +kernel
theorem d_Mo_fitAll_22 : decode (am_c m_Mo_fitAll) 22 = .ok (.if_icmp .ge 29, 3) := by decide +kernel
theorem d_Mo_fitAll_25 : decode (am_c m_Mo_fitAll) 25 = .ok (.aload_n 0, 1) := by decide +kernel
theorem d_Mo_fitAll_26 : decode (am_c m_Mo_fitAll) 26 = .ok (.iload 4, 2) := by decide +kernel
theorem d_Mo_fitAll_28 : decode (am_c m_Mo_fitAll) 28 = .ok (.invokevirtual 142, 3) := by decide +kernel
theorem d_Mo_fitAll_31 : decode (am_c m_Mo_fitAll) 31 = .ok (.ifCond .le 14, 3) := by decide +kernel
theorem d_Mo_fitAll_34 : decode (am_c m_Mo_fitAll) 34 = .ok (.aload_n 0, 1) := by decide +kernel
theorem d_Mo_fitAll_35 : decode (am_c m_Mo_fitAll) 35 = .ok (.iload 4, 2) := by decide +kernel
theorem d_Mo_fitAll_37 : decode (am_c m_Mo_fitAll) 37 = .ok (.invokevirtual 203, 3) := by decide +kernel
theorem d_Mo_fitAll_40 : decode (am_c m_Mo_fitAll) 40 = .ok (.ifCond .eq 5, 3) := by decide +kernel
theorem d_Mo_fitAll_43 : decode (am_c m_Mo_fitAll) 43 = .ok (.iconst 1, 1) := by decide +kernel
theorem d_Mo_fitAll_44 : decode (am_c m_Mo_fitAll) 44 = .ok (.istore_n 2, 1) := by decide +kernel
theorem d_Mo_fitAll_45 : decode (am_c m_Mo_fitAll) 45 = .ok (.iinc 4 1, 3) := by decide +kernel
theorem d_Mo_fitAll_48 : decode (am_c m_Mo_fitAll) 48 = .ok (.goto (-30), 3) := by decide +kernel
theorem d_Mo_fitAll_51 : decode (am_c m_Mo_fitAll) 51 = .ok (.iinc 3 1, 3) := by decide +kernel
theorem d_Mo_fitAll_54 : decode (am_c m_Mo_fitAll) 54 = .ok (.goto (-50), 3) := by decide +kernel
theorem d_Mo_fitAll_57 : decode (am_c m_Mo_fitAll) 57 = .ok (.return_, 1) := by decide +kernel
theorem d_Mo_fitBlock_0 : decode (am_c m_Mo_fitBlock) 0 = .ok (.aload_n 0, 1) := by decide +kernel
theorem d_Mo_fitBlock_1 : decode (am_c m_Mo_fitBlock) 1 = .ok (.getfield 20, 3) := by decide +kernel
theorem d_Mo_fitBlock_4 : decode (am_c m_Mo_fitBlock) 4 = .ok (.iload_n 1, 1) := by decide +kernel
theorem d_Mo_fitBlock_5 : decode (am_c m_Mo_fitBlock) 5 = .ok (.iaload, 1) := by decide +kernel
theorem d_Mo_fitBlock_6 : decode (am_c m_Mo_fitBlock) 6 = .ok (.istore_n 2, 1) := by decide +kernel
theorem d_Mo_fitBlock_7 : decode (am_c m_Mo_fitBlock) 7 = .ok (.aload_n 0, 1) := by decide +kernel
theorem d_Mo_fitBlock_8 : decode (am_c m_Mo_fitBlock) 8 = .ok (.invokevirtual 200, 3) := by decide +kernel
theorem d_Mo_fitBlock_11 : decode (am_c m_Mo_fitBlock) 11 = .ok (.istore_n 3, 1) := by decide +kernel
theorem d_Mo_fitBlock_12 : decode (am_c m_Mo_fitBlock) 12 = .ok (.iload_n 2, 1) := by decide +kernel
theorem d_Mo_fitBlock_13 : decode (am_c m_Mo_fitBlock) 13 = .ok (.istore 4, 2) := by decide +kernel
theorem d_Mo_fitBlock_15 : decode (am_c m_Mo_fitBlock) 15 = .ok (.iconst 1, 1) := by decide +kernel
theorem d_Mo_fitBlock_16 : decode (am_c m_Mo_fitBlock) 16 = .ok (.istore 5, 2) := by decide +kernel
theorem d_Mo_fitBlock_18 : decode (am_c m_Mo_fitBlock) 18 = .ok (.iload 5, 2) := by decide +kernel
theorem d_Mo_fitBlock_20 : decode (am_c m_Mo_fitBlock) 20 = .ok (.bipush 60, 2) := by decide +kernel
theorem d_Mo_fitBlock_22 : decode (am_c m_Mo_fitBlock) 22 = .ok (.if_icmp .gt 51, 3) := by decide +kernel
theorem d_Mo_fitBlock_25 : decode (am_c m_Mo_fitBlock) 25 = .ok (.aload_n 0, 1) := by decide +kernel
theorem d_Mo_fitBlock_26 : decode (am_c m_Mo_fitBlock) 26 = .ok (.getfield 20, 3) := by decide +kernel
theorem d_Mo_fitBlock_29 : decode (am_c m_Mo_fitBlock) 29 = .ok (.iload_n 1, 1) := by decide +kernel
theorem d_Mo_fitBlock_30 : decode (am_c m_Mo_fitBlock) 30 = .ok (.iload 5, 2) := by decide +kernel
theorem d_Mo_fitBlock_32 : decode (am_c m_Mo_fitBlock) 32 = .ok (.iastore, 1) := by decide +kernel
theorem d_Mo_fitBlock_33 : decode (am_c m_Mo_fitBlock) 33 = .ok (.aload_n 0, 1) := by decide +kernel
theorem d_Mo_fitBlock_34 : decode (am_c m_Mo_fitBlock) 34 = .ok (.invokevirtual 200, 3) := by decide +kernel
theorem d_Mo_fitBlock_37 : decode (am_c m_Mo_fitBlock) 37 = .ok (.istore 6, 2) := by decide +kernel
theorem d_Mo_fitBlock_39 : decode (am_c m_Mo_fitBlock) 39 = .ok (.iload 6, 2) := by decide +kernel
theorem d_Mo_fitBlock_41 : decode (am_c m_Mo_fitBlock) 41 = .ok (.iload_n 3, 1) := by decide +kernel
theorem d_Mo_fitBlock_42 : decode (am_c m_Mo_fitBlock) 42 = .ok (.if_icmp .ge 8, 3) := by decide +kernel
theorem d_Mo_fitBlock_45 : decode (am_c m_Mo_fitBlock) 45 = .ok (.iload 5, 2) := by decide +kernel
theorem d_Mo_fitBlock_47 : decode (am_c m_Mo_fitBlock) 47 = .ok (.goto 5, 3) := by decide +kernel
theorem d_Mo_fitBlock_50 : decode (am_c m_Mo_fitBlock) 50 = .ok (.iload 4, 2) := by decide +kernel
theorem d_Mo_fitBlock_52 : decode (am_c m_Mo_fitBlock) 52 = .ok (.istore 4, 2) := by decide +kernel
theorem d_Mo_fitBlock_54 : decode (am_c m_Mo_fitBlock) 54 = .ok (.iload 6, 2) := by decide +kernel
theorem d_Mo_fitBlock_56 : decode (am_c m_Mo_fitBlock) 56 = .ok (.iload_n 3, 1) := by decide +kernel
theorem d_Mo_fitBlock_57 : decode (am_c m_Mo_fitBlock) 57 = .ok (.if_icmp .ge 8, 3) := by decide +kernel
theorem d_Mo_fitBlock_60 : decode (am_c m_Mo_fitBlock) 60 = .ok (.iload 6, 2) := by decide +kernel
theorem d_Mo_fitBlock_62 : decode (am_c m_Mo_fitBlock) 62 = .ok (.goto 4, 3) := by decide +kernel
theorem d_Mo_fitBlock_65 : decode (am_c m_Mo_fitBlock) 65 = .ok (.iload_n 3, 1) := by decide +kernel
theorem d_Mo_fitBlock_66 : decode (am_c m_Mo_fitBlock) 66 = .ok (.istore_n 3, 1) := by decide +kernel
theorem d_Mo_fitBlock_67 : decode (am_c m_Mo_fitBlock) 67 = .ok (.iinc 5 1, 3) := by decide +kernel
theorem d_Mo_fitBlock_70 : decode (am_c m_Mo_fitBlock) 70 = .ok (.goto (-52), 3) := by decide +kernel
theorem d_Mo_fitBlock_73 : decode (am_c m_Mo_fitBlock) 73 = .ok (.aload_n 0, 1) := by decide +kernel
theorem d_Mo_fitBlock_74 : decode (am_c m_Mo_fitBlock) 74 = .ok (.getfield 20, 3) := by decide +kernel
theorem d_Mo_fitBlock_77 : decode (am_c m_Mo_fitBlock) 77 = .ok (.iload_n 1, 1) := by decide +kernel
theorem d_Mo_fitBlock_78 : decode (am_c m_Mo_fitBlock) 78 = .ok (.iload 4, 2) := by decide +kernel
theorem d_Mo_fitBlock_80 : decode (am_c m_Mo_fitBlock) 80 = .ok (.iastore, 1) := by decide +kernel
theorem d_Mo_fitBlock_81 : decode (am_c m_Mo_fitBlock) 81 = .ok (.iload 4, 2) := by decide +kernel
theorem d_Mo_fitBlock_83 : decode (am_c m_Mo_fitBlock) 83 = .ok (.iload_n 2, 1) := by decide +kernel
theorem d_Mo_fitBlock_84 : decode (am_c m_Mo_fitBlock) 84 = .ok (.if_icmp .eq 7, 3) := by decide +kernel
theorem d_Mo_fitBlock_87 : decode (am_c m_Mo_fitBlock) 87 = .ok (.iconst 1, 1) := by decide +kernel
theorem d_Mo_fitBlock_88 : decode (am_c m_Mo_fitBlock) 88 = .ok (.goto 4, 3) := by decide +kernel
theorem d_Mo_fitBlock_91 : decode (am_c m_Mo_fitBlock) 91 = .ok (.iconst 0, 1) := by decide +kernel
theorem d_Mo_fitBlock_92 : decode (am_c m_Mo_fitBlock) 92 = .ok (.ireturn, 1) := by decide +kernel
theorem d_Mo_span_0 : decode (am_c m_Mo_span) 0 = .ok (.iload_n 1, 1) := by decide +kernel
theorem d_Mo_span_1 : decode (am_c m_Mo_span) 1 = .ok (.invokestatic 138, 3) := by decide +kernel
theorem d_Mo_span_4 : decode (am_c m_Mo_span) 4 = .ok (.ifCond .ne 6, 3) := by decide +kernel
theorem d_Mo_span_7 : decode (am_c m_Mo_span) 7 = .ok (.bipush (-2), 2) := by decide +kernel
theorem d_Mo_span_9 : decode (am_c m_Mo_span) 9 = .ok (.ireturn, 1) := by decide +kernel
theorem d_Mo_span_10 : decode (am_c m_Mo_span) 10 = .ok (.iload_n 2, 1) := by decide +kernel
theorem d_Mo_span_11 : decode (am_c m_Mo_span) 11 = .ok (.iconst 0, 1) := by decide +kernel
theorem d_Mo_span_12 : decode (am_c m_Mo_span) 12 = .ok (.iconst 1, 1) := by decide +kernel
theorem d_Mo_span_13 : decode (am_c m_Mo_span) 13 = .ok (.invokestatic 122, 3) := by decide +kernel
theorem d_Mo_span_16 : decode (am_c m_Mo_span) 16 = .ok (.ifCond .ne 6, 3) := by decide +kernel
theorem d_Mo_span_19 : decode (am_c m_Mo_span) 19 = .ok (.bipush (-3), 2) := by decide +kernel
theorem d_Mo_span_21 : decode (am_c m_Mo_span) 21 = .ok (.ireturn, 1) := by decide +kernel
theorem d_Mo_span_22 : decode (am_c m_Mo_span) 22 = .ok (.aload_n 0, 1) := by decide +kernel
theorem d_Mo_span_23 : decode (am_c m_Mo_span) 23 = .ok (.invokevirtual 219, 3) := by decide +kernel
theorem d_Mo_span_26 : decode (am_c m_Mo_span) 26 = .ok (.aload_n 0, 1) := by decide +kernel
theorem d_Mo_span_27 : decode (am_c m_Mo_span) 27 = .ok (.sipush 4095, 3) := by decide +kernel
theorem d_Mo_span_30 : decode (am_c m_Mo_span) 30 = .ok (.invokevirtual 222, 3) := by decide +kernel
theorem d_Mo_span_33 : decode (am_c m_Mo_span) 33 = .ok (.ifCond .ne 7, 3) := by decide +kernel
theorem d_Mo_span_36 : decode (am_c m_Mo_span) 36 = .ok (.iconst (-1), 1) := by decide +kernel
theorem d_Mo_span_37 : decode (am_c m_Mo_span) 37 = .ok (.goto 22, 3) := by decide +kernel
theorem d_Mo_span_40 : decode (am_c m_Mo_span) 40 = .ok (.iload_n 2, 1) := by decide +kernel
theorem d_Mo_span_41 : decode (am_c m_Mo_span) 41 = .ok (.ifCond .ne 12, 3) := by decide +kernel
theorem d_Mo_span_44 : decode (am_c m_Mo_span) 44 = .ok (.aload_n 0, 1) := by decide +kernel
theorem d_Mo_span_45 : decode (am_c m_Mo_span) 45 = .ok (.getfield 78, 3) := by decide +kernel
theorem d_Mo_span_48 : decode (am_c m_Mo_span) 48 = .ok (.iload_n 1, 1) := by decide +kernel
theorem d_Mo_span_49 : decode (am_c m_Mo_span) 49 = .ok (.iaload, 1) := by decide +kernel
theorem d_Mo_span_50 : decode (am_c m_Mo_span) 50 = .ok (.goto 9, 3) := by decide +kernel
theorem d_Mo_span_53 : decode (am_c m_Mo_span) 53 = .ok (.aload_n 0, 1) := by decide +kernel
theorem d_Mo_span_54 : decode (am_c m_Mo_span) 54 = .ok (.getfield 81, 3) := by decide +kernel
theorem d_Mo_span_57 : decode (am_c m_Mo_span) 57 = .ok (.iload_n 1, 1) := by decide +kernel
theorem d_Mo_span_58 : decode (am_c m_Mo_span) 58 = .ok (.iaload, 1) := by decide +kernel
theorem d_Mo_span_59 : decode (am_c m_Mo_span) 59 = .ok (.ireturn, 1) := by decide +kernel
theorem d_Mo_findRays_0 : decode (am_c m_Mo_findRays) 0 = .ok (.aload_n 0, 1) := by decide +kernel
theorem d_Mo_findRays_1 : decode (am_c m_Mo_findRays) 1 = .ok (.aload_n 0, 1) := by decide +kernel
theorem d_Mo_findRays_2 : decode (am_c m_Mo_findRays) 2 = .ok (.getfield 174, 3) := by decide +kernel
theorem d_Mo_findRays_5 : decode (am_c m_Mo_findRays) 5 = .ok (.invokevirtual 196, 3) := by decide +kernel
theorem d_Mo_findRays_8 : decode (am_c m_Mo_findRays) 8 = .ok (.iconst 0, 1) := by decide +kernel
theorem d_Mo_findRays_9 : decode (am_c m_Mo_findRays) 9 = .ok (.istore_n 1, 1) := by decide +kernel
theorem d_Mo_findRays_10 : decode (am_c m_Mo_findRays) 10 = .ok (.iload_n 1, 1) := by decide +kernel
theorem d_Mo_findRays_11 : decode (am_c m_Mo_findRays) 11 = .ok (.aload_n 0, 1) := by decide +kernel
theorem d_Mo_findRays_12 : decode (am_c m_Mo_findRays) 12 = .ok (.getfield 132, 3) := by decide +kernel
theorem d_Mo_findRays_15 : decode (am_c m_Mo_findRays) 15 = .ok (.if_icmp .ge 45, 3) := by decide +kernel
theorem d_Mo_findRays_18 : decode (am_c m_Mo_findRays) 18 = .ok (.aload_n 0, 1) := by decide +kernel
theorem d_Mo_findRays_19 : decode (am_c m_Mo_findRays) 19 = .ok (.getfield 44, 3) := by decide +kernel
theorem d_Mo_findRays_22 : decode (am_c m_Mo_findRays) 22 = .ok (.iload_n 1, 1) := by decide +kernel
theorem d_Mo_findRays_23 : decode (am_c m_Mo_findRays) 23 = .ok (.iaload, 1) := by decide +kernel
theorem d_Mo_findRays_24 : decode (am_c m_Mo_findRays) 24 = .ok (.ifCond .ne 30, 3) := by decide +kernel
theorem d_Mo_findRays_27 : decode (am_c m_Mo_findRays) 27 = .ok (.aload_n 0, 1) := by decide +kernel
theorem d_Mo_findRays_28 : decode (am_c m_Mo_findRays) 28 = .ok (.aload_n 0, 1) := by decide +kernel
theorem d_Mo_findRays_29 : decode (am_c m_Mo_findRays) 29 = .ok (.getfield 32, 3) := by decide +kernel
theorem d_Mo_findRays_32 : decode (am_c m_Mo_findRays) 32 = .ok (.aload_n 0, 1) := by decide +kernel
theorem d_Mo_findRays_33 : decode (am_c m_Mo_findRays) 33 = .ok (.getfield 41, 3) := by decide +kernel
theorem d_Mo_findRays_36 : decode (am_c m_Mo_findRays) 36 = .ok (.iload_n 1, 1) := by decide +kernel
theorem d_Mo_findRays_37 : decode (am_c m_Mo_findRays) 37 = .ok (.iaload, 1) := by decide +kernel
theorem d_Mo_findRays_38 : decode (am_c m_Mo_findRays) 38 = .ok (.iaload, 1) := by decide +kernel
theorem d_Mo_findRays_39 : decode (am_c m_Mo_findRays) 39 = .ok (.aload_n 0, 1) := by decide +kernel
theorem d_Mo_findRays_40 : decode (am_c m_Mo_findRays) 40 = .ok (.getfield 26, 3) := by decide +kernel
theorem d_Mo_findRays_43 : decode (am_c m_Mo_findRays) 43 = .ok (.aload_n 0, 1) := by decide +kernel
theorem d_Mo_findRays_44 : decode (am_c m_Mo_findRays) 44 = .ok (.getfield 38, 3) := by decide +kernel
theorem d_Mo_findRays_47 : decode (am_c m_Mo_findRays) 47 = .ok (.iload_n 1, 1) := by decide +kernel
theorem d_Mo_findRays_48 : decode (am_c m_Mo_findRays) 48 = .ok (.iaload, 1) := by decide +kernel
theorem d_Mo_findRays_49 : decode (am_c m_Mo_findRays) 49 = .ok (.iaload, 1) := by decide +kernel
theorem d_Mo_findRays_50 : decode (am_c m_Mo_findRays) 50 = .ok (.iload_n 1, 1) := by decide +kernel
theorem d_Mo_findRays_51 : decode (am_c m_Mo_findRays) 51 = .ok (.invokevirtual 209, 3) := by decide +kernel
theorem d_Mo_findRays_54 : decode (am_c m_Mo_findRays) 54 = .ok (.iinc 1 1, 3) := by decide +kernel
theorem d_Mo_findRays_57 : decode (am_c m_Mo_findRays) 57 = .ok (.goto (-47), 3) := by decide +kernel
theorem d_Mo_findRays_60 : decode (am_c m_Mo_findRays) 60 = .ok (.return_, 1) := by decide +kernel
theorem d_Mo_layRays_0 : decode (am_c m_Mo_layRays) 0 = .ok (.iconst 0, 1) := by decide +kernel
theorem d_Mo_layRays_1 : decode (am_c m_Mo_layRays) 1 = .ok (.istore 4, 2) := by decide +kernel
theorem d_Mo_layRays_3 : decode (am_c m_Mo_layRays) 3 = .ok (.iload 4, 2) := by decide +kernel
theorem d_Mo_layRays_5 : decode (am_c m_Mo_layRays) 5 = .ok (.bipush 8, 2) := by decide +kernel
theorem d_Mo_layRays_7 : decode (am_c m_Mo_layRays) 7 = .ok (.if_icmp .ge 22, 3) := by decide +kernel
theorem d_Mo_layRays_10 : decode (am_c m_Mo_layRays) 10 = .ok (.aload_n 0, 1) := by decide +kernel
theorem d_Mo_layRays_11 : decode (am_c m_Mo_layRays) 11 = .ok (.getfield 75, 3) := by decide +kernel
theorem d_Mo_layRays_14 : decode (am_c m_Mo_layRays) 14 = .ok (.bipush 8, 2) := by decide +kernel
theorem d_Mo_layRays_16 : decode (am_c m_Mo_layRays) 16 = .ok (.iload_n 3, 1) := by decide +kernel
theorem d_Mo_layRays_17 : decode (am_c m_Mo_layRays) 17 = .ok (.imul, 1) := by decide +kernel
theorem d_Mo_layRays_18 : decode (am_c m_Mo_layRays) 18 = .ok (.iload 4, 2) := by decide +kernel
theorem d_Mo_layRays_20 : decode (am_c m_Mo_layRays) 20 = .ok (.iadd, 1) := by decide +kernel
theorem d_Mo_layRays_21 : decode (am_c m_Mo_layRays) 21 = .ok (.iconst 0, 1) := by decide +kernel
theorem d_Mo_layRays_22 : decode (am_c m_Mo_layRays) 22 = .ok (.iastore, 1) := by decide +kernel
theorem d_Mo_layRays_23 : decode (am_c m_Mo_layRays) 23 = .ok (.iinc 4 1, 3) := by decide +kernel
theorem d_Mo_layRays_26 : decode (am_c m_Mo_layRays) 26 = .ok (.goto (-23), 3) := by decide +kernel
theorem d_Mo_layRays_29 : decode (am_c m_Mo_layRays) 29 = .ok (.aload_n 0, 1) := by decide +kernel
theorem d_Mo_layRays_30 : decode (am_c m_Mo_layRays) 30 = .ok (.iload_n 2, 1) := by decide +kernel
theorem d_Mo_layRays_31 : decode (am_c m_Mo_layRays) 31 = .ok (.iconst 0, 1) := by decide +kernel
theorem d_Mo_layRays_32 : decode (am_c m_Mo_layRays) 32 = .ok (.invokevirtual 157, 3) := by decide +kernel
theorem d_Mo_layRays_35 : decode (am_c m_Mo_layRays) 35 = .ok (.iload_n 1, 1) := by decide +kernel
theorem d_Mo_layRays_36 : decode (am_c m_Mo_layRays) 36 = .ok (.istore 4, 2) := by decide +kernel
theorem d_Mo_layRays_38 : decode (am_c m_Mo_layRays) 38 = .ok (.iload 4, 2) := by decide +kernel
theorem d_Mo_layRays_40 : decode (am_c m_Mo_layRays) 40 = .ok (.iload_n 2, 1) := by decide +kernel
theorem d_Mo_layRays_41 : decode (am_c m_Mo_layRays) 41 = .ok (.if_icmp .eq 61, 3) := by decide +kernel
theorem d_Mo_layRays_44 : decode (am_c m_Mo_layRays) 44 = .ok (.aload_n 0, 1) := by decide +kernel
theorem d_Mo_layRays_45 : decode (am_c m_Mo_layRays) 45 = .ok (.iload 4, 2) := by decide +kernel
theorem d_Mo_layRays_47 : decode (am_c m_Mo_layRays) 47 = .ok (.iconst 0, 1) := by decide +kernel
theorem d_Mo_layRays_48 : decode (am_c m_Mo_layRays) 48 = .ok (.invokevirtual 165, 3) := by decide +kernel
theorem d_Mo_layRays_51 : decode (am_c m_Mo_layRays) 51 = .ok (.istore 5, 2) := by decide +kernel
theorem d_Mo_layRays_53 : decode (am_c m_Mo_layRays) 53 = .ok (.aload_n 0, 1) := by decide +kernel
theorem d_Mo_layRays_54 : decode (am_c m_Mo_layRays) 54 = .ok (.getfield 75, 3) := by decide +kernel
theorem d_Mo_layRays_57 : decode (am_c m_Mo_layRays) 57 = .ok (.bipush 8, 2) := by decide +kernel
theorem d_Mo_layRays_59 : decode (am_c m_Mo_layRays) 59 = .ok (.iload_n 3, 1) := by decide +kernel
theorem d_Mo_layRays_60 : decode (am_c m_Mo_layRays) 60 = .ok (.imul, 1) := by decide +kernel
theorem d_Mo_layRays_61 : decode (am_c m_Mo_layRays) 61 = .ok (.aload_n 0, 1) := by decide +kernel
theorem d_Mo_layRays_62 : decode (am_c m_Mo_layRays) 62 = .ok (.getfield 16, 3) := by decide +kernel
theorem d_Mo_layRays_65 : decode (am_c m_Mo_layRays) 65 = .ok (.iload 4, 2) := by decide +kernel
theorem d_Mo_layRays_67 : decode (am_c m_Mo_layRays) 67 = .ok (.iaload, 1) := by decide +kernel
theorem d_Mo_layRays_68 : decode (am_c m_Mo_layRays) 68 = .ok (.iadd, 1) := by decide +kernel
theorem d_Mo_layRays_69 : decode (am_c m_Mo_layRays) 69 = .ok (.dup2, 1) := by decide +kernel
theorem d_Mo_layRays_70 : decode (am_c m_Mo_layRays) 70 = .ok (.iaload, 1) := by decide +kernel
theorem d_Mo_layRays_71 : decode (am_c m_Mo_layRays) 71 = .ok (.iconst 1, 1) := by decide +kernel
theorem d_Mo_layRays_72 : decode (am_c m_Mo_layRays) 72 = .ok (.iadd, 1) := by decide +kernel
theorem d_Mo_layRays_73 : decode (am_c m_Mo_layRays) 73 = .ok (.iastore, 1) := by decide +kernel
theorem d_Mo_layRays_74 : decode (am_c m_Mo_layRays) 74 = .ok (.aload_n 0, 1) := by decide +kernel
theorem d_Mo_layRays_75 : decode (am_c m_Mo_layRays) 75 = .ok (.getfield 75, 3) := by decide +kernel
theorem d_Mo_layRays_78 : decode (am_c m_Mo_layRays) 78 = .ok (.bipush 8, 2) := by decide +kernel
theorem d_Mo_layRays_80 : decode (am_c m_Mo_layRays) 80 = .ok (.iload_n 3, 1) := by decide +kernel
theorem d_Mo_layRays_81 : decode (am_c m_Mo_layRays) 81 = .ok (.imul, 1) := by decide +kernel
theorem d_Mo_layRays_82 : decode (am_c m_Mo_layRays) 82 = .ok (.aload_n 0, 1) := by decide +kernel
theorem d_Mo_layRays_83 : decode (am_c m_Mo_layRays) 83 = .ok (.getfield 16, 3) := by decide +kernel
theorem d_Mo_layRays_86 : decode (am_c m_Mo_layRays) 86 = .ok (.iload 5, 2) := by decide +kernel
theorem d_Mo_layRays_88 : decode (am_c m_Mo_layRays) 88 = .ok (.iaload, 1) := by decide +kernel
theorem d_Mo_layRays_89 : decode (am_c m_Mo_layRays) 89 = .ok (.iadd, 1) := by decide +kernel
theorem d_Mo_layRays_90 : decode (am_c m_Mo_layRays) 90 = .ok (.dup2, 1) := by decide +kernel
theorem d_Mo_layRays_91 : decode (am_c m_Mo_layRays) 91 = .ok (.iaload, 1) := by decide +kernel
theorem d_Mo_layRays_92 : decode (am_c m_Mo_layRays) 92 = .ok (.iconst 1, 1) := by decide +kernel
theorem d_Mo_layRays_93 : decode (am_c m_Mo_layRays) 93 = .ok (.iadd, 1) := by decide +kernel
theorem d_Mo_layRays_94 : decode (am_c m_Mo_layRays) 94 = .ok (.iastore, 1) := by decide +kernel
theorem d_Mo_layRays_95 : decode (am_c m_Mo_layRays) 95 = .ok (.iload 5, 2) := by decide +kernel
theorem d_Mo_layRays_97 : decode (am_c m_Mo_layRays) 97 = .ok (.istore 4, 2) := by decide +kernel
theorem d_Mo_layRays_99 : decode (am_c m_Mo_layRays) 99 = .ok (.goto (-61), 3) := by decide +kernel
theorem d_Mo_layRays_102 : decode (am_c m_Mo_layRays) 102 = .ok (.return_, 1) := by decide +kernel
theorem d_Mo_press_0 : decode (am_c m_Mo_press) 0 = .ok (.iconst 0, 1) := by decide +kernel
theorem d_Mo_press_1 : decode (am_c m_Mo_press) 1 = .ok (.istore_n 2, 1) := by decide +kernel
theorem d_Mo_press_2 : decode (am_c m_Mo_press) 2 = .ok (.iload_n 2, 1) := by decide +kernel
theorem d_Mo_press_3 : decode (am_c m_Mo_press) 3 = .ok (.bipush 8, 2) := by decide +kernel
theorem d_Mo_press_5 : decode (am_c m_Mo_press) 5 = .ok (.if_icmp .ge 24, 3) := by decide +kernel
theorem d_Mo_press_8 : decode (am_c m_Mo_press) 8 = .ok (.aload_n 0, 1) := by decide +kernel
theorem d_Mo_press_9 : decode (am_c m_Mo_press) 9 = .ok (.getfield 78, 3) := by decide +kernel
theorem d_Mo_press_12 : decode (am_c m_Mo_press) 12 = .ok (.iload_n 2, 1) := by decide +kernel
theorem d_Mo_press_13 : decode (am_c m_Mo_press) 13 = .ok (.iconst 1, 1) := by decide +kernel
theorem d_Mo_press_14 : decode (am_c m_Mo_press) 14 = .ok (.iastore, 1) := by decide +kernel
theorem d_Mo_press_15 : decode (am_c m_Mo_press) 15 = .ok (.aload_n 0, 1) := by decide +kernel
theorem d_Mo_press_16 : decode (am_c m_Mo_press) 16 = .ok (.getfield 81, 3) := by decide +kernel
theorem d_Mo_press_19 : decode (am_c m_Mo_press) 19 = .ok (.iload_n 2, 1) := by decide +kernel
theorem d_Mo_press_20 : decode (am_c m_Mo_press) 20 = .ok (.bipush 60, 2) := by decide +kernel
theorem d_Mo_press_22 : decode (am_c m_Mo_press) 22 = .ok (.iastore, 1) := by decide +kernel
theorem d_Mo_press_23 : decode (am_c m_Mo_press) 23 = .ok (.iinc 2 1, 3) := by decide +kernel
theorem d_Mo_press_26 : decode (am_c m_Mo_press) 26 = .ok (.goto (-24), 3) := by decide +kernel
theorem d_Mo_press_29 : decode (am_c m_Mo_press) 29 = .ok (.iconst 1, 1) := by decide +kernel
theorem d_Mo_press_30 : decode (am_c m_Mo_press) 30 = .ok (.istore_n 2, 1) := by decide +kernel
theorem d_Mo_press_31 : decode (am_c m_Mo_press) 31 = .ok (.iload_n 2, 1) := by decide +kernel
theorem d_Mo_press_32 : decode (am_c m_Mo_press) 32 = .ok (.ifCond .eq 231, 3) := by decide +kernel
theorem d_Mo_press_35 : decode (am_c m_Mo_press) 35 = .ok (.iconst 0, 1) := by decide +kernel
theorem d_Mo_press_36 : decode (am_c m_Mo_press) 36 = .ok (.istore_n 2, 1) := by decide +kernel
theorem d_Mo_press_37 : decode (am_c m_Mo_press) 37 = .ok (.iconst 0, 1) := by decide +kernel
theorem d_Mo_press_38 : decode (am_c m_Mo_press) 38 = .ok (.istore_n 3, 1) := by decide +kernel
theorem d_Mo_press_39 : decode (am_c m_Mo_press) 39 = .ok (.iload_n 3, 1) := by decide +kernel
theorem d_Mo_press_40 : decode (am_c m_Mo_press) 40 = .ok (.aload_n 0, 1) := by decide +kernel
theorem d_Mo_press_41 : decode (am_c m_Mo_press) 41 = .ok (.getfield 132, 3) := by decide +kernel
theorem d_Mo_press_44 : decode (am_c m_Mo_press) 44 = .ok (.if_icmp .ge 216, 3) := by decide +kernel
theorem d_Mo_press_47 : decode (am_c m_Mo_press) 47 = .ok (.aload_n 0, 1) := by decide +kernel
theorem d_Mo_press_48 : decode (am_c m_Mo_press) 48 = .ok (.getfield 44, 3) := by decide +kernel
theorem d_Mo_press_51 : decode (am_c m_Mo_press) 51 = .ok (.iload_n 3, 1) := by decide +kernel
theorem d_Mo_press_52 : decode (am_c m_Mo_press) 52 = .ok (.iaload, 1) := by decide +kernel
theorem d_Mo_press_53 : decode (am_c m_Mo_press) 53 = .ok (.ifCond .ne 29, 3) := by decide +kernel
theorem d_Mo_press_56 : decode (am_c m_Mo_press) 56 = .ok (.aload_n 0, 1) := by decide +kernel
theorem d_Mo_press_57 : decode (am_c m_Mo_press) 57 = .ok (.getfield 35, 3) := by decide +kernel
theorem d_Mo_press_60 : decode (am_c m_Mo_press) 60 = .ok (.aload_n 0, 1) := by decide +kernel
theorem d_Mo_press_61 : decode (am_c m_Mo_press) 61 = .ok (.getfield 41, 3) := by decide +kernel
theorem d_Mo_press_64 : decode (am_c m_Mo_press) 64 = .ok (.iload_n 3, 1) := by decide +kernel
theorem d_Mo_press_65 : decode (am_c m_Mo_press) 65 = .ok (.iaload, 1) := by decide +kernel
theorem d_Mo_press_66 : decode (am_c m_Mo_press) 66 = .ok (.iaload, 1) := by decide +kernel
theorem d_Mo_press_67 : decode (am_c m_Mo_press) 67 = .ok (.aload_n 0, 1) := by decide +kernel
theorem d_Mo_press_68 : decode (am_c m_Mo_press) 68 = .ok (.getfield 29, 3) := by decide +kernel
theorem d_Mo_press_71 : decode (am_c m_Mo_press) 71 = .ok (.aload_n 0, 1) := by decide +kernel
theorem d_Mo_press_72 : decode (am_c m_Mo_press) 72 = .ok (.getfield 38, 3) := by decide +kernel
theorem d_Mo_press_75 : decode (am_c m_Mo_press) 75 = .ok (.iload_n 3, 1) := by decide +kernel
theorem d_Mo_press_76 : decode (am_c m_Mo_press) 76 = .ok (.iaload, 1) := by decide +kernel
theorem d_Mo_press_77 : decode (am_c m_Mo_press) 77 = .ok (.iaload, 1) := by decide +kernel
theorem d_Mo_press_78 : decode (am_c m_Mo_press) 78 = .ok (.iadd, 1) := by decide +kernel
theorem d_Mo_press_79 : decode (am_c m_Mo_press) 79 = .ok (.goto 4, 3) := by decide +kernel
theorem d_Mo_press_82 : decode (am_c m_Mo_press) 82 = .ok (.iconst 0, 1) := by decide +kernel
theorem d_Mo_press_83 : decode (am_c m_Mo_press) 83 = .ok (.istore 4, 2) := by decide +kernel
theorem d_Mo_press_85 : decode (am_c m_Mo_press) 85 = .ok (.iconst 0, 1) := by decide +kernel
theorem d_Mo_press_86 : decode (am_c m_Mo_press) 86 = .ok (.istore 5, 2) := by decide +kernel
theorem d_Mo_press_88 : decode (am_c m_Mo_press) 88 = .ok (.iload 5, 2) := by decide +kernel
theorem d_Mo_press_90 : decode (am_c m_Mo_press) 90 = .ok (.bipush 8, 2) := by decide +kernel
theorem d_Mo_press_92 : decode (am_c m_Mo_press) 92 = .ok (.if_icmp .ge 162, 3) := by decide +kernel
theorem d_Mo_press_95 : decode (am_c m_Mo_press) 95 = .ok (.iload_n 1, 1) := by decide +kernel
theorem d_Mo_press_96 : decode (am_c m_Mo_press) 96 = .ok (.iload_n 3, 1) := by decide +kernel
theorem d_Mo_press_97 : decode (am_c m_Mo_press) 97 = .ok (.ishr, 1) := by decide +kernel
theorem d_Mo_press_98 : decode (am_c m_Mo_press) 98 = .ok (.iconst 1, 1) := by decide +kernel
theorem d_Mo_press_99 : decode (am_c m_Mo_press) 99 = .ok (.iand, 1) := by decide +kernel
theorem d_Mo_press_100 : decode (am_c m_Mo_press) 100 = .ok (.iconst 1, 1) := by decide +kernel
theorem d_Mo_press_101 : decode (am_c m_Mo_press) 101 = .ok (.if_icmp .ne 153, 3) := by decide +kernel
theorem d_Mo_press_104 : decode (am_c m_Mo_press) 104 = .ok (.aload_n 0, 1) := by decide +kernel
theorem d_Mo_press_105 : decode (am_c m_Mo_press) 105 = .ok (.getfield 44, 3) := by decide +kernel
theorem d_Mo_press_108 : decode (am_c m_Mo_press) 108 = .ok (.iload_n 3, 1) := by decide +kernel
theorem d_Mo_press_109 : decode (am_c m_Mo_press) 109 = .ok (.iaload, 1) := by decide +kernel
theorem d_Mo_press_110 : decode (am_c m_Mo_press) 110 = .ok (.ifCond .ne 144, 3) := by decide +kernel
theorem d_Mo_press_113 : decode (am_c m_Mo_press) 113 = .ok (.aload_n 0, 1) := by decide +kernel
theorem d_Mo_press_114 : decode (am_c m_Mo_press) 114 = .ok (.getfield 75, 3) := by decide +kernel
theorem d_Mo_press_117 : decode (am_c m_Mo_press) 117 = .ok (.bipush 8, 2) := by decide +kernel
theorem d_Mo_press_119 : decode (am_c m_Mo_press) 119 = .ok (.iload_n 3, 1) := by decide +kernel
theorem d_Mo_press_120 : decode (am_c m_Mo_press) 120 = .ok (.imul, 1) := by decide +kernel
theorem d_Mo_press_121 : decode (am_c m_Mo_press) 121 = .ok (.iload 5, 2) := by decide +kernel
theorem d_Mo_press_123 : decode (am_c m_Mo_press) 123 = .ok (.iadd, 1) := by decide +kernel
theorem d_Mo_press_124 : decode (am_c m_Mo_press) 124 = .ok (.iaload, 1) := by decide +kernel
theorem d_Mo_press_125 : decode (am_c m_Mo_press) 125 = .ok (.istore 6, 2) := by decide +kernel
theorem d_Mo_press_127 : decode (am_c m_Mo_press) 127 = .ok (.iload 6, 2) := by decide +kernel
theorem d_Mo_press_129 : decode (am_c m_Mo_press) 129 = .ok (.ifCond .le 119, 3) := by decide +kernel
theorem d_Mo_press_132 : decode (am_c m_Mo_press) 132 = .ok (.aload_n 0, 1) := by decide +kernel
theorem d_Mo_press_133 : decode (am_c m_Mo_press) 133 = .ok (.getfield 62, 3) := by decide +kernel
theorem d_Mo_press_136 : decode (am_c m_Mo_press) 136 = .ok (.iload_n 3, 1) := by decide +kernel
theorem d_Mo_press_137 : decode (am_c m_Mo_press) 137 = .ok (.iaload, 1) := by decide +kernel
theorem d_Mo_press_138 : decode (am_c m_Mo_press) 138 = .ok (.iload 4, 2) := by decide +kernel
theorem d_Mo_press_140 : decode (am_c m_Mo_press) 140 = .ok (.isub, 1) := by decide +kernel
theorem d_Mo_press_141 : decode (am_c m_Mo_press) 141 = .ok (.aload_n 0, 1) := by decide +kernel
theorem d_Mo_press_142 : decode (am_c m_Mo_press) 142 = .ok (.iload_n 3, 1) := by decide +kernel
theorem d_Mo_press_143 : decode (am_c m_Mo_press) 143 = .ok (.iload 5, 2) := by decide +kernel
theorem d_Mo_press_145 : decode (am_c m_Mo_press) 145 = .ok (.iconst 1, 1) := by decide +kernel
theorem d_Mo_press_146 : decode (am_c m_Mo_press) 146 = .ok (.invokevirtual 212, 3) := by decide +kernel
theorem d_Mo_press_149 : decode (am_c m_Mo_press) 149 = .ok (.isub, 1) := by decide +kernel
theorem d_Mo_press_150 : decode (am_c m_Mo_press) 150 = .ok (.iload 6, 2) := by decide +kernel
theorem d_Mo_press_152 : decode (am_c m_Mo_press) 152 = .ok (.invokestatic 216, 3) := by decide +kernel
theorem d_Mo_press_155 : decode (am_c m_Mo_press) 155 = .ok (.istore 7, 2) := by decide +kernel
theorem d_Mo_press_157 : decode (am_c m_Mo_press) 157 = .ok (.iload 7, 2) := by decide +kernel
theorem d_Mo_press_159 : decode (am_c m_Mo_press) 159 = .ok (.aload_n 0, 1) := by decide +kernel
theorem d_Mo_press_160 : decode (am_c m_Mo_press) 160 = .ok (.getfield 81, 3) := by decide +kernel
theorem d_Mo_press_163 : decode (am_c m_Mo_press) 163 = .ok (.iload 5, 2) := by decide +kernel
theorem d_Mo_press_165 : decode (am_c m_Mo_press) 165 = .ok (.iaload, 1) := by decide +kernel
theorem d_Mo_press_166 : decode (am_c m_Mo_press) 166 = .ok (.if_icmp .ge 14, 3) := by decide +kernel
theorem d_Mo_press_169 : decode (am_c m_Mo_press) 169 = .ok (.aload_n 0, 1) := by decide +kernel
theorem d_Mo_press_170 : decode (am_c m_Mo_press) 170 = .ok (.getfield 81, 3) := by decide +kernel
theorem d_Mo_press_173 : decode (am_c m_Mo_press) 173 = .ok (.iload 5, 2) := by decide +kernel
theorem d_Mo_press_175 : decode (am_c m_Mo_press) 175 = .ok (.iload 7, 2) := by decide +kernel
theorem d_Mo_press_177 : decode (am_c m_Mo_press) 177 = .ok (.iastore, 1) := by decide +kernel
theorem d_Mo_press_178 : decode (am_c m_Mo_press) 178 = .ok (.iconst 1, 1) := by decide +kernel
theorem d_Mo_press_179 : decode (am_c m_Mo_press) 179 = .ok (.istore_n 2, 1) := by decide +kernel
theorem d_Mo_press_180 : decode (am_c m_Mo_press) 180 = .ok (.aload_n 0, 1) := by decide +kernel
theorem d_Mo_press_181 : decode (am_c m_Mo_press) 181 = .ok (.iload_n 3, 1) := by decide +kernel
theorem d_Mo_press_182 : decode (am_c m_Mo_press) 182 = .ok (.iload 5, 2) := by decide +kernel
theorem d_Mo_press_184 : decode (am_c m_Mo_press) 184 = .ok (.iconst 0, 1) := by decide +kernel
theorem d_Mo_press_185 : decode (am_c m_Mo_press) 185 = .ok (.invokevirtual 212, 3) := by decide +kernel
theorem d_Mo_press_188 : decode (am_c m_Mo_press) 188 = .ok (.aload_n 0, 1) := by decide +kernel
theorem d_Mo_press_189 : decode (am_c m_Mo_press) 189 = .ok (.getfield 59, 3) := by decide +kernel
theorem d_Mo_press_192 : decode (am_c m_Mo_press) 192 = .ok (.iload_n 3, 1) := by decide +kernel
theorem d_Mo_press_193 : decode (am_c m_Mo_press) 193 = .ok (.iaload, 1) := by decide +kernel
theorem d_Mo_press_194 : decode (am_c m_Mo_press) 194 = .ok (.isub, 1) := by decide +kernel
theorem d_Mo_press_195 : decode (am_c m_Mo_press) 195 = .ok (.iload 4, 2) := by decide +kernel
theorem d_Mo_press_197 : decode (am_c m_Mo_press) 197 = .ok (.iadd, 1) := by decide +kernel
theorem d_Mo_press_198 : decode (am_c m_Mo_press) 198 = .ok (.iload 6, 2) := by decide +kernel
theorem d_Mo_press_200 : decode (am_c m_Mo_press) 200 = .ok (.invokestatic 216, 3) := by decide +kernel
theorem d_Mo_press_203 : decode (am_c m_Mo_press) 203 = .ok (.ineg, 1) := by decide +kernel
theorem d_Mo_press_204 : decode (am_c m_Mo_press) 204 = .ok (.istore 8, 2) := by decide +kernel
theorem d_Mo_press_206 : decode (am_c m_Mo_press) 206 = .ok (.iload 8, 2) := by decide +kernel
theorem d_Mo_press_208 : decode (am_c m_Mo_press) 208 = .ok (.aload_n 0, 1) := by decide +kernel
theorem d_Mo_press_209 : decode (am_c m_Mo_press) 209 = .ok (.getfield 78, 3) := by decide +kernel
theorem d_Mo_press_212 : decode (am_c m_Mo_press) 212 = .ok (.iload 5, 2) := by decide +kernel
theorem d_Mo_press_214 : decode (am_c m_Mo_press) 214 = .ok (.iaload, 1) := by decide +kernel
theorem d_Mo_press_215 : decode (am_c m_Mo_press) 215 = .ok (.if_icmp .le 14, 3) := by decide +kernel
theorem d_Mo_press_218 : decode (am_c m_Mo_press) 218 = .ok (.aload_n 0, 1) := by decide +kernel
theorem d_Mo_press_219 : decode (am_c m_Mo_press) 219 = .ok (.getfield 78, 3) := by decide +kernel
theorem d_Mo_press_222 : decode (am_c m_Mo_press) 222 = .ok (.iload 5, 2) := by decide +kernel
theorem d_Mo_press_224 : decode (am_c m_Mo_press) 224 = .ok (.iload 8, 2) := by decide +kernel
theorem d_Mo_press_226 : decode (am_c m_Mo_press) 226 = .ok (.iastore, 1) := by decide +kernel
theorem d_Mo_press_227 : decode (am_c m_Mo_press) 227 = .ok (.iconst 1, 1) := by decide +kernel
theorem d_Mo_press_228 : decode (am_c m_Mo_press) 228 = .ok (.istore_n 2, 1) := by decide +kernel
theorem d_Mo_press_229 : decode (am_c m_Mo_press) 229 = .ok (.aload_n 0, 1) := by decide +kernel
theorem d_Mo_press_230 : decode (am_c m_Mo_press) 230 = .ok (.getfield 78, 3) := by decide +kernel
theorem d_Mo_press_233 : decode (am_c m_Mo_press) 233 = .ok (.iload 5, 2) := by decide +kernel
theorem d_Mo_press_235 : decode (am_c m_Mo_press) 235 = .ok (.iaload, 1) := by decide +kernel
theorem d_Mo_press_236 : decode (am_c m_Mo_press) 236 = .ok (.aload_n 0, 1) := by decide +kernel
theorem d_Mo_press_237 : decode (am_c m_Mo_press) 237 = .ok (.getfield 81, 3) := by decide +kernel
theorem d_Mo_press_240 : decode (am_c m_Mo_press) 240 = .ok (.iload 5, 2) := by decide +kernel
theorem d_Mo_press_242 : decode (am_c m_Mo_press) 242 = .ok (.iaload, 1) := by decide +kernel
theorem d_Mo_press_243 : decode (am_c m_Mo_press) 243 = .ok (.if_icmp .le 5, 3) := by decide +kernel
theorem d_Mo_press_246 : decode (am_c m_Mo_press) 246 = .ok (.iconst 0, 1) := by decide +kernel
theorem d_Mo_press_247 : decode (am_c m_Mo_press) 247 = .ok (.ireturn, 1) := by decide +kernel
theorem d_Mo_press_248 : decode (am_c m_Mo_press) 248 = .ok (.iinc 5 1, 3) := by decide +kernel
theorem d_Mo_press_251 : decode (am_c m_Mo_press) 251 = .ok (.goto (-163), 3) := by decide +kernel
theorem d_Mo_press_254 : decode (am_c m_Mo_press) 254 = .ok (.iinc 3 1, 3) := by decide +kernel
theorem d_Mo_press_257 : decode (am_c m_Mo_press) 257 = .ok (.goto (-218), 3) := by decide +kernel
theorem d_Mo_press_260 : decode (am_c m_Mo_press) 260 = .ok (.goto (-229), 3) := by decide +kernel
theorem d_Mo_press_263 : decode (am_c m_Mo_press) 263 = .ok (.iconst 1, 1) := by decide +kernel
theorem d_Mo_press_264 : decode (am_c m_Mo_press) 264 = .ok (.ireturn, 1) := by decide +kernel
theorem d_Mo_others_0 : decode (am_c m_Mo_others) 0 = .ok (.iconst 0, 1) := by decide +kernel
theorem d_Mo_others_1 : decode (am_c m_Mo_others) 1 = .ok (.istore 4, 2) := by decide +kernel
theorem d_Mo_others_3 : decode (am_c m_Mo_others) 3 = .ok (.iconst 0, 1) := by decide +kernel
theorem d_Mo_others_4 : decode (am_c m_Mo_others) 4 = .ok (.istore 5, 2) := by decide +kernel
theorem d_Mo_others_6 : decode (am_c m_Mo_others) 6 = .ok (.iload 5, 2) := by decide +kernel
theorem d_Mo_others_8 : decode (am_c m_Mo_others) 8 = .ok (.bipush 8, 2) := by decide +kernel
theorem d_Mo_others_10 : decode (am_c m_Mo_others) 10 = .ok (.if_icmp .ge 58, 3) := by decide +kernel
theorem d_Mo_others_13 : decode (am_c m_Mo_others) 13 = .ok (.iload 4, 2) := by decide +kernel
theorem d_Mo_others_15 : decode (am_c m_Mo_others) 15 = .ok (.iload 5, 2) := by decide +kernel
theorem d_Mo_others_17 : decode (am_c m_Mo_others) 17 = .ok (.iload_n 2, 1) := by decide +kernel
theorem d_Mo_others_18 : decode (am_c m_Mo_others) 18 = .ok (.if_icmp .ne 7, 3) := by decide +kernel
theorem d_Mo_others_21 : decode (am_c m_Mo_others) 21 = .ok (.iconst 0, 1) := by decide +kernel
theorem d_Mo_others_22 : decode (am_c m_Mo_others) 22 = .ok (.goto 37, 3) := by decide +kernel
theorem d_Mo_others_25 : decode (am_c m_Mo_others) 25 = .ok (.aload_n 0, 1) := by decide +kernel
theorem d_Mo_others_26 : decode (am_c m_Mo_others) 26 = .ok (.getfield 75, 3) := by decide +kernel
theorem d_Mo_others_29 : decode (am_c m_Mo_others) 29 = .ok (.bipush 8, 2) := by decide +kernel
theorem d_Mo_others_31 : decode (am_c m_Mo_others) 31 = .ok (.iload_n 1, 1) := by decide +kernel
theorem d_Mo_others_32 : decode (am_c m_Mo_others) 32 = .ok (.imul, 1) := by decide +kernel
theorem d_Mo_others_33 : decode (am_c m_Mo_others) 33 = .ok (.iload 5, 2) := by decide +kernel
theorem d_Mo_others_35 : decode (am_c m_Mo_others) 35 = .ok (.iadd, 1) := by decide +kernel
theorem d_Mo_others_36 : decode (am_c m_Mo_others) 36 = .ok (.iaload, 1) := by decide +kernel
theorem d_Mo_others_37 : decode (am_c m_Mo_others) 37 = .ok (.iload_n 3, 1) := by decide +kernel
theorem d_Mo_others_38 : decode (am_c m_Mo_others) 38 = .ok (.ifCond .eq 13, 3) := by decide +kernel
theorem d_Mo_others_41 : decode (am_c m_Mo_others) 41 = .ok (.aload_n 0, 1) := by decide +kernel
theorem d_Mo_others_42 : decode (am_c m_Mo_others) 42 = .ok (.getfield 78, 3) := by decide +kernel
theorem d_Mo_others_45 : decode (am_c m_Mo_others) 45 = .ok (.iload 5, 2) := by decide +kernel
theorem d_Mo_others_47 : decode (am_c m_Mo_others) 47 = .ok (.iaload, 1) := by decide +kernel
theorem d_Mo_others_48 : decode (am_c m_Mo_others) 48 = .ok (.goto 10, 3) := by decide +kernel
theorem d_Mo_others_51 : decode (am_c m_Mo_others) 51 = .ok (.aload_n 0, 1) := by decide +kernel
theorem d_Mo_others_52 : decode (am_c m_Mo_others) 52 = .ok (.getfield 81, 3) := by decide +kernel
theorem d_Mo_others_55 : decode (am_c m_Mo_others) 55 = .ok (.iload 5, 2) := by decide +kernel
theorem d_Mo_others_57 : decode (am_c m_Mo_others) 57 = .ok (.iaload, 1) := by decide +kernel
theorem d_Mo_others_58 : decode (am_c m_Mo_others) 58 = .ok (.imul, 1) := by decide +kernel
theorem d_Mo_others_59 : decode (am_c m_Mo_others) 59 = .ok (.iadd, 1) := by decide +kernel
theorem d_Mo_others_60 : decode (am_c m_Mo_others) 60 = .ok (.istore 4, 2) := by decide +kernel
theorem d_Mo_others_62 : decode (am_c m_Mo_others) 62 = .ok (.iinc 5 1, 3) := by decide +kernel
theorem d_Mo_others_65 : decode (am_c m_Mo_others) 65 = .ok (.goto (-59), 3) := by decide +kernel
theorem d_Mo_others_68 : decode (am_c m_Mo_others) 68 = .ok (.iload 4, 2) := by decide +kernel
theorem d_Mo_others_70 : decode (am_c m_Mo_others) 70 = .ok (.ireturn, 1) := by decide +kernel
theorem d_Mo_floorOf_0 : decode (am_c m_Mo_floorOf) 0 = .ok (.iload_n 0, 1) := by decide +kernel
theorem d_Mo_floorOf_1 : decode (am_c m_Mo_floorOf) 1 = .ok (.iload_n 1, 1) := by decide +kernel
theorem d_Mo_floorOf_2 : decode (am_c m_Mo_floorOf) 2 = .ok (.idiv, 1) := by decide +kernel
theorem d_Mo_floorOf_3 : decode (am_c m_Mo_floorOf) 3 = .ok (.istore_n 2, 1) := by decide +kernel
theorem d_Mo_floorOf_4 : decode (am_c m_Mo_floorOf) 4 = .ok (.iload_n 0, 1) := by decide +kernel
theorem d_Mo_floorOf_5 : decode (am_c m_Mo_floorOf) 5 = .ok (.iload_n 1, 1) := by decide +kernel
theorem d_Mo_floorOf_6 : decode (am_c m_Mo_floorOf) 6 = .ok (.irem, 1) := by decide +kernel
theorem d_Mo_floorOf_7 : decode (am_c m_Mo_floorOf) 7 = .ok (.ifCond .eq 13, 3) := by decide +kernel
theorem d_Mo_floorOf_10 : decode (am_c m_Mo_floorOf) 10 = .ok (.iload_n 0, 1) := by decide +kernel
theorem d_Mo_floorOf_11 : decode (am_c m_Mo_floorOf) 11 = .ok (.ifCond .ge 9, 3) := by decide +kernel
theorem d_Mo_floorOf_14 : decode (am_c m_Mo_floorOf) 14 = .ok (.iload_n 2, 1) := by decide +kernel
theorem d_Mo_floorOf_15 : decode (am_c m_Mo_floorOf) 15 = .ok (.iconst 1, 1) := by decide +kernel
theorem d_Mo_floorOf_16 : decode (am_c m_Mo_floorOf) 16 = .ok (.isub, 1) := by decide +kernel
theorem d_Mo_floorOf_17 : decode (am_c m_Mo_floorOf) 17 = .ok (.goto 4, 3) := by decide +kernel
theorem d_Mo_floorOf_20 : decode (am_c m_Mo_floorOf) 20 = .ok (.iload_n 2, 1) := by decide +kernel
theorem d_Mo_floorOf_21 : decode (am_c m_Mo_floorOf) 21 = .ok (.ireturn, 1) := by decide +kernel
theorem d_Mo_quarrel_0 : decode (am_c m_Mo_quarrel) 0 = .ok (.aload_n 0, 1) := by decide +kernel
theorem d_Mo_quarrel_1 : decode (am_c m_Mo_quarrel) 1 = .ok (.invokevirtual 219, 3) := by decide +kernel
theorem d_Mo_quarrel_4 : decode (am_c m_Mo_quarrel) 4 = .ok (.iconst 0, 1) := by decide +kernel
theorem d_Mo_quarrel_5 : decode (am_c m_Mo_quarrel) 5 = .ok (.istore_n 1, 1) := by decide +kernel
theorem d_Mo_quarrel_6 : decode (am_c m_Mo_quarrel) 6 = .ok (.iconst 0, 1) := by decide +kernel
theorem d_Mo_quarrel_7 : decode (am_c m_Mo_quarrel) 7 = .ok (.istore_n 2, 1) := by decide +kernel
theorem d_Mo_quarrel_8 : decode (am_c m_Mo_quarrel) 8 = .ok (.iload_n 2, 1) := by decide +kernel
theorem d_Mo_quarrel_9 : decode (am_c m_Mo_quarrel) 9 = .ok (.aload_n 0, 1) := by decide +kernel
theorem d_Mo_quarrel_10 : decode (am_c m_Mo_quarrel) 10 = .ok (.getfield 132, 3) := by decide +kernel
theorem d_Mo_quarrel_13 : decode (am_c m_Mo_quarrel) 13 = .ok (.if_icmp .ge 28, 3) := by decide +kernel
theorem d_Mo_quarrel_16 : decode (am_c m_Mo_quarrel) 16 = .ok (.iload_n 1, 1) := by decide +kernel
theorem d_Mo_quarrel_17 : decode (am_c m_Mo_quarrel) 17 = .ok (.aload_n 0, 1) := by decide +kernel
theorem d_Mo_quarrel_18 : decode (am_c m_Mo_quarrel) 18 = .ok (.getfield 44, 3) := by decide +kernel
theorem d_Mo_quarrel_21 : decode (am_c m_Mo_quarrel) 21 = .ok (.iload_n 2, 1) := by decide +kernel
theorem d_Mo_quarrel_22 : decode (am_c m_Mo_quarrel) 22 = .ok (.iaload, 1) := by decide +kernel
theorem d_Mo_quarrel_23 : decode (am_c m_Mo_quarrel) 23 = .ok (.ifCond .ne 9, 3) := by decide +kernel
theorem d_Mo_quarrel_26 : decode (am_c m_Mo_quarrel) 26 = .ok (.iconst 1, 1) := by decide +kernel
theorem d_Mo_quarrel_27 : decode (am_c m_Mo_quarrel) 27 = .ok (.iload_n 2, 1) := by decide +kernel
theorem d_Mo_quarrel_28 : decode (am_c m_Mo_quarrel) 28 = .ok (.ishl, 1) := by decide +kernel
theorem d_Mo_quarrel_29 : decode (am_c m_Mo_quarrel) 29 = .ok (.goto 4, 3) := by decide +kernel
theorem d_Mo_quarrel_32 : decode (am_c m_Mo_quarrel) 32 = .ok (.iconst 0, 1) := by decide +kernel
theorem d_Mo_quarrel_33 : decode (am_c m_Mo_quarrel) 33 = .ok (.ior, 1) := by decide +kernel
theorem d_Mo_quarrel_34 : decode (am_c m_Mo_quarrel) 34 = .ok (.istore_n 1, 1) := by decide +kernel
theorem d_Mo_quarrel_35 : decode (am_c m_Mo_quarrel) 35 = .ok (.iinc 2 1, 3) := by decide +kernel
theorem d_Mo_quarrel_38 : decode (am_c m_Mo_quarrel) 38 = .ok (.goto (-30), 3) := by decide +kernel
theorem d_Mo_quarrel_41 : decode (am_c m_Mo_quarrel) 41 = .ok (.iconst 0, 1) := by decide +kernel
theorem d_Mo_quarrel_42 : decode (am_c m_Mo_quarrel) 42 = .ok (.istore_n 2, 1) := by decide +kernel
theorem d_Mo_quarrel_43 : decode (am_c m_Mo_quarrel) 43 = .ok (.iconst 1, 1) := by decide +kernel
theorem d_Mo_quarrel_44 : decode (am_c m_Mo_quarrel) 44 = .ok (.istore_n 3, 1) := by decide +kernel
theorem d_Mo_quarrel_45 : decode (am_c m_Mo_quarrel) 45 = .ok (.iload_n 3, 1) := by decide +kernel
theorem d_Mo_quarrel_46 : decode (am_c m_Mo_quarrel) 46 = .ok (.iload_n 1, 1) := by decide +kernel
theorem d_Mo_quarrel_47 : decode (am_c m_Mo_quarrel) 47 = .ok (.if_icmp .gt 42, 3) := by decide +kernel
theorem d_Mo_quarrel_50 : decode (am_c m_Mo_quarrel) 50 = .ok (.iload_n 3, 1) := by decide +kernel
theorem d_Mo_quarrel_51 : decode (am_c m_Mo_quarrel) 51 = .ok (.iload_n 1, 1) := by decide +kernel
theorem d_Mo_quarrel_52 : decode (am_c m_Mo_quarrel) 52 = .ok (.iconst (-1), 1) := by decide +kernel
theorem d_Mo_quarrel_53 : decode (am_c m_Mo_quarrel) 53 = .ok (.ixor, 1) := by decide +kernel
theorem d_Mo_quarrel_54 : decode (am_c m_Mo_quarrel) 54 = .ok (.iand, 1) := by decide +kernel
theorem d_Mo_quarrel_55 : decode (am_c m_Mo_quarrel) 55 = .ok (.ifCond .ne 28, 3) := by decide +kernel
theorem d_Mo_quarrel_58 : decode (am_c m_Mo_quarrel) 58 = .ok (.iload_n 2, 1) := by decide +kernel
theorem d_Mo_quarrel_59 : decode (am_c m_Mo_quarrel) 59 = .ok (.ifCond .eq 14, 3) := by decide +kernel
theorem d_Mo_quarrel_62 : decode (am_c m_Mo_quarrel) 62 = .ok (.iload_n 3, 1) := by decide +kernel
theorem d_Mo_quarrel_63 : decode (am_c m_Mo_quarrel) 63 = .ok (.invokestatic 225, 3) := by decide +kernel
theorem d_Mo_quarrel_66 : decode (am_c m_Mo_quarrel) 66 = .ok (.iload_n 2, 1) := by decide +kernel
theorem d_Mo_quarrel_67 : decode (am_c m_Mo_quarrel) 67 = .ok (.invokestatic 225, 3) := by decide +kernel
theorem d_Mo_quarrel_70 : decode (am_c m_Mo_quarrel) 70 = .ok (.if_icmp .ge 13, 3) := by decide +kernel
theorem d_Mo_quarrel_73 : decode (am_c m_Mo_quarrel) 73 = .ok (.aload_n 0, 1) := by decide +kernel
theorem d_Mo_quarrel_74 : decode (am_c m_Mo_quarrel) 74 = .ok (.iload_n 3, 1) := by decide +kernel
theorem d_Mo_quarrel_75 : decode (am_c m_Mo_quarrel) 75 = .ok (.invokevirtual 222, 3) := by decide +kernel
theorem d_Mo_quarrel_78 : decode (am_c m_Mo_quarrel) 78 = .ok (.ifCond .ne 5, 3) := by decide +kernel
theorem d_Mo_quarrel_81 : decode (am_c m_Mo_quarrel) 81 = .ok (.iload_n 3, 1) := by decide +kernel
theorem d_Mo_quarrel_82 : decode (am_c m_Mo_quarrel) 82 = .ok (.istore_n 2, 1) := by decide +kernel
theorem d_Mo_quarrel_83 : decode (am_c m_Mo_quarrel) 83 = .ok (.iinc 3 1, 3) := by decide +kernel
theorem d_Mo_quarrel_86 : decode (am_c m_Mo_quarrel) 86 = .ok (.goto (-41), 3) := by decide +kernel
theorem d_Mo_quarrel_89 : decode (am_c m_Mo_quarrel) 89 = .ok (.iload_n 2, 1) := by decide +kernel
theorem d_Mo_quarrel_90 : decode (am_c m_Mo_quarrel) 90 = .ok (.ireturn, 1) := by decide +kernel
theorem d_Mo_bits_0 : decode (am_c m_Mo_bits) 0 = .ok (.iconst 0, 1) := by decide +kernel
theorem d_Mo_bits_1 : decode (am_c m_Mo_bits) 1 = .ok (.istore_n 1, 1) := by decide +kernel
theorem d_Mo_bits_2 : decode (am_c m_Mo_bits) 2 = .ok (.iconst 0, 1) := by decide +kernel
theorem d_Mo_bits_3 : decode (am_c m_Mo_bits) 3 = .ok (.istore_n 2, 1) := by decide +kernel
theorem d_Mo_bits_4 : decode (am_c m_Mo_bits) 4 = .ok (.iload_n 2, 1) := by decide +kernel
theorem d_Mo_bits_5 : decode (am_c m_Mo_bits) 5 = .ok (.bipush 16, 2) := by decide +kernel
theorem d_Mo_bits_7 : decode (am_c m_Mo_bits) 7 = .ok (.if_icmp .ge 17, 3) := by decide +kernel
theorem d_Mo_bits_10 : decode (am_c m_Mo_bits) 10 = .ok (.iload_n 1, 1) := by decide +kernel
theorem d_Mo_bits_11 : decode (am_c m_Mo_bits) 11 = .ok (.iload_n 0, 1) := by decide +kernel
theorem d_Mo_bits_12 : decode (am_c m_Mo_bits) 12 = .ok (.iload_n 2, 1) := by decide +kernel
theorem d_Mo_bits_13 : decode (am_c m_Mo_bits) 13 = .ok (.ishr, 1) := by decide +kernel
theorem d_Mo_bits_14 : decode (am_c m_Mo_bits) 14 = .ok (.iconst 1, 1) := by decide +kernel
theorem d_Mo_bits_15 : decode (am_c m_Mo_bits) 15 = .ok (.iand, 1) := by decide +kernel
theorem d_Mo_bits_16 : decode (am_c m_Mo_bits) 16 = .ok (.iadd, 1) := by decide +kernel
theorem d_Mo_bits_17 : decode (am_c m_Mo_bits) 17 = .ok (.istore_n 1, 1) := by decide +kernel
theorem d_Mo_bits_18 : decode (am_c m_Mo_bits) 18 = .ok (.iinc 2 1, 3) := by decide +kernel
theorem d_Mo_bits_21 : decode (am_c m_Mo_bits) 21 = .ok (.goto (-17), 3) := by decide +kernel
theorem d_Mo_bits_24 : decode (am_c m_Mo_bits) 24 = .ok (.iload_n 1, 1) := by decide +kernel
theorem d_Mo_bits_25 : decode (am_c m_Mo_bits) 25 = .ok (.ireturn, 1) := by decide +kernel
theorem d_Mo_rank_0 : decode (am_c m_Mo_rank) 0 = .ok (.aload_n 0, 1) := by decide +kernel
theorem d_Mo_rank_1 : decode (am_c m_Mo_rank) 1 = .ok (.invokevirtual 219, 3) := by decide +kernel
theorem d_Mo_rank_4 : decode (am_c m_Mo_rank) 4 = .ok (.aload_n 0, 1) := by decide +kernel
theorem d_Mo_rank_5 : decode (am_c m_Mo_rank) 5 = .ok (.aload_n 0, 1) := by decide +kernel
theorem d_Mo_rank_6 : decode (am_c m_Mo_rank) 6 = .ok (.invokevirtual 238, 3) := by decide +kernel
theorem d_Mo_rank_9 : decode (am_c m_Mo_rank) 9 = .ok (.invokevirtual 241, 3) := by decide +kernel
theorem d_Mo_rank_12 : decode (am_c m_Mo_rank) 12 = .ok (.ireturn, 1) := by decide +kernel
theorem d_Mo_layRows_0 : decode (am_c m_Mo_layRows) 0 = .ok (.iconst 0, 1) := by decide +kernel
theorem d_Mo_layRows_1 : decode (am_c m_Mo_layRows) 1 = .ok (.istore_n 1, 1) := by decide +kernel
theorem d_Mo_layRows_2 : decode (am_c m_Mo_layRows) 2 = .ok (.iconst 0, 1) := by decide +kernel
theorem d_Mo_layRows_3 : decode (am_c m_Mo_layRows) 3 = .ok (.istore_n 2, 1) := by decide +kernel
theorem d_Mo_layRows_4 : decode (am_c m_Mo_layRows) 4 = .ok (.iload_n 2, 1) := by decide +kernel
theorem d_Mo_layRows_5 : decode (am_c m_Mo_layRows) 5 = .ok (.aload_n 0, 1) := by decide +kernel
theorem d_Mo_layRows_6 : decode (am_c m_Mo_layRows) 6 = .ok (.getfield 132, 3) := by decide +kernel
theorem d_Mo_layRows_9 : decode (am_c m_Mo_layRows) 9 = .ok (.if_icmp .ge 58, 3) := by decide +kernel
theorem d_Mo_layRows_12 : decode (am_c m_Mo_layRows) 12 = .ok (.aload_n 0, 1) := by decide +kernel
theorem d_Mo_layRows_13 : decode (am_c m_Mo_layRows) 13 = .ok (.getfield 44, 3) := by decide +kernel
theorem d_Mo_layRows_16 : decode (am_c m_Mo_layRows) 16 = .ok (.iload_n 2, 1) := by decide +kernel
theorem d_Mo_layRows_17 : decode (am_c m_Mo_layRows) 17 = .ok (.iaload, 1) := by decide +kernel
theorem d_Mo_layRows_18 : decode (am_c m_Mo_layRows) 18 = .ok (.ifCond .ne 43, 3) := by decide +kernel
theorem d_Mo_layRows_21 : decode (am_c m_Mo_layRows) 21 = .ok (.iconst 0, 1) := by decide +kernel
theorem d_Mo_layRows_22 : decode (am_c m_Mo_layRows) 22 = .ok (.istore_n 3, 1) := by decide +kernel
theorem d_Mo_layRows_23 : decode (am_c m_Mo_layRows) 23 = .ok (.iload_n 3, 1) := by decide +kernel
theorem d_Mo_layRows_24 : decode (am_c m_Mo_layRows) 24 = .ok (.bipush 8, 2) := by decide +kernel
theorem d_Mo_layRows_26 : decode (am_c m_Mo_layRows) 26 = .ok (.if_icmp .ge 32, 3) := by decide +kernel
theorem d_Mo_layRows_29 : decode (am_c m_Mo_layRows) 29 = .ok (.aload_n 0, 1) := by decide +kernel
theorem d_Mo_layRows_30 : decode (am_c m_Mo_layRows) 30 = .ok (.getfield 84, 3) := by decide +kernel
theorem d_Mo_layRows_33 : decode (am_c m_Mo_layRows) 33 = .ok (.bipush 8, 2) := by decide +kernel
theorem d_Mo_layRows_35 : decode (am_c m_Mo_layRows) 35 = .ok (.iload_n 1, 1) := by decide +kernel
theorem d_Mo_layRows_36 : decode (am_c m_Mo_layRows) 36 = .ok (.imul, 1) := by decide +kernel
theorem d_Mo_layRows_37 : decode (am_c m_Mo_layRows) 37 = .ok (.iload_n 3, 1) := by decide +kernel
theorem d_Mo_layRows_38 : decode (am_c m_Mo_layRows) 38 = .ok (.iadd, 1) := by decide +kernel
theorem d_Mo_layRows_39 : decode (am_c m_Mo_layRows) 39 = .ok (.aload_n 0, 1) := by decide +kernel
theorem d_Mo_layRows_40 : decode (am_c m_Mo_layRows) 40 = .ok (.getfield 75, 3) := by decide +kernel
theorem d_Mo_layRows_43 : decode (am_c m_Mo_layRows) 43 = .ok (.bipush 8, 2) := by decide +kernel
theorem d_Mo_layRows_45 : decode (am_c m_Mo_layRows) 45 = .ok (.iload_n 2, 1) := by decide +kernel
theorem d_Mo_layRows_46 : decode (am_c m_Mo_layRows) 46 = .ok (.imul, 1) := by decide +kernel
theorem d_Mo_layRows_47 : decode (am_c m_Mo_layRows) 47 = .ok (.iload_n 3, 1) := by decide +kernel
theorem d_Mo_layRows_48 : decode (am_c m_Mo_layRows) 48 = .ok (.iadd, 1) := by decide +kernel
theorem d_Mo_layRows_49 : decode (am_c m_Mo_layRows) 49 = .ok (.iaload, 1) := by decide +kernel
theorem d_Mo_layRows_50 : decode (am_c m_Mo_layRows) 50 = .ok (.i2l, 1) := by decide +kernel
theorem d_Mo_layRows_51 : decode (am_c m_Mo_layRows) 51 = .ok (.lastore, 1) := by decide +kernel
theorem d_Mo_layRows_52 : decode (am_c m_Mo_layRows) 52 = .ok (.iinc 3 1, 3) := by decide +kernel
theorem d_Mo_layRows_55 : decode (am_c m_Mo_layRows) 55 = .ok (.goto (-32), 3) := by decide +kernel
theorem d_Mo_layRows_58 : decode (am_c m_Mo_layRows) 58 = .ok (.iinc 1 1, 3) := by decide +kernel
theorem d_Mo_layRows_61 : decode (am_c m_Mo_layRows) 61 = .ok (.iinc 2 1, 3) := by decide +kernel
theorem d_Mo_layRows_64 : decode (am_c m_Mo_layRows) 64 = .ok (.goto (-60), 3) := by decide +kernel
theorem d_Mo_layRows_67 : decode (am_c m_Mo_layRows) 67 = .ok (.iload_n 1, 1) := by decide +kernel
theorem d_Mo_layRows_68 : decode (am_c m_Mo_layRows) 68 = .ok (.ireturn, 1) := by decide +kernel
theorem d_Mo_rankOf_0 : decode (am_c m_Mo_rankOf) 0 = .ok (.iconst 0, 1) := by decide +kernel
theorem d_Mo_rankOf_1 : decode (am_c m_Mo_rankOf) 1 = .ok (.istore_n 2, 1) := by decide +kernel
theorem d_Mo_rankOf_2 : decode (am_c m_Mo_rankOf) 2 = .ok (.iconst 0, 1) := by decide +kernel
theorem d_Mo_rankOf_3 : decode (am_c m_Mo_rankOf) 3 = .ok (.istore_n 3, 1) := by decide +kernel
theorem d_Mo_rankOf_4 : decode (am_c m_Mo_rankOf) 4 = .ok (.iload_n 3, 1) := by decide +kernel
theorem d_Mo_rankOf_5 : decode (am_c m_Mo_rankOf) 5 = .ok (.bipush 8, 2) := by decide +kernel
theorem d_Mo_rankOf_7 : decode (am_c m_Mo_rankOf) 7 = .ok (.if_icmp .ge 240, 3) := by decide +kernel
theorem d_Mo_rankOf_10 : decode (am_c m_Mo_rankOf) 10 = .ok (.iload_n 2, 1) := by decide +kernel
theorem d_Mo_rankOf_11 : decode (am_c m_Mo_rankOf) 11 = .ok (.istore 4, 2) := by decide +kernel
theorem d_Mo_rankOf_13 : decode (am_c m_Mo_rankOf) 13 = .ok (.iload 4, 2) := by decide +kernel
theorem d_Mo_rankOf_15 : decode (am_c m_Mo_rankOf) 15 = .ok (.iload_n 1, 1) := by decide +kernel
theorem d_Mo_rankOf_16 : decode (am_c m_Mo_rankOf) 16 = .ok (.if_icmp .ge 26, 3) := by decide +kernel
theorem d_Mo_rankOf_19 : decode (am_c m_Mo_rankOf) 19 = .ok (.aload_n 0, 1) := by decide +kernel
theorem d_Mo_rankOf_20 : decode (am_c m_Mo_rankOf) 20 = .ok (.getfield 84, 3) := by decide +kernel
theorem d_Mo_rankOf_23 : decode (am_c m_Mo_rankOf) 23 = .ok (.bipush 8, 2) := by decide +kernel
theorem d_Mo_rankOf_25 : decode (am_c m_Mo_rankOf) 25 = .ok (.iload 4, 2) := by decide +kernel
theorem d_Mo_rankOf_27 : decode (am_c m_Mo_rankOf) 27 = .ok (.imul, 1) := by decide +kernel
theorem d_Mo_rankOf_28 : decode (am_c m_Mo_rankOf) 28 = .ok (.iload_n 3, 1) := by decide +kernel
theorem d_Mo_rankOf_29 : decode (am_c m_Mo_rankOf) 29 = .ok (.iadd, 1) := by decide +kernel
theorem d_Mo_rankOf_30 : decode (am_c m_Mo_rankOf) 30 = .ok (.laload, 1) := by decide +kernel
theorem d_Mo_rankOf_31 : decode (am_c m_Mo_rankOf) 31 = .ok (.lconst 0, 1) := by decide +kernel
theorem d_Mo_rankOf_32 : decode (am_c m_Mo_rankOf) 32 = .ok (.lcmp, 1) := by decide +kernel
theorem d_Mo_rankOf_33 : decode (am_c m_Mo_rankOf) 33 = .ok (.ifCond .ne 9, 3) := by decide +kernel
theorem d_Mo_rankOf_36 : decode (am_c m_Mo_rankOf) 36 = .ok (.iinc 4 1, 3) := by decide +kernel
theorem d_Mo_rankOf_39 : decode (am_c m_Mo_rankOf) 39 = .ok (.goto (-26), 3) := by decide +kernel
theorem d_Mo_rankOf_42 : decode (am_c m_Mo_rankOf) 42 = .ok (.iload 4, 2) := by decide +kernel
theorem d_Mo_rankOf_44 : decode (am_c m_Mo_rankOf) 44 = .ok (.iload_n 1, 1) := by decide +kernel
theorem d_Mo_rankOf_45 : decode (am_c m_Mo_rankOf) 45 = .ok (.if_icmp .ge 196, 3) := by decide +kernel
theorem d_Mo_rankOf_48 : decode (am_c m_Mo_rankOf) 48 = .ok (.iconst 0, 1) := by decide +kernel
theorem d_Mo_rankOf_49 : decode (am_c m_Mo_rankOf) 49 = .ok (.istore 5, 2) := by decide +kernel
theorem d_Mo_rankOf_51 : decode (am_c m_Mo_rankOf) 51 = .ok (.iload 5, 2) := by decide +kernel
theorem d_Mo_rankOf_53 : decode (am_c m_Mo_rankOf) 53 = .ok (.bipush 8, 2) := by decide +kernel
theorem d_Mo_rankOf_55 : decode (am_c m_Mo_rankOf) 55 = .ok (.if_icmp .ge 63, 3) := by decide +kernel
theorem d_Mo_rankOf_58 : decode (am_c m_Mo_rankOf) 58 = .ok (.aload_n 0, 1) := by decide +kernel
theorem d_Mo_rankOf_59 : decode (am_c m_Mo_rankOf) 59 = .ok (.getfield 84, 3) := by decide +kernel
theorem d_Mo_rankOf_62 : decode (am_c m_Mo_rankOf) 62 = .ok (.bipush 8, 2) := by decide +kernel
theorem d_Mo_rankOf_64 : decode (am_c m_Mo_rankOf) 64 = .ok (.iload 4, 2) := by decide +kernel
theorem d_Mo_rankOf_66 : decode (am_c m_Mo_rankOf) 66 = .ok (.imul, 1) := by decide +kernel
theorem d_Mo_rankOf_67 : decode (am_c m_Mo_rankOf) 67 = .ok (.iload 5, 2) := by decide +kernel
theorem d_Mo_rankOf_69 : decode (am_c m_Mo_rankOf) 69 = .ok (.iadd, 1) := by decide +kernel
theorem d_Mo_rankOf_70 : decode (am_c m_Mo_rankOf) 70 = .ok (.laload, 1) := by decide +kernel
theorem d_Mo_rankOf_71 : decode (am_c m_Mo_rankOf) 71 = .ok (.lstore 6, 2) := by decide +kernel
theorem d_Mo_rankOf_73 : decode (am_c m_Mo_rankOf) 73 = .ok (.aload_n 0, 1) := by decide +kernel
theorem d_Mo_rankOf_74 : decode (am_c m_Mo_rankOf) 74 = .ok (.getfield 84, 3) := by decide +kernel
theorem d_Mo_rankOf_77 : decode (am_c m_Mo_rankOf) 77 = .ok (.bipush 8, 2) := by decide +kernel
theorem d_Mo_rankOf_79 : decode (am_c m_Mo_rankOf) 79 = .ok (.iload 4, 2) := by decide +kernel
theorem d_Mo_rankOf_81 : decode (am_c m_Mo_rankOf) 81 = .ok (.imul, 1) := by decide +kernel
theorem d_Mo_rankOf_82 : decode (am_c m_Mo_rankOf) 82 = .ok (.iload 5, 2) := by decide +kernel
theorem d_Mo_rankOf_84 : decode (am_c m_Mo_rankOf) 84 = .ok (.iadd, 1) := by decide +kernel
theorem d_Mo_rankOf_85 : decode (am_c m_Mo_rankOf) 85 = .ok (.aload_n 0, 1) := by decide +kernel
theorem d_Mo_rankOf_86 : decode (am_c m_Mo_rankOf) 86 = .ok (.getfield 84, 3) := by decide +kernel
theorem d_Mo_rankOf_89 : decode (am_c m_Mo_rankOf) 89 = .ok (.bipush 8, 2) := by decide +kernel
theorem d_Mo_rankOf_91 : decode (am_c m_Mo_rankOf) 91 = .ok (.iload_n 2, 1) := by decide +kernel
theorem d_Mo_rankOf_92 : decode (am_c m_Mo_rankOf) 92 = .ok (.imul, 1) := by decide +kernel
theorem d_Mo_rankOf_93 : decode (am_c m_Mo_rankOf) 93 = .ok (.iload 5, 2) := by decide +kernel
theorem d_Mo_rankOf_95 : decode (am_c m_Mo_rankOf) 95 = .ok (.iadd, 1) := by decide +kernel
theorem d_Mo_rankOf_96 : decode (am_c m_Mo_rankOf) 96 = .ok (.laload, 1) := by decide +kernel
theorem d_Mo_rankOf_97 : decode (am_c m_Mo_rankOf) 97 = .ok (.lastore, 1) := by decide +kernel
theorem d_Mo_rankOf_98 : decode (am_c m_Mo_rankOf) 98 = .ok (.aload_n 0, 1) := by decide +kernel
theorem d_Mo_rankOf_99 : decode (am_c m_Mo_rankOf) 99 = .ok (.getfield 84, 3) := by decide +kernel
theorem d_Mo_rankOf_102 : decode (am_c m_Mo_rankOf) 102 = .ok (.bipush 8, 2) := by decide +kernel
theorem d_Mo_rankOf_104 : decode (am_c m_Mo_rankOf) 104 = .ok (.iload_n 2, 1) := by decide +kernel
theorem d_Mo_rankOf_105 : decode (am_c m_Mo_rankOf) 105 = .ok (.imul, 1) := by decide +kernel
theorem d_Mo_rankOf_106 : decode (am_c m_Mo_rankOf) 106 = .ok (.iload 5, 2) := by decide +kernel
theorem d_Mo_rankOf_108 : decode (am_c m_Mo_rankOf) 108 = .ok (.iadd, 1) := by decide +kernel
theorem d_Mo_rankOf_109 : decode (am_c m_Mo_rankOf) 109 = .ok (.lload 6, 2) := by decide +kernel
theorem d_Mo_rankOf_111 : decode (am_c m_Mo_rankOf) 111 = .ok (.lastore, 1) := by decide +kernel
theorem d_Mo_rankOf_112 : decode (am_c m_Mo_rankOf) 112 = .ok (.iinc 5 1, 3) := by decide +kernel
theorem d_Mo_rankOf_115 : decode (am_c m_Mo_rankOf) 115 = .ok (.goto (-64), 3) := by decide +kernel
theorem d_Mo_rankOf_118 : decode (am_c m_Mo_rankOf) 118 = .ok (.aload_n 0, 1) := by decide +kernel
theorem d_Mo_rankOf_119 : decode (am_c m_Mo_rankOf) 119 = .ok (.getfield 84, 3) := by decide +kernel
theorem d_Mo_rankOf_122 : decode (am_c m_Mo_rankOf) 122 = .ok (.bipush 8, 2) := by decide +kernel
theorem d_Mo_rankOf_124 : decode (am_c m_Mo_rankOf) 124 = .ok (.iload_n 2, 1) := by decide +kernel
theorem d_Mo_rankOf_125 : decode (am_c m_Mo_rankOf) 125 = .ok (.imul, 1) := by decide +kernel
theorem d_Mo_rankOf_126 : decode (am_c m_Mo_rankOf) 126 = .ok (.iload_n 3, 1) := by decide +kernel
theorem d_Mo_rankOf_127 : decode (am_c m_Mo_rankOf) 127 = .ok (.iadd, 1) := by decide +kernel
theorem d_Mo_rankOf_128 : decode (am_c m_Mo_rankOf) 128 = .ok (.laload, 1) := by decide +kernel
theorem d_Mo_rankOf_129 : decode (am_c m_Mo_rankOf) 129 = .ok (.invokestatic 234, 3) := by decide +kernel
theorem d_Mo_rankOf_132 : decode (am_c m_Mo_rankOf) 132 = .ok (.lstore 5, 2) := by decide +kernel
theorem d_Mo_rankOf_134 : decode (am_c m_Mo_rankOf) 134 = .ok (.iload_n 2, 1) := by decide +kernel
theorem d_Mo_rankOf_135 : decode (am_c m_Mo_rankOf) 135 = .ok (.iconst 1, 1) := by decide +kernel
theorem d_Mo_rankOf_136 : decode (am_c m_Mo_rankOf) 136 = .ok (.iadd, 1) := by decide +kernel
theorem d_Mo_rankOf_137 : decode (am_c m_Mo_rankOf) 137 = .ok (.istore 7, 2) := by decide +kernel
theorem d_Mo_rankOf_139 : decode (am_c m_Mo_rankOf) 139 = .ok (.iload 7, 2) := by decide +kernel
theorem d_Mo_rankOf_141 : decode (am_c m_Mo_rankOf) 141 = .ok (.iload_n 1, 1) := by decide +kernel
theorem d_Mo_rankOf_142 : decode (am_c m_Mo_rankOf) 142 = .ok (.if_icmp .ge 96, 3) := by decide +kernel
theorem d_Mo_rankOf_145 : decode (am_c m_Mo_rankOf) 145 = .ok (.aload_n 0, 1) := by decide +kernel
theorem d_Mo_rankOf_146 : decode (am_c m_Mo_rankOf) 146 = .ok (.getfield 84, 3) := by decide +kernel
theorem d_Mo_rankOf_149 : decode (am_c m_Mo_rankOf) 149 = .ok (.bipush 8, 2) := by decide +kernel
theorem d_Mo_rankOf_151 : decode (am_c m_Mo_rankOf) 151 = .ok (.iload 7, 2) := by decide +kernel
theorem d_Mo_rankOf_153 : decode (am_c m_Mo_rankOf) 153 = .ok (.imul, 1) := by decide +kernel
theorem d_Mo_rankOf_154 : decode (am_c m_Mo_rankOf) 154 = .ok (.iload_n 3, 1) := by decide +kernel
theorem d_Mo_rankOf_155 : decode (am_c m_Mo_rankOf) 155 = .ok (.iadd, 1) := by decide +kernel
theorem d_Mo_rankOf_156 : decode (am_c m_Mo_rankOf) 156 = .ok (.laload, 1) := by decide +kernel
theorem d_Mo_rankOf_157 : decode (am_c m_Mo_rankOf) 157 = .ok (.lload 5, 2) := by decide +kernel
theorem d_Mo_rankOf_159 : decode (am_c m_Mo_rankOf) 159 = .ok (.lmul, 1) := by decide +kernel
theorem d_Mo_rankOf_160 : decode (am_c m_Mo_rankOf) 160 = .ok (.ldc2_w 232, 3) := by decide +kernel
theorem d_Mo_rankOf_163 : decode (am_c m_Mo_rankOf) 163 = .ok (.lrem, 1) := by decide +kernel
theorem d_Mo_rankOf_164 : decode (am_c m_Mo_rankOf) 164 = .ok (.lstore 8, 2) := by decide +kernel
theorem d_Mo_rankOf_166 : decode (am_c m_Mo_rankOf) 166 = .ok (.iconst 0, 1) := by decide +kernel
theorem d_Mo_rankOf_167 : decode (am_c m_Mo_rankOf) 167 = .ok (.istore 10, 2) := by decide +kernel
theorem d_Mo_rankOf_169 : decode (am_c m_Mo_rankOf) 169 = .ok (.iload 10, 2) := by decide +kernel
theorem d_Mo_rankOf_171 : decode (am_c m_Mo_rankOf) 171 = .ok (.bipush 8, 2) := by decide +kernel
theorem d_Mo_rankOf_173 : decode (am_c m_Mo_rankOf) 173 = .ok (.if_icmp .ge 59, 3) := by decide +kernel
theorem d_Mo_rankOf_176 : decode (am_c m_Mo_rankOf) 176 = .ok (.aload_n 0, 1) := by decide +kernel
theorem d_Mo_rankOf_177 : decode (am_c m_Mo_rankOf) 177 = .ok (.getfield 84, 3) := by decide +kernel
theorem d_Mo_rankOf_180 : decode (am_c m_Mo_rankOf) 180 = .ok (.bipush 8, 2) := by decide +kernel
theorem d_Mo_rankOf_182 : decode (am_c m_Mo_rankOf) 182 = .ok (.iload 7, 2) := by decide +kernel
theorem d_Mo_rankOf_184 : decode (am_c m_Mo_rankOf) 184 = .ok (.imul, 1) := by decide +kernel
theorem d_Mo_rankOf_185 : decode (am_c m_Mo_rankOf) 185 = .ok (.iload 10, 2) := by decide +kernel
theorem d_Mo_rankOf_187 : decode (am_c m_Mo_rankOf) 187 = .ok (.iadd, 1) := by decide +kernel
theorem d_Mo_rankOf_188 : decode (am_c m_Mo_rankOf) 188 = .ok (.aload_n 0, 1) := by decide +kernel
theorem d_Mo_rankOf_189 : decode (am_c m_Mo_rankOf) 189 = .ok (.getfield 84, 3) := by decide +kernel
theorem d_Mo_rankOf_192 : decode (am_c m_Mo_rankOf) 192 = .ok (.bipush 8, 2) := by decide +kernel
theorem d_Mo_rankOf_194 : decode (am_c m_Mo_rankOf) 194 = .ok (.iload 7, 2) := by decide +kernel
theorem d_Mo_rankOf_196 : decode (am_c m_Mo_rankOf) 196 = .ok (.imul, 1) := by decide +kernel
theorem d_Mo_rankOf_197 : decode (am_c m_Mo_rankOf) 197 = .ok (.iload 10, 2) := by decide +kernel
theorem d_Mo_rankOf_199 : decode (am_c m_Mo_rankOf) 199 = .ok (.iadd, 1) := by decide +kernel
theorem d_Mo_rankOf_200 : decode (am_c m_Mo_rankOf) 200 = .ok (.laload, 1) := by decide +kernel
theorem d_Mo_rankOf_201 : decode (am_c m_Mo_rankOf) 201 = .ok (.ldc2_w 232, 3) := by decide +kernel
theorem d_Mo_rankOf_204 : decode (am_c m_Mo_rankOf) 204 = .ok (.lload 8, 2) := by decide +kernel
theorem d_Mo_rankOf_206 : decode (am_c m_Mo_rankOf) 206 = .ok (.lsub, 1) := by decide +kernel
theorem d_Mo_rankOf_207 : decode (am_c m_Mo_rankOf) 207 = .ok (.aload_n 0, 1) := by decide +kernel
theorem d_Mo_rankOf_208 : decode (am_c m_Mo_rankOf) 208 = .ok (.getfield 84, 3) := by decide +kernel
theorem d_Mo_rankOf_211 : decode (am_c m_Mo_rankOf) 211 = .ok (.bipush 8, 2) := by decide +kernel
theorem d_Mo_rankOf_213 : decode (am_c m_Mo_rankOf) 213 = .ok (.iload_n 2, 1) := by decide +kernel
theorem d_Mo_rankOf_214 : decode (am_c m_Mo_rankOf) 214 = .ok (.imul, 1) := by decide +kernel
theorem d_Mo_rankOf_215 : decode (am_c m_Mo_rankOf) 215 = .ok (.iload 10, 2) := by decide +kernel
theorem d_Mo_rankOf_217 : decode (am_c m_Mo_rankOf) 217 = .ok (.iadd, 1) := by decide +kernel
theorem d_Mo_rankOf_218 : decode (am_c m_Mo_rankOf) 218 = .ok (.laload, 1) := by decide +kernel
theorem d_Mo_rankOf_219 : decode (am_c m_Mo_rankOf) 219 = .ok (.lmul, 1) := by decide +kernel
theorem d_Mo_rankOf_220 : decode (am_c m_Mo_rankOf) 220 = .ok (.ladd, 1) := by decide +kernel
theorem d_Mo_rankOf_221 : decode (am_c m_Mo_rankOf) 221 = .ok (.ldc2_w 232, 3) := by decide +kernel
theorem d_Mo_rankOf_224 : decode (am_c m_Mo_rankOf) 224 = .ok (.lrem, 1) := by decide +kernel
theorem d_Mo_rankOf_225 : decode (am_c m_Mo_rankOf) 225 = .ok (.lastore, 1) := by decide +kernel
theorem d_Mo_rankOf_226 : decode (am_c m_Mo_rankOf) 226 = .ok (.iinc 10 1, 3) := by decide +kernel
theorem d_Mo_rankOf_229 : decode (am_c m_Mo_rankOf) 229 = .ok (.goto (-60), 3) := by decide +kernel
theorem d_Mo_rankOf_232 : decode (am_c m_Mo_rankOf) 232 = .ok (.iinc 7 1, 3) := by decide +kernel
theorem d_Mo_rankOf_235 : decode (am_c m_Mo_rankOf) 235 = .ok (.goto (-96), 3) := by decide +kernel
theorem d_Mo_rankOf_238 : decode (am_c m_Mo_rankOf) 238 = .ok (.iinc 2 1, 3) := by decide +kernel
theorem d_Mo_rankOf_241 : decode (am_c m_Mo_rankOf) 241 = .ok (.iinc 3 1, 3) := by decide +kernel
theorem d_Mo_rankOf_244 : decode (am_c m_Mo_rankOf) 244 = .ok (.goto (-240), 3) := by decide +kernel
theorem d_Mo_rankOf_247 : decode (am_c m_Mo_rankOf) 247 = .ok (.iload_n 2, 1) := by decide +kernel
theorem d_Mo_rankOf_248 : decode (am_c m_Mo_rankOf) 248 = .ok (.ireturn, 1) := by decide +kernel
theorem d_Mo_inverse_0 : decode (am_c m_Mo_inverse) 0 = .ok (.lconst 1, 1) := by decide +kernel
theorem d_Mo_inverse_1 : decode (am_c m_Mo_inverse) 1 = .ok (.lstore_n 2, 1) := by decide +kernel
theorem d_Mo_inverse_2 : decode (am_c m_Mo_inverse) 2 = .ok (.lload_n 0, 1) := by decide +kernel
theorem d_Mo_inverse_3 : decode (am_c m_Mo_inverse) 3 = .ok (.lstore 4, 2) := by decide +kernel
theorem d_Mo_inverse_5 : decode (am_c m_Mo_inverse) 5 = .ok (.ldc2_w 228, 3) := by decide +kernel
theorem d_Mo_inverse_8 : decode (am_c m_Mo_inverse) 8 = .ok (.lstore 6, 2) := by decide +kernel
theorem d_Mo_inverse_10 : decode (am_c m_Mo_inverse) 10 = .ok (.lload 6, 2) := by decide +kernel
theorem d_Mo_inverse_12 : decode (am_c m_Mo_inverse) 12 = .ok (.lconst 0, 1) := by decide +kernel
theorem d_Mo_inverse_13 : decode (am_c m_Mo_inverse) 13 = .ok (.lcmp, 1) := by decide +kernel
theorem d_Mo_inverse_14 : decode (am_c m_Mo_inverse) 14 = .ok (.ifCond .le 49, 3) := by decide +kernel
theorem d_Mo_inverse_17 : decode (am_c m_Mo_inverse) 17 = .ok (.lload 6, 2) := by decide +kernel
theorem d_Mo_inverse_19 : decode (am_c m_Mo_inverse) 19 = .ok (.ldc2_w 230, 3) := by decide +kernel
theorem d_Mo_inverse_22 : decode (am_c m_Mo_inverse) 22 = .ok (.lrem, 1) := by decide +kernel
theorem d_Mo_inverse_23 : decode (am_c m_Mo_inverse) 23 = .ok (.lconst 1, 1) := by decide +kernel
theorem d_Mo_inverse_24 : decode (am_c m_Mo_inverse) 24 = .ok (.lcmp, 1) := by decide +kernel
theorem d_Mo_inverse_25 : decode (am_c m_Mo_inverse) 25 = .ok (.ifCond .ne 14, 3) := by decide +kernel
theorem d_Mo_inverse_28 : decode (am_c m_Mo_inverse) 28 = .ok (.lload_n 2, 1) := by decide +kernel
theorem d_Mo_inverse_29 : decode (am_c m_Mo_inverse) 29 = .ok (.lload 4, 2) := by decide +kernel
theorem d_Mo_inverse_31 : decode (am_c m_Mo_inverse) 31 = .ok (.lmul, 1) := by decide +kernel
theorem d_Mo_inverse_32 : decode (am_c m_Mo_inverse) 32 = .ok (.ldc2_w 232, 3) := by decide +kernel
theorem d_Mo_inverse_35 : decode (am_c m_Mo_inverse) 35 = .ok (.lrem, 1) := by decide +kernel
theorem d_Mo_inverse_36 : decode (am_c m_Mo_inverse) 36 = .ok (.goto 4, 3) := by decide +kernel
theorem d_Mo_inverse_39 : decode (am_c m_Mo_inverse) 39 = .ok (.lload_n 2, 1) := by decide +kernel
theorem d_Mo_inverse_40 : decode (am_c m_Mo_inverse) 40 = .ok (.lstore_n 2, 1) := by decide +kernel
theorem d_Mo_inverse_41 : decode (am_c m_Mo_inverse) 41 = .ok (.lload 4, 2) := by decide +kernel
theorem d_Mo_inverse_43 : decode (am_c m_Mo_inverse) 43 = .ok (.lload 4, 2) := by decide +kernel
theorem d_Mo_inverse_45 : decode (am_c m_Mo_inverse) 45 = .ok (.lmul, 1) := by decide +kernel
theorem d_Mo_inverse_46 : decode (am_c m_Mo_inverse) 46 = .ok (.ldc2_w 232, 3) := by decide +kernel
theorem d_Mo_inverse_49 : decode (am_c m_Mo_inverse) 49 = .ok (.lrem, 1) := by decide +kernel
theorem d_Mo_inverse_50 : decode (am_c m_Mo_inverse) 50 = .ok (.lstore 4, 2) := by decide +kernel
theorem d_Mo_inverse_52 : decode (am_c m_Mo_inverse) 52 = .ok (.lload 6, 2) := by decide +kernel
theorem d_Mo_inverse_54 : decode (am_c m_Mo_inverse) 54 = .ok (.ldc2_w 230, 3) := by decide +kernel
theorem d_Mo_inverse_57 : decode (am_c m_Mo_inverse) 57 = .ok (.ldiv, 1) := by decide +kernel
theorem d_Mo_inverse_58 : decode (am_c m_Mo_inverse) 58 = .ok (.lstore 6, 2) := by decide +kernel
theorem d_Mo_inverse_60 : decode (am_c m_Mo_inverse) 60 = .ok (.goto (-50), 3) := by decide +kernel
theorem d_Mo_inverse_63 : decode (am_c m_Mo_inverse) 63 = .ok (.lload_n 2, 1) := by decide +kernel
theorem d_Mo_inverse_64 : decode (am_c m_Mo_inverse) 64 = .ok (.lreturn, 1) := by decide +kernel
theorem d_Mo_resolved_0 : decode (am_c m_Mo_resolved) 0 = .ok (.iload_n 1, 1) := by decide +kernel
theorem d_Mo_resolved_1 : decode (am_c m_Mo_resolved) 1 = .ok (.invokestatic 138, 3) := by decide +kernel
theorem d_Mo_resolved_4 : decode (am_c m_Mo_resolved) 4 = .ok (.ifCond .ne 6, 3) := by decide +kernel
theorem d_Mo_resolved_7 : decode (am_c m_Mo_resolved) 7 = .ok (.bipush (-2), 2) := by decide +kernel
theorem d_Mo_resolved_9 : decode (am_c m_Mo_resolved) 9 = .ok (.ireturn, 1) := by decide +kernel
theorem d_Mo_resolved_10 : decode (am_c m_Mo_resolved) 10 = .ok (.aload_n 0, 1) := by decide +kernel
theorem d_Mo_resolved_11 : decode (am_c m_Mo_resolved) 11 = .ok (.iload_n 1, 1) := by decide +kernel
theorem d_Mo_resolved_12 : decode (am_c m_Mo_resolved) 12 = .ok (.invokevirtual 142, 3) := by decide +kernel
theorem d_Mo_resolved_15 : decode (am_c m_Mo_resolved) 15 = .ok (.ifCond .ne 5, 3) := by decide +kernel
theorem d_Mo_resolved_18 : decode (am_c m_Mo_resolved) 18 = .ok (.iconst (-1), 1) := by decide +kernel
theorem d_Mo_resolved_19 : decode (am_c m_Mo_resolved) 19 = .ok (.ireturn, 1) := by decide +kernel
theorem d_Mo_resolved_20 : decode (am_c m_Mo_resolved) 20 = .ok (.aload_n 0, 1) := by decide +kernel
theorem d_Mo_resolved_21 : decode (am_c m_Mo_resolved) 21 = .ok (.invokevirtual 219, 3) := by decide +kernel
theorem d_Mo_resolved_24 : decode (am_c m_Mo_resolved) 24 = .ok (.aload_n 0, 1) := by decide +kernel
theorem d_Mo_resolved_25 : decode (am_c m_Mo_resolved) 25 = .ok (.iconst 0, 1) := by decide +kernel
theorem d_Mo_resolved_26 : decode (am_c m_Mo_resolved) 26 = .ok (.putfield 244, 3) := by decide +kernel
theorem d_Mo_resolved_29 : decode (am_c m_Mo_resolved) 29 = .ok (.iconst 0, 1) := by decide +kernel
theorem d_Mo_resolved_30 : decode (am_c m_Mo_resolved) 30 = .ok (.istore_n 2, 1) := by decide +kernel
theorem d_Mo_resolved_31 : decode (am_c m_Mo_resolved) 31 = .ok (.iconst 0, 1) := by decide +kernel
theorem d_Mo_resolved_32 : decode (am_c m_Mo_resolved) 32 = .ok (.istore_n 3, 1) := by decide +kernel
theorem d_Mo_resolved_33 : decode (am_c m_Mo_resolved) 33 = .ok (.iload_n 3, 1) := by decide +kernel
theorem d_Mo_resolved_34 : decode (am_c m_Mo_resolved) 34 = .ok (.aload_n 0, 1) := by decide +kernel
theorem d_Mo_resolved_35 : decode (am_c m_Mo_resolved) 35 = .ok (.getfield 132, 3) := by decide +kernel
theorem d_Mo_resolved_38 : decode (am_c m_Mo_resolved) 38 = .ok (.if_icmp .ge 36, 3) := by decide +kernel
theorem d_Mo_resolved_41 : decode (am_c m_Mo_resolved) 41 = .ok (.iload_n 2, 1) := by decide +kernel
theorem d_Mo_resolved_42 : decode (am_c m_Mo_resolved) 42 = .ok (.aload_n 0, 1) := by decide +kernel
theorem d_Mo_resolved_43 : decode (am_c m_Mo_resolved) 43 = .ok (.getfield 44, 3) := by decide +kernel
theorem d_Mo_resolved_46 : decode (am_c m_Mo_resolved) 46 = .ok (.iload_n 3, 1) := by decide +kernel
theorem d_Mo_resolved_47 : decode (am_c m_Mo_resolved) 47 = .ok (.iaload, 1) := by decide +kernel
theorem d_Mo_resolved_48 : decode (am_c m_Mo_resolved) 48 = .ok (.ifCond .ne 17, 3) := by decide +kernel
theorem d_Mo_resolved_51 : decode (am_c m_Mo_resolved) 51 = .ok (.aload_n 0, 1) := by decide +kernel
theorem d_Mo_resolved_52 : decode (am_c m_Mo_resolved) 52 = .ok (.getfield 75, 3) := by decide +kernel
theorem d_Mo_resolved_55 : decode (am_c m_Mo_resolved) 55 = .ok (.bipush 8, 2) := by decide +kernel
theorem d_Mo_resolved_57 : decode (am_c m_Mo_resolved) 57 = .ok (.iload_n 3, 1) := by decide +kernel
theorem d_Mo_resolved_58 : decode (am_c m_Mo_resolved) 58 = .ok (.imul, 1) := by decide +kernel
theorem d_Mo_resolved_59 : decode (am_c m_Mo_resolved) 59 = .ok (.iload_n 1, 1) := by decide +kernel
theorem d_Mo_resolved_60 : decode (am_c m_Mo_resolved) 60 = .ok (.iadd, 1) := by decide +kernel
theorem d_Mo_resolved_61 : decode (am_c m_Mo_resolved) 61 = .ok (.iaload, 1) := by decide +kernel
theorem d_Mo_resolved_62 : decode (am_c m_Mo_resolved) 62 = .ok (.goto 4, 3) := by decide +kernel
theorem d_Mo_resolved_65 : decode (am_c m_Mo_resolved) 65 = .ok (.iconst 0, 1) := by decide +kernel
theorem d_Mo_resolved_66 : decode (am_c m_Mo_resolved) 66 = .ok (.iadd, 1) := by decide +kernel
theorem d_Mo_resolved_67 : decode (am_c m_Mo_resolved) 67 = .ok (.istore_n 2, 1) := by decide +kernel
theorem d_Mo_resolved_68 : decode (am_c m_Mo_resolved) 68 = .ok (.iinc 3 1, 3) := by decide +kernel
theorem d_Mo_resolved_71 : decode (am_c m_Mo_resolved) 71 = .ok (.goto (-38), 3) := by decide +kernel
theorem d_Mo_resolved_74 : decode (am_c m_Mo_resolved) 74 = .ok (.iload_n 2, 1) := by decide +kernel
theorem d_Mo_resolved_75 : decode (am_c m_Mo_resolved) 75 = .ok (.ifCond .ne 7, 3) := by decide +kernel
theorem d_Mo_resolved_78 : decode (am_c m_Mo_resolved) 78 = .ok (.iconst 0, 1) := by decide +kernel
theorem d_Mo_resolved_79 : decode (am_c m_Mo_resolved) 79 = .ok (.goto 16, 3) := by decide +kernel
theorem d_Mo_resolved_82 : decode (am_c m_Mo_resolved) 82 = .ok (.aload_n 0, 1) := by decide +kernel
theorem d_Mo_resolved_83 : decode (am_c m_Mo_resolved) 83 = .ok (.iload_n 1, 1) := by decide +kernel
theorem d_Mo_resolved_84 : decode (am_c m_Mo_resolved) 84 = .ok (.invokevirtual 250, 3) := by decide +kernel
theorem d_Mo_resolved_87 : decode (am_c m_Mo_resolved) 87 = .ok (.ifCond .eq 7, 3) := by decide +kernel
theorem d_Mo_resolved_90 : decode (am_c m_Mo_resolved) 90 = .ok (.iconst 2, 1) := by decide +kernel
theorem d_Mo_resolved_91 : decode (am_c m_Mo_resolved) 91 = .ok (.goto 4, 3) := by decide +kernel
theorem d_Mo_resolved_94 : decode (am_c m_Mo_resolved) 94 = .ok (.iconst 1, 1) := by decide +kernel
theorem d_Mo_resolved_95 : decode (am_c m_Mo_resolved) 95 = .ok (.ireturn, 1) := by decide +kernel
theorem d_Mo_isResolved_0 : decode (am_c m_Mo_isResolved) 0 = .ok (.aload_n 0, 1) := by decide +kernel
theorem d_Mo_isResolved_1 : decode (am_c m_Mo_isResolved) 1 = .ok (.aload_n 0, 1) := by decide +kernel
theorem d_Mo_isResolved_2 : decode (am_c m_Mo_isResolved) 2 = .ok (.invokevirtual 247, 3) := by decide +kernel
theorem d_Mo_isResolved_5 : decode (am_c m_Mo_isResolved) 5 = .ok (.invokevirtual 241, 3) := by decide +kernel
theorem d_Mo_isResolved_8 : decode (am_c m_Mo_isResolved) 8 = .ok (.istore_n 2, 1) := by decide +kernel
theorem d_Mo_isResolved_9 : decode (am_c m_Mo_isResolved) 9 = .ok (.aload_n 0, 1) := by decide +kernel
theorem d_Mo_isResolved_10 : decode (am_c m_Mo_isResolved) 10 = .ok (.invokevirtual 247, 3) := by decide +kernel
theorem d_Mo_isResolved_13 : decode (am_c m_Mo_isResolved) 13 = .ok (.istore_n 3, 1) := by decide +kernel
theorem d_Mo_isResolved_14 : decode (am_c m_Mo_isResolved) 14 = .ok (.iconst 0, 1) := by decide +kernel
theorem d_Mo_isResolved_15 : decode (am_c m_Mo_isResolved) 15 = .ok (.istore 4, 2) := by decide +kernel
theorem d_Mo_isResolved_17 : decode (am_c m_Mo_isResolved) 17 = .ok (.iload 4, 2) := by decide +kernel
theorem d_Mo_isResolved_19 : decode (am_c m_Mo_isResolved) 19 = .ok (.bipush 8, 2) := by decide +kernel
theorem d_Mo_isResolved_21 : decode (am_c m_Mo_isResolved) 21 = .ok (.if_icmp .ge 32, 3) := by decide +kernel
theorem d_Mo_isResolved_24 : decode (am_c m_Mo_isResolved) 24 = .ok (.aload_n 0, 1) := by decide +kernel
theorem d_Mo_isResolved_25 : decode (am_c m_Mo_isResolved) 25 = .ok (.getfield 84, 3) := by decide +kernel
theorem d_Mo_isResolved_28 : decode (am_c m_Mo_isResolved) 28 = .ok (.bipush 8, 2) := by decide +kernel
theorem d_Mo_isResolved_30 : decode (am_c m_Mo_isResolved) 30 = .ok (.iload_n 3, 1) := by decide +kernel
theorem d_Mo_isResolved_31 : decode (am_c m_Mo_isResolved) 31 = .ok (.imul, 1) := by decide +kernel
theorem d_Mo_isResolved_32 : decode (am_c m_Mo_isResolved) 32 = .ok (.iload 4, 2) := by decide +kernel
theorem d_Mo_isResolved_34 : decode (am_c m_Mo_isResolved) 34 = .ok (.iadd, 1) := by decide +kernel
theorem d_Mo_isResolved_35 : decode (am_c m_Mo_isResolved) 35 = .ok (.iload 4, 2) := by decide +kernel
theorem d_Mo_isResolved_37 : decode (am_c m_Mo_isResolved) 37 = .ok (.iload_n 1, 1) := by decide +kernel
theorem d_Mo_isResolved_38 : decode (am_c m_Mo_isResolved) 38 = .ok (.if_icmp .ne 7, 3) := by decide +kernel
theorem d_Mo_isResolved_41 : decode (am_c m_Mo_isResolved) 41 = .ok (.lconst 1, 1) := by decide +kernel
theorem d_Mo_isResolved_42 : decode (am_c m_Mo_isResolved) 42 = .ok (.goto 4, 3) := by decide +kernel
theorem d_Mo_isResolved_45 : decode (am_c m_Mo_isResolved) 45 = .ok (.lconst 0, 1) := by decide +kernel
theorem d_Mo_isResolved_46 : decode (am_c m_Mo_isResolved) 46 = .ok (.lastore, 1) := by decide +kernel
theorem d_Mo_isResolved_47 : decode (am_c m_Mo_isResolved) 47 = .ok (.iinc 4 1, 3) := by decide +kernel
theorem d_Mo_isResolved_50 : decode (am_c m_Mo_isResolved) 50 = .ok (.goto (-33), 3) := by decide +kernel
theorem d_Mo_isResolved_53 : decode (am_c m_Mo_isResolved) 53 = .ok (.aload_n 0, 1) := by decide +kernel
theorem d_Mo_isResolved_54 : decode (am_c m_Mo_isResolved) 54 = .ok (.iload_n 3, 1) := by decide +kernel
theorem d_Mo_isResolved_55 : decode (am_c m_Mo_isResolved) 55 = .ok (.iconst 1, 1) := by decide +kernel
theorem d_Mo_isResolved_56 : decode (am_c m_Mo_isResolved) 56 = .ok (.iadd, 1) := by decide +kernel
theorem d_Mo_isResolved_57 : decode (am_c m_Mo_isResolved) 57 = .ok (.invokevirtual 241, 3) := by decide +kernel
theorem d_Mo_isResolved_60 : decode (am_c m_Mo_isResolved) 60 = .ok (.iload_n 2, 1) := by decide +kernel
theorem d_Mo_isResolved_61 : decode (am_c m_Mo_isResolved) 61 = .ok (.if_icmp .ne 7, 3) := by decide +kernel
theorem d_Mo_isResolved_64 : decode (am_c m_Mo_isResolved) 64 = .ok (.iconst 1, 1) := by decide +kernel
theorem d_Mo_isResolved_65 : decode (am_c m_Mo_isResolved) 65 = .ok (.goto 4, 3) := by decide +kernel
theorem d_Mo_isResolved_68 : decode (am_c m_Mo_isResolved) 68 = .ok (.iconst 0, 1) := by decide +kernel
theorem d_Mo_isResolved_69 : decode (am_c m_Mo_isResolved) 69 = .ok (.ireturn, 1) := by decide +kernel
theorem d_Mo_layAll_0 : decode (am_c m_Mo_layAll) 0 = .ok (.aload_n 0, 1) := by decide +kernel
theorem d_Mo_layAll_1 : decode (am_c m_Mo_layAll) 1 = .ok (.invokevirtual 238, 3) := by decide +kernel
theorem d_Mo_layAll_4 : decode (am_c m_Mo_layAll) 4 = .ok (.istore_n 1, 1) := by decide +kernel
theorem d_Mo_layAll_5 : decode (am_c m_Mo_layAll) 5 = .ok (.iconst 0, 1) := by decide +kernel
theorem d_Mo_layAll_6 : decode (am_c m_Mo_layAll) 6 = .ok (.istore_n 2, 1) := by decide +kernel
theorem d_Mo_layAll_7 : decode (am_c m_Mo_layAll) 7 = .ok (.iload_n 2, 1) := by decide +kernel
theorem d_Mo_layAll_8 : decode (am_c m_Mo_layAll) 8 = .ok (.bipush 8, 2) := by decide +kernel
theorem d_Mo_layAll_10 : decode (am_c m_Mo_layAll) 10 = .ok (.aload_n 0, 1) := by decide +kernel
theorem d_Mo_layAll_11 : decode (am_c m_Mo_layAll) 11 = .ok (.getfield 244, 3) := by decide +kernel
theorem d_Mo_layAll_14 : decode (am_c m_Mo_layAll) 14 = .ok (.imul, 1) := by decide +kernel
theorem d_Mo_layAll_15 : decode (am_c m_Mo_layAll) 15 = .ok (.if_icmp .ge 27, 3) := by decide +kernel
theorem d_Mo_layAll_18 : decode (am_c m_Mo_layAll) 18 = .ok (.aload_n 0, 1) := by decide +kernel
theorem d_Mo_layAll_19 : decode (am_c m_Mo_layAll) 19 = .ok (.getfield 84, 3) := by decide +kernel
theorem d_Mo_layAll_22 : decode (am_c m_Mo_layAll) 22 = .ok (.bipush 8, 2) := by decide +kernel
theorem d_Mo_layAll_24 : decode (am_c m_Mo_layAll) 24 = .ok (.iload_n 1, 1) := by decide +kernel
theorem d_Mo_layAll_25 : decode (am_c m_Mo_layAll) 25 = .ok (.imul, 1) := by decide +kernel
theorem d_Mo_layAll_26 : decode (am_c m_Mo_layAll) 26 = .ok (.iload_n 2, 1) := by decide +kernel
theorem d_Mo_layAll_27 : decode (am_c m_Mo_layAll) 27 = .ok (.iadd, 1) := by decide +kernel
theorem d_Mo_layAll_28 : decode (am_c m_Mo_layAll) 28 = .ok (.aload_n 0, 1) := by decide +kernel
theorem d_Mo_layAll_29 : decode (am_c m_Mo_layAll) 29 = .ok (.getfield 115, 3) := by decide +kernel
theorem d_Mo_layAll_32 : decode (am_c m_Mo_layAll) 32 = .ok (.iload_n 2, 1) := by decide +kernel
theorem d_Mo_layAll_33 : decode (am_c m_Mo_layAll) 33 = .ok (.iaload, 1) := by decide +kernel
theorem d_Mo_layAll_34 : decode (am_c m_Mo_layAll) 34 = .ok (.i2l, 1) := by decide +kernel
theorem d_Mo_layAll_35 : decode (am_c m_Mo_layAll) 35 = .ok (.lastore, 1) := by decide +kernel
theorem d_Mo_layAll_36 : decode (am_c m_Mo_layAll) 36 = .ok (.iinc 2 1, 3) := by decide +kernel
theorem d_Mo_layAll_39 : decode (am_c m_Mo_layAll) 39 = .ok (.goto (-32), 3) := by decide +kernel
theorem d_Mo_layAll_42 : decode (am_c m_Mo_layAll) 42 = .ok (.iload_n 1, 1) := by decide +kernel
theorem d_Mo_layAll_43 : decode (am_c m_Mo_layAll) 43 = .ok (.aload_n 0, 1) := by decide +kernel
theorem d_Mo_layAll_44 : decode (am_c m_Mo_layAll) 44 = .ok (.getfield 244, 3) := by decide +kernel
theorem d_Mo_layAll_47 : decode (am_c m_Mo_layAll) 47 = .ok (.iadd, 1) := by decide +kernel
theorem d_Mo_layAll_48 : decode (am_c m_Mo_layAll) 48 = .ok (.ireturn, 1) := by decide +kernel
theorem d_Mo_best_0 : decode (am_c m_Mo_best) 0 = .ok (.iload_n 1, 1) := by decide +kernel
theorem d_Mo_best_1 : decode (am_c m_Mo_best) 1 = .ok (.iconst 0, 1) := by decide +kernel
theorem d_Mo_best_2 : decode (am_c m_Mo_best) 2 = .ok (.iconst 1, 1) := by decide +kernel
theorem d_Mo_best_3 : decode (am_c m_Mo_best) 3 = .ok (.invokestatic 122, 3) := by decide +kernel
theorem d_Mo_best_6 : decode (am_c m_Mo_best) 6 = .ok (.ifCond .ne 6, 3) := by decide +kernel
theorem d_Mo_best_9 : decode (am_c m_Mo_best) 9 = .ok (.bipush (-3), 2) := by decide +kernel
theorem d_Mo_best_11 : decode (am_c m_Mo_best) 11 = .ok (.ireturn, 1) := by decide +kernel
theorem d_Mo_best_12 : decode (am_c m_Mo_best) 12 = .ok (.aload_n 0, 1) := by decide +kernel
theorem d_Mo_best_13 : decode (am_c m_Mo_best) 13 = .ok (.getfield 129, 3) := by decide +kernel
theorem d_Mo_best_16 : decode (am_c m_Mo_best) 16 = .ok (.ifCond .ne 6, 3) := by decide +kernel
theorem d_Mo_best_19 : decode (am_c m_Mo_best) 19 = .ok (.bipush (-4), 2) := by decide +kernel
theorem d_Mo_best_21 : decode (am_c m_Mo_best) 21 = .ok (.ireturn, 1) := by decide +kernel
theorem d_Mo_best_22 : decode (am_c m_Mo_best) 22 = .ok (.aload_n 0, 1) := by decide +kernel
theorem d_Mo_best_23 : decode (am_c m_Mo_best) 23 = .ok (.invokevirtual 219, 3) := by decide +kernel
theorem d_Mo_best_26 : decode (am_c m_Mo_best) 26 = .ok (.iconst (-1), 1) := by decide +kernel
theorem d_Mo_best_27 : decode (am_c m_Mo_best) 27 = .ok (.istore_n 2, 1) := by decide +kernel
theorem d_Mo_best_28 : decode (am_c m_Mo_best) 28 = .ok (.iconst (-1), 1) := by decide +kernel
theorem d_Mo_best_29 : decode (am_c m_Mo_best) 29 = .ok (.istore_n 3, 1) := by decide +kernel
theorem d_Mo_best_30 : decode (am_c m_Mo_best) 30 = .ok (.iconst 0, 1) := by decide +kernel
theorem d_Mo_best_31 : decode (am_c m_Mo_best) 31 = .ok (.istore 4, 2) := by decide +kernel
theorem d_Mo_best_33 : decode (am_c m_Mo_best) 33 = .ok (.iload 4, 2) := by decide +kernel
theorem d_Mo_best_35 : decode (am_c m_Mo_best) 35 = .ok (.aload_n 0, 1) := by decide +kernel
theorem d_Mo_best_36 : decode (am_c m_Mo_best) 36 = .ok (.invokevirtual 118, 3) := by decide +kernel
theorem d_Mo_best_39 : decode (am_c m_Mo_best) 39 = .ok (.if_icmp .ge 43, 3) := by decide +kernel
theorem d_Mo_best_42 : decode (am_c m_Mo_best) 42 = .ok (.aload_n 0, 1) := by decide +kernel
theorem d_Mo_best_43 : decode (am_c m_Mo_best) 43 = .ok (.iload 4, 2) := by decide +kernel
theorem d_Mo_best_45 : decode (am_c m_Mo_best) 45 = .ok (.invokevirtual 253, 3) := by decide +kernel
theorem d_Mo_best_48 : decode (am_c m_Mo_best) 48 = .ok (.istore 5, 2) := by decide +kernel
theorem d_Mo_best_50 : decode (am_c m_Mo_best) 50 = .ok (.iload 5, 2) := by decide +kernel
theorem d_Mo_best_52 : decode (am_c m_Mo_best) 52 = .ok (.iload_n 3, 1) := by decide +kernel
theorem d_Mo_best_53 : decode (am_c m_Mo_best) 53 = .ok (.if_icmp .le 8, 3) := by decide +kernel
theorem d_Mo_best_56 : decode (am_c m_Mo_best) 56 = .ok (.iload 4, 2) := by decide +kernel
theorem d_Mo_best_58 : decode (am_c m_Mo_best) 58 = .ok (.goto 4, 3) := by decide +kernel
theorem d_Mo_best_61 : decode (am_c m_Mo_best) 61 = .ok (.iload_n 2, 1) := by decide +kernel
theorem d_Mo_best_62 : decode (am_c m_Mo_best) 62 = .ok (.istore_n 2, 1) := by decide +kernel
theorem d_Mo_best_63 : decode (am_c m_Mo_best) 63 = .ok (.iload 5, 2) := by decide +kernel
theorem d_Mo_best_65 : decode (am_c m_Mo_best) 65 = .ok (.iload_n 3, 1) := by decide +kernel
theorem d_Mo_best_66 : decode (am_c m_Mo_best) 66 = .ok (.if_icmp .le 8, 3) := by decide +kernel
theorem d_Mo_best_69 : decode (am_c m_Mo_best) 69 = .ok (.iload 5, 2) := by decide +kernel
theorem d_Mo_best_71 : decode (am_c m_Mo_best) 71 = .ok (.goto 4, 3) := by decide +kernel
theorem d_Mo_best_74 : decode (am_c m_Mo_best) 74 = .ok (.iload_n 3, 1) := by decide +kernel
theorem d_Mo_best_75 : decode (am_c m_Mo_best) 75 = .ok (.istore_n 3, 1) := by decide +kernel
theorem d_Mo_best_76 : decode (am_c m_Mo_best) 76 = .ok (.iinc 4 1, 3) := by decide +kernel
theorem d_Mo_best_79 : decode (am_c m_Mo_best) 79 = .ok (.goto (-46), 3) := by decide +kernel
theorem d_Mo_best_82 : decode (am_c m_Mo_best) 82 = .ok (.iload_n 1, 1) := by decide +kernel
theorem d_Mo_best_83 : decode (am_c m_Mo_best) 83 = .ok (.ifCond .ne 7, 3) := by decide +kernel
theorem d_Mo_best_86 : decode (am_c m_Mo_best) 86 = .ok (.iload_n 2, 1) := by decide +kernel
theorem d_Mo_best_87 : decode (am_c m_Mo_best) 87 = .ok (.goto 4, 3) := by decide +kernel
theorem d_Mo_best_90 : decode (am_c m_Mo_best) 90 = .ok (.iload_n 3, 1) := by decide +kernel
theorem d_Mo_best_91 : decode (am_c m_Mo_best) 91 = .ok (.ireturn, 1) := by decide +kernel
theorem d_Mo_resolvedWith_0 : decode (am_c m_Mo_resolvedWith) 0 = .ok (.iconst 0, 1) := by decide +kernel
theorem d_Mo_resolvedWith_1 : decode (am_c m_Mo_resolvedWith) 1 = .ok (.istore_n 2, 1) := by decide +kernel
theorem d_Mo_resolvedWith_2 : decode (am_c m_Mo_resolvedWith) 2 = .ok (.iload_n 2, 1) := by decide +kernel
theorem d_Mo_resolvedWith_3 : decode (am_c m_Mo_resolvedWith) 3 = .ok (.aload_n 0, 1) := by decide +kernel
theorem d_Mo_resolvedWith_4 : decode (am_c m_Mo_resolvedWith) 4 = .ok (.getfield 129, 3) := by decide +kernel
theorem d_Mo_resolvedWith_7 : decode (am_c m_Mo_resolvedWith) 7 = .ok (.if_icmp .ge 100, 3) := by decide +kernel
theorem d_Mo_resolvedWith_10 : decode (am_c m_Mo_resolvedWith) 10 = .ok (.iconst 0, 1) := by decide +kernel
theorem d_Mo_resolvedWith_11 : decode (am_c m_Mo_resolvedWith) 11 = .ok (.istore_n 3, 1) := by decide +kernel
theorem d_Mo_resolvedWith_12 : decode (am_c m_Mo_resolvedWith) 12 = .ok (.iload_n 3, 1) := by decide +kernel
theorem d_Mo_resolvedWith_13 : decode (am_c m_Mo_resolvedWith) 13 = .ok (.bipush 8, 2) := by decide +kernel
theorem d_Mo_resolvedWith_15 : decode (am_c m_Mo_resolvedWith) 15 = .ok (.if_icmp .ge 24, 3) := by decide +kernel
theorem d_Mo_resolvedWith_18 : decode (am_c m_Mo_resolvedWith) 18 = .ok (.aload_n 0, 1) := by decide +kernel
theorem d_Mo_resolvedWith_19 : decode (am_c m_Mo_resolvedWith) 19 = .ok (.getfield 88, 3) := by decide +kernel
theorem d_Mo_resolvedWith_22 : decode (am_c m_Mo_resolvedWith) 22 = .ok (.iload_n 3, 1) := by decide +kernel
theorem d_Mo_resolvedWith_23 : decode (am_c m_Mo_resolvedWith) 23 = .ok (.aload_n 0, 1) := by decide +kernel
theorem d_Mo_resolvedWith_24 : decode (am_c m_Mo_resolvedWith) 24 = .ok (.getfield 75, 3) := by decide +kernel
theorem d_Mo_resolvedWith_27 : decode (am_c m_Mo_resolvedWith) 27 = .ok (.bipush 88, 2) := by decide +kernel
theorem d_Mo_resolvedWith_29 : decode (am_c m_Mo_resolvedWith) 29 = .ok (.iload_n 3, 1) := by decide +kernel
theorem d_Mo_resolvedWith_30 : decode (am_c m_Mo_resolvedWith) 30 = .ok (.iadd, 1) := by decide +kernel
theorem d_Mo_resolvedWith_31 : decode (am_c m_Mo_resolvedWith) 31 = .ok (.iaload, 1) := by decide +kernel
theorem d_Mo_resolvedWith_32 : decode (am_c m_Mo_resolvedWith) 32 = .ok (.iastore, 1) := by decide +kernel
theorem d_Mo_resolvedWith_33 : decode (am_c m_Mo_resolvedWith) 33 = .ok (.iinc 3 1, 3) := by decide +kernel
theorem d_Mo_resolvedWith_36 : decode (am_c m_Mo_resolvedWith) 36 = .ok (.goto (-24), 3) := by decide +kernel
theorem d_Mo_resolvedWith_39 : decode (am_c m_Mo_resolvedWith) 39 = .ok (.aload_n 0, 1) := by decide +kernel
theorem d_Mo_resolvedWith_40 : decode (am_c m_Mo_resolvedWith) 40 = .ok (.aload_n 0, 1) := by decide +kernel
theorem d_Mo_resolvedWith_41 : decode (am_c m_Mo_resolvedWith) 41 = .ok (.getfield 32, 3) := by decide +kernel
theorem d_Mo_resolvedWith_44 : decode (am_c m_Mo_resolvedWith) 44 = .ok (.iload_n 2, 1) := by decide +kernel
theorem d_Mo_resolvedWith_45 : decode (am_c m_Mo_resolvedWith) 45 = .ok (.iaload, 1) := by decide +kernel
theorem d_Mo_resolvedWith_46 : decode (am_c m_Mo_resolvedWith) 46 = .ok (.iload_n 1, 1) := by decide +kernel
theorem d_Mo_resolvedWith_47 : decode (am_c m_Mo_resolvedWith) 47 = .ok (.bipush 11, 2) := by decide +kernel
theorem d_Mo_resolvedWith_49 : decode (am_c m_Mo_resolvedWith) 49 = .ok (.invokevirtual 209, 3) := by decide +kernel
theorem d_Mo_resolvedWith_52 : decode (am_c m_Mo_resolvedWith) 52 = .ok (.iconst 0, 1) := by decide +kernel
theorem d_Mo_resolvedWith_53 : decode (am_c m_Mo_resolvedWith) 53 = .ok (.istore_n 3, 1) := by decide +kernel
theorem d_Mo_resolvedWith_54 : decode (am_c m_Mo_resolvedWith) 54 = .ok (.iload_n 3, 1) := by decide +kernel
theorem d_Mo_resolvedWith_55 : decode (am_c m_Mo_resolvedWith) 55 = .ok (.bipush 8, 2) := by decide +kernel
theorem d_Mo_resolvedWith_57 : decode (am_c m_Mo_resolvedWith) 57 = .ok (.if_icmp .ge 44, 3) := by decide +kernel
theorem d_Mo_resolvedWith_60 : decode (am_c m_Mo_resolvedWith) 60 = .ok (.aload_n 0, 1) := by decide +kernel
theorem d_Mo_resolvedWith_61 : decode (am_c m_Mo_resolvedWith) 61 = .ok (.getfield 115, 3) := by decide +kernel
theorem d_Mo_resolvedWith_64 : decode (am_c m_Mo_resolvedWith) 64 = .ok (.bipush 8, 2) := by decide +kernel
theorem d_Mo_resolvedWith_66 : decode (am_c m_Mo_resolvedWith) 66 = .ok (.iload_n 2, 1) := by decide +kernel
theorem d_Mo_resolvedWith_67 : decode (am_c m_Mo_resolvedWith) 67 = .ok (.imul, 1) := by decide +kernel
theorem d_Mo_resolvedWith_68 : decode (am_c m_Mo_resolvedWith) 68 = .ok (.iload_n 3, 1) := by decide +kernel
theorem d_Mo_resolvedWith_69 : decode (am_c m_Mo_resolvedWith) 69 = .ok (.iadd, 1) := by decide +kernel
theorem d_Mo_resolvedWith_70 : decode (am_c m_Mo_resolvedWith) 70 = .ok (.aload_n 0, 1) := by decide +kernel
theorem d_Mo_resolvedWith_71 : decode (am_c m_Mo_resolvedWith) 71 = .ok (.getfield 75, 3) := by decide +kernel
theorem d_Mo_resolvedWith_74 : decode (am_c m_Mo_resolvedWith) 74 = .ok (.bipush 88, 2) := by decide +kernel
theorem d_Mo_resolvedWith_76 : decode (am_c m_Mo_resolvedWith) 76 = .ok (.iload_n 3, 1) := by decide +kernel
theorem d_Mo_resolvedWith_77 : decode (am_c m_Mo_resolvedWith) 77 = .ok (.iadd, 1) := by decide +kernel
theorem d_Mo_resolvedWith_78 : decode (am_c m_Mo_resolvedWith) 78 = .ok (.iaload, 1) := by decide +kernel
theorem d_Mo_resolvedWith_79 : decode (am_c m_Mo_resolvedWith) 79 = .ok (.iastore, 1) := by decide +kernel
theorem d_Mo_resolvedWith_80 : decode (am_c m_Mo_resolvedWith) 80 = .ok (.aload_n 0, 1) := by decide +kernel
theorem d_Mo_resolvedWith_81 : decode (am_c m_Mo_resolvedWith) 81 = .ok (.getfield 75, 3) := by decide +kernel
theorem d_Mo_resolvedWith_84 : decode (am_c m_Mo_resolvedWith) 84 = .ok (.bipush 88, 2) := by decide +kernel
theorem d_Mo_resolvedWith_86 : decode (am_c m_Mo_resolvedWith) 86 = .ok (.iload_n 3, 1) := by decide +kernel
theorem d_Mo_resolvedWith_87 : decode (am_c m_Mo_resolvedWith) 87 = .ok (.iadd, 1) := by decide +kernel
theorem d_Mo_resolvedWith_88 : decode (am_c m_Mo_resolvedWith) 88 = .ok (.aload_n 0, 1) := by decide +kernel
theorem d_Mo_resolvedWith_89 : decode (am_c m_Mo_resolvedWith) 89 = .ok (.getfield 88, 3) := by decide +kernel
theorem d_Mo_resolvedWith_92 : decode (am_c m_Mo_resolvedWith) 92 = .ok (.iload_n 3, 1) := by decide +kernel
theorem d_Mo_resolvedWith_93 : decode (am_c m_Mo_resolvedWith) 93 = .ok (.iaload, 1) := by decide +kernel
theorem d_Mo_resolvedWith_94 : decode (am_c m_Mo_resolvedWith) 94 = .ok (.iastore, 1) := by decide +kernel
theorem d_Mo_resolvedWith_95 : decode (am_c m_Mo_resolvedWith) 95 = .ok (.iinc 3 1, 3) := by decide +kernel
theorem d_Mo_resolvedWith_98 : decode (am_c m_Mo_resolvedWith) 98 = .ok (.goto (-44), 3) := by decide +kernel
theorem d_Mo_resolvedWith_101 : decode (am_c m_Mo_resolvedWith) 101 = .ok (.iinc 2 1, 3) := by decide +kernel
theorem d_Mo_resolvedWith_104 : decode (am_c m_Mo_resolvedWith) 104 = .ok (.goto (-102), 3) := by decide +kernel
theorem d_Mo_resolvedWith_107 : decode (am_c m_Mo_resolvedWith) 107 = .ok (.aload_n 0, 1) := by decide +kernel
theorem d_Mo_resolvedWith_108 : decode (am_c m_Mo_resolvedWith) 108 = .ok (.aload_n 0, 1) := by decide +kernel
theorem d_Mo_resolvedWith_109 : decode (am_c m_Mo_resolvedWith) 109 = .ok (.getfield 129, 3) := by decide +kernel
theorem d_Mo_resolvedWith_112 : decode (am_c m_Mo_resolvedWith) 112 = .ok (.putfield 244, 3) := by decide +kernel
theorem d_Mo_resolvedWith_115 : decode (am_c m_Mo_resolvedWith) 115 = .ok (.iconst 0, 1) := by decide +kernel
theorem d_Mo_resolvedWith_116 : decode (am_c m_Mo_resolvedWith) 116 = .ok (.istore_n 2, 1) := by decide +kernel
theorem d_Mo_resolvedWith_117 : decode (am_c m_Mo_resolvedWith) 117 = .ok (.iconst 0, 1) := by decide +kernel
theorem d_Mo_resolvedWith_118 : decode (am_c m_Mo_resolvedWith) 118 = .ok (.istore_n 3, 1) := by decide +kernel
theorem d_Mo_resolvedWith_119 : decode (am_c m_Mo_resolvedWith) 119 = .ok (.iload_n 3, 1) := by decide +kernel
theorem d_Mo_resolvedWith_120 : decode (am_c m_Mo_resolvedWith) 120 = .ok (.bipush 8, 2) := by decide +kernel
theorem d_Mo_resolvedWith_122 : decode (am_c m_Mo_resolvedWith) 122 = .ok (.if_icmp .ge 33, 3) := by decide +kernel
theorem d_Mo_resolvedWith_125 : decode (am_c m_Mo_resolvedWith) 125 = .ok (.iload_n 2, 1) := by decide +kernel
theorem d_Mo_resolvedWith_126 : decode (am_c m_Mo_resolvedWith) 126 = .ok (.aload_n 0, 1) := by decide +kernel
theorem d_Mo_resolvedWith_127 : decode (am_c m_Mo_resolvedWith) 127 = .ok (.iload_n 3, 1) := by decide +kernel
theorem d_Mo_resolvedWith_128 : decode (am_c m_Mo_resolvedWith) 128 = .ok (.invokevirtual 142, 3) := by decide +kernel
theorem d_Mo_resolvedWith_131 : decode (am_c m_Mo_resolvedWith) 131 = .ok (.ifCond .le 15, 3) := by decide +kernel
theorem d_Mo_resolvedWith_134 : decode (am_c m_Mo_resolvedWith) 134 = .ok (.aload_n 0, 1) := by decide +kernel
theorem d_Mo_resolvedWith_135 : decode (am_c m_Mo_resolvedWith) 135 = .ok (.iload_n 3, 1) := by decide +kernel
theorem d_Mo_resolvedWith_136 : decode (am_c m_Mo_resolvedWith) 136 = .ok (.invokevirtual 250, 3) := by decide +kernel
theorem d_Mo_resolvedWith_139 : decode (am_c m_Mo_resolvedWith) 139 = .ok (.ifCond .eq 7, 3) := by decide +kernel
theorem d_Mo_resolvedWith_142 : decode (am_c m_Mo_resolvedWith) 142 = .ok (.iconst 1, 1) := by decide +kernel
theorem d_Mo_resolvedWith_143 : decode (am_c m_Mo_resolvedWith) 143 = .ok (.goto 4, 3) := by decide +kernel
theorem d_Mo_resolvedWith_146 : decode (am_c m_Mo_resolvedWith) 146 = .ok (.iconst 0, 1) := by decide +kernel
theorem d_Mo_resolvedWith_147 : decode (am_c m_Mo_resolvedWith) 147 = .ok (.iadd, 1) := by decide +kernel
theorem d_Mo_resolvedWith_148 : decode (am_c m_Mo_resolvedWith) 148 = .ok (.istore_n 2, 1) := by decide +kernel
theorem d_Mo_resolvedWith_149 : decode (am_c m_Mo_resolvedWith) 149 = .ok (.iinc 3 1, 3) := by decide +kernel
theorem d_Mo_resolvedWith_152 : decode (am_c m_Mo_resolvedWith) 152 = .ok (.goto (-33), 3) := by decide +kernel
theorem d_Mo_resolvedWith_155 : decode (am_c m_Mo_resolvedWith) 155 = .ok (.aload_n 0, 1) := by decide +kernel
theorem d_Mo_resolvedWith_156 : decode (am_c m_Mo_resolvedWith) 156 = .ok (.iconst 0, 1) := by decide +kernel
theorem d_Mo_resolvedWith_157 : decode (am_c m_Mo_resolvedWith) 157 = .ok (.putfield 244, 3) := by decide +kernel
theorem d_Mo_resolvedWith_160 : decode (am_c m_Mo_resolvedWith) 160 = .ok (.iload_n 2, 1) := by decide +kernel
theorem d_Mo_resolvedWith_161 : decode (am_c m_Mo_resolvedWith) 161 = .ok (.ireturn, 1) := by decide +kernel
theorem d_Mo_heap_0 : decode (am_c m_Mo_heap) 0 = .ok (.aload_n 0, 1) := by decide +kernel
theorem d_Mo_heap_1 : decode (am_c m_Mo_heap) 1 = .ok (.iload_n 1, 1) := by decide +kernel
theorem d_Mo_heap_2 : decode (am_c m_Mo_heap) 2 = .ok (.invokevirtual 171, 3) := by decide +kernel
theorem d_Mo_heap_5 : decode (am_c m_Mo_heap) 5 = .ok (.ifCond .eq 11, 3) := by decide +kernel
theorem d_Mo_heap_8 : decode (am_c m_Mo_heap) 8 = .ok (.aload_n 0, 1) := by decide +kernel
theorem d_Mo_heap_9 : decode (am_c m_Mo_heap) 9 = .ok (.iload_n 2, 1) := by decide +kernel
theorem d_Mo_heap_10 : decode (am_c m_Mo_heap) 10 = .ok (.invokevirtual 146, 3) := by decide +kernel
theorem d_Mo_heap_13 : decode (am_c m_Mo_heap) 13 = .ok (.ifCond .ne 6, 3) := by decide +kernel
theorem d_Mo_heap_16 : decode (am_c m_Mo_heap) 16 = .ok (.bipush (-2), 2) := by decide +kernel
theorem d_Mo_heap_18 : decode (am_c m_Mo_heap) 18 = .ok (.ireturn, 1) := by decide +kernel
theorem d_Mo_heap_19 : decode (am_c m_Mo_heap) 19 = .ok (.iload_n 3, 1) := by decide +kernel
theorem d_Mo_heap_20 : decode (am_c m_Mo_heap) 20 = .ok (.iconst 0, 1) := by decide +kernel
theorem d_Mo_heap_21 : decode (am_c m_Mo_heap) 21 = .ok (.iconst 1, 1) := by decide +kernel
theorem d_Mo_heap_22 : decode (am_c m_Mo_heap) 22 = .ok (.invokestatic 122, 3) := by decide +kernel
theorem d_Mo_heap_25 : decode (am_c m_Mo_heap) 25 = .ok (.ifCond .ne 6, 3) := by decide +kernel
theorem d_Mo_heap_28 : decode (am_c m_Mo_heap) 28 = .ok (.bipush (-3), 2) := by decide +kernel
theorem d_Mo_heap_30 : decode (am_c m_Mo_heap) 30 = .ok (.ireturn, 1) := by decide +kernel
theorem d_Mo_heap_31 : decode (am_c m_Mo_heap) 31 = .ok (.aload_n 0, 1) := by decide +kernel
theorem d_Mo_heap_32 : decode (am_c m_Mo_heap) 32 = .ok (.aload_n 0, 1) := by decide +kernel
theorem d_Mo_heap_33 : decode (am_c m_Mo_heap) 33 = .ok (.getfield 174, 3) := by decide +kernel
theorem d_Mo_heap_36 : decode (am_c m_Mo_heap) 36 = .ok (.invokevirtual 196, 3) := by decide +kernel
theorem d_Mo_heap_39 : decode (am_c m_Mo_heap) 39 = .ok (.aload_n 0, 1) := by decide +kernel
theorem d_Mo_heap_40 : decode (am_c m_Mo_heap) 40 = .ok (.iload_n 1, 1) := by decide +kernel
theorem d_Mo_heap_41 : decode (am_c m_Mo_heap) 41 = .ok (.iload_n 2, 1) := by decide +kernel
theorem d_Mo_heap_42 : decode (am_c m_Mo_heap) 42 = .ok (.invokevirtual 262, 3) := by decide +kernel
theorem d_Mo_heap_45 : decode (am_c m_Mo_heap) 45 = .ok (.iload_n 3, 1) := by decide +kernel
theorem d_Mo_heap_46 : decode (am_c m_Mo_heap) 46 = .ok (.ifCond .ne 10, 3) := by decide +kernel
theorem d_Mo_heap_49 : decode (am_c m_Mo_heap) 49 = .ok (.aload_n 0, 1) := by decide +kernel
theorem d_Mo_heap_50 : decode (am_c m_Mo_heap) 50 = .ok (.getfield 256, 3) := by decide +kernel
theorem d_Mo_heap_53 : decode (am_c m_Mo_heap) 53 = .ok (.goto 7, 3) := by decide +kernel
theorem d_Mo_heap_56 : decode (am_c m_Mo_heap) 56 = .ok (.aload_n 0, 1) := by decide +kernel
theorem d_Mo_heap_57 : decode (am_c m_Mo_heap) 57 = .ok (.getfield 259, 3) := by decide +kernel
theorem d_Mo_heap_60 : decode (am_c m_Mo_heap) 60 = .ok (.ireturn, 1) := by decide +kernel
theorem d_Mo_findHeap_0 : decode (am_c m_Mo_findHeap) 0 = .ok (.aload_n 0, 1) := by decide +kernel
theorem d_Mo_findHeap_1 : decode (am_c m_Mo_findHeap) 1 = .ok (.iconst (-1), 1) := by decide +kernel
theorem d_Mo_findHeap_2 : decode (am_c m_Mo_findHeap) 2 = .ok (.putfield 256, 3) := by decide +kernel
theorem d_Mo_findHeap_5 : decode (am_c m_Mo_findHeap) 5 = .ok (.iconst 0, 1) := by decide +kernel
theorem d_Mo_findHeap_6 : decode (am_c m_Mo_findHeap) 6 = .ok (.istore_n 3, 1) := by decide +kernel
theorem d_Mo_findHeap_7 : decode (am_c m_Mo_findHeap) 7 = .ok (.iload_n 3, 1) := by decide +kernel
theorem d_Mo_findHeap_8 : decode (am_c m_Mo_findHeap) 8 = .ok (.iconst 2, 1) := by decide +kernel
theorem d_Mo_findHeap_9 : decode (am_c m_Mo_findHeap) 9 = .ok (.if_icmp .ge 50, 3) := by decide +kernel
theorem d_Mo_findHeap_12 : decode (am_c m_Mo_findHeap) 12 = .ok (.aload_n 0, 1) := by decide +kernel
theorem d_Mo_findHeap_13 : decode (am_c m_Mo_findHeap) 13 = .ok (.iload_n 2, 1) := by decide +kernel
theorem d_Mo_findHeap_14 : decode (am_c m_Mo_findHeap) 14 = .ok (.iload_n 3, 1) := by decide +kernel
theorem d_Mo_findHeap_15 : decode (am_c m_Mo_findHeap) 15 = .ok (.invokevirtual 157, 3) := by decide +kernel
theorem d_Mo_findHeap_18 : decode (am_c m_Mo_findHeap) 18 = .ok (.iconst 0, 1) := by decide +kernel
theorem d_Mo_findHeap_19 : decode (am_c m_Mo_findHeap) 19 = .ok (.istore 4, 2) := by decide +kernel
theorem d_Mo_findHeap_21 : decode (am_c m_Mo_findHeap) 21 = .ok (.iload 4, 2) := by decide +kernel
theorem d_Mo_findHeap_23 : decode (am_c m_Mo_findHeap) 23 = .ok (.bipush 16, 2) := by decide +kernel
theorem d_Mo_findHeap_25 : decode (am_c m_Mo_findHeap) 25 = .ok (.if_icmp .ge 28, 3) := by decide +kernel
theorem d_Mo_findHeap_28 : decode (am_c m_Mo_findHeap) 28 = .ok (.aload_n 0, 1) := by decide +kernel
theorem d_Mo_findHeap_29 : decode (am_c m_Mo_findHeap) 29 = .ok (.getfield 72, 3) := by decide +kernel
theorem d_Mo_findHeap_32 : decode (am_c m_Mo_findHeap) 32 = .ok (.bipush 16, 2) := by decide +kernel
theorem d_Mo_findHeap_34 : decode (am_c m_Mo_findHeap) 34 = .ok (.iload_n 3, 1) := by decide +kernel
theorem d_Mo_findHeap_35 : decode (am_c m_Mo_findHeap) 35 = .ok (.imul, 1) := by decide +kernel
theorem d_Mo_findHeap_36 : decode (am_c m_Mo_findHeap) 36 = .ok (.iload 4, 2) := by decide +kernel
theorem d_Mo_findHeap_38 : decode (am_c m_Mo_findHeap) 38 = .ok (.iadd, 1) := by decide +kernel
theorem d_Mo_findHeap_39 : decode (am_c m_Mo_findHeap) 39 = .ok (.aload_n 0, 1) := by decide +kernel
theorem d_Mo_findHeap_40 : decode (am_c m_Mo_findHeap) 40 = .ok (.getfield 69, 3) := by decide +kernel
theorem d_Mo_findHeap_43 : decode (am_c m_Mo_findHeap) 43 = .ok (.iload 4, 2) := by decide +kernel
theorem d_Mo_findHeap_45 : decode (am_c m_Mo_findHeap) 45 = .ok (.iaload, 1) := by decide +kernel
theorem d_Mo_findHeap_46 : decode (am_c m_Mo_findHeap) 46 = .ok (.iastore, 1) := by decide +kernel
theorem d_Mo_findHeap_47 : decode (am_c m_Mo_findHeap) 47 = .ok (.iinc 4 1, 3) := by decide +kernel
theorem d_Mo_findHeap_50 : decode (am_c m_Mo_findHeap) 50 = .ok (.goto (-29), 3) := by decide +kernel
theorem d_Mo_findHeap_53 : decode (am_c m_Mo_findHeap) 53 = .ok (.iinc 3 1, 3) := by decide +kernel
theorem d_Mo_findHeap_56 : decode (am_c m_Mo_findHeap) 56 = .ok (.goto (-49), 3) := by decide +kernel
theorem d_Mo_findHeap_59 : decode (am_c m_Mo_findHeap) 59 = .ok (.iconst 0, 1) := by decide +kernel
theorem d_Mo_findHeap_60 : decode (am_c m_Mo_findHeap) 60 = .ok (.istore_n 3, 1) := by decide +kernel
theorem d_Mo_findHeap_61 : decode (am_c m_Mo_findHeap) 61 = .ok (.iload_n 3, 1) := by decide +kernel
theorem d_Mo_findHeap_62 : decode (am_c m_Mo_findHeap) 62 = .ok (.sipush 1000, 3) := by decide +kernel
theorem d_Mo_findHeap_65 : decode (am_c m_Mo_findHeap) 65 = .ok (.if_icmp .gt 150, 3) := by decide +kernel
theorem d_Mo_findHeap_68 : decode (am_c m_Mo_findHeap) 68 = .ok (.iconst 0, 1) := by decide +kernel
theorem d_Mo_findHeap_69 : decode (am_c m_Mo_findHeap) 69 = .ok (.istore 4, 2) := by decide +kernel
theorem d_Mo_findHeap_71 : decode (am_c m_Mo_findHeap) 71 = .ok (.iconst 0, 1) := by decide +kernel
theorem d_Mo_findHeap_72 : decode (am_c m_Mo_findHeap) 72 = .ok (.istore 5, 2) := by decide +kernel
theorem d_Mo_findHeap_74 : decode (am_c m_Mo_findHeap) 74 = .ok (.iload 5, 2) := by decide +kernel
theorem d_Mo_findHeap_76 : decode (am_c m_Mo_findHeap) 76 = .ok (.aload_n 0, 1) := by decide +kernel
theorem d_Mo_findHeap_77 : decode (am_c m_Mo_findHeap) 77 = .ok (.getfield 132, 3) := by decide +kernel
theorem d_Mo_findHeap_80 : decode (am_c m_Mo_findHeap) 80 = .ok (.if_icmp .ge 86, 3) := by decide +kernel
theorem d_Mo_findHeap_83 : decode (am_c m_Mo_findHeap) 83 = .ok (.aload_n 0, 1) := by decide +kernel
theorem d_Mo_findHeap_84 : decode (am_c m_Mo_findHeap) 84 = .ok (.getfield 41, 3) := by decide +kernel
theorem d_Mo_findHeap_87 : decode (am_c m_Mo_findHeap) 87 = .ok (.iload 5, 2) := by decide +kernel
theorem d_Mo_findHeap_89 : decode (am_c m_Mo_findHeap) 89 = .ok (.iaload, 1) := by decide +kernel
theorem d_Mo_findHeap_90 : decode (am_c m_Mo_findHeap) 90 = .ok (.iload_n 1, 1) := by decide +kernel
theorem d_Mo_findHeap_91 : decode (am_c m_Mo_findHeap) 91 = .ok (.if_icmp .ne 69, 3) := by decide +kernel
theorem d_Mo_findHeap_94 : decode (am_c m_Mo_findHeap) 94 = .ok (.iload_n 3, 1) := by decide +kernel
theorem d_Mo_findHeap_95 : decode (am_c m_Mo_findHeap) 95 = .ok (.aload_n 0, 1) := by decide +kernel
theorem d_Mo_findHeap_96 : decode (am_c m_Mo_findHeap) 96 = .ok (.getfield 72, 3) := by decide +kernel
theorem d_Mo_findHeap_99 : decode (am_c m_Mo_findHeap) 99 = .ok (.bipush 16, 2) := by decide +kernel
theorem d_Mo_findHeap_101 : decode (am_c m_Mo_findHeap) 101 = .ok (.aload_n 0, 1) := by decide +kernel
theorem d_Mo_findHeap_102 : decode (am_c m_Mo_findHeap) 102 = .ok (.getfield 44, 3) := by decide +kernel
theorem d_Mo_findHeap_105 : decode (am_c m_Mo_findHeap) 105 = .ok (.iload 5, 2) := by decide +kernel
theorem d_Mo_findHeap_107 : decode (am_c m_Mo_findHeap) 107 = .ok (.iaload, 1) := by decide +kernel
theorem d_Mo_findHeap_108 : decode (am_c m_Mo_findHeap) 108 = .ok (.imul, 1) := by decide +kernel
theorem d_Mo_findHeap_109 : decode (am_c m_Mo_findHeap) 109 = .ok (.aload_n 0, 1) := by decide +kernel
theorem d_Mo_findHeap_110 : decode (am_c m_Mo_findHeap) 110 = .ok (.getfield 26, 3) := by decide +kernel
theorem d_Mo_findHeap_113 : decode (am_c m_Mo_findHeap) 113 = .ok (.aload_n 0, 1) := by decide +kernel
theorem d_Mo_findHeap_114 : decode (am_c m_Mo_findHeap) 114 = .ok (.getfield 38, 3) := by decide +kernel
theorem d_Mo_findHeap_117 : decode (am_c m_Mo_findHeap) 117 = .ok (.iload 5, 2) := by decide +kernel
theorem d_Mo_findHeap_119 : decode (am_c m_Mo_findHeap) 119 = .ok (.iaload, 1) := by decide +kernel
theorem d_Mo_findHeap_120 : decode (am_c m_Mo_findHeap) 120 = .ok (.iaload, 1) := by decide +kernel
theorem d_Mo_findHeap_121 : decode (am_c m_Mo_findHeap) 121 = .ok (.iadd, 1) := by decide +kernel
theorem d_Mo_findHeap_122 : decode (am_c m_Mo_findHeap) 122 = .ok (.iaload, 1) := by decide +kernel
theorem d_Mo_findHeap_123 : decode (am_c m_Mo_findHeap) 123 = .ok (.iadd, 1) := by decide +kernel
theorem d_Mo_findHeap_124 : decode (am_c m_Mo_findHeap) 124 = .ok (.aload_n 0, 1) := by decide +kernel
theorem d_Mo_findHeap_125 : decode (am_c m_Mo_findHeap) 125 = .ok (.getfield 29, 3) := by decide +kernel
theorem d_Mo_findHeap_128 : decode (am_c m_Mo_findHeap) 128 = .ok (.aload_n 0, 1) := by decide +kernel
theorem d_Mo_findHeap_129 : decode (am_c m_Mo_findHeap) 129 = .ok (.getfield 38, 3) := by decide +kernel
theorem d_Mo_findHeap_132 : decode (am_c m_Mo_findHeap) 132 = .ok (.iload 5, 2) := by decide +kernel
theorem d_Mo_findHeap_134 : decode (am_c m_Mo_findHeap) 134 = .ok (.iaload, 1) := by decide +kernel
theorem d_Mo_findHeap_135 : decode (am_c m_Mo_findHeap) 135 = .ok (.iaload, 1) := by decide +kernel
theorem d_Mo_findHeap_136 : decode (am_c m_Mo_findHeap) 136 = .ok (.iadd, 1) := by decide +kernel
theorem d_Mo_findHeap_137 : decode (am_c m_Mo_findHeap) 137 = .ok (.istore 6, 2) := by decide +kernel
theorem d_Mo_findHeap_139 : decode (am_c m_Mo_findHeap) 139 = .ok (.iload 4, 2) := by decide +kernel
theorem d_Mo_findHeap_141 : decode (am_c m_Mo_findHeap) 141 = .ok (.aload_n 0, 1) := by decide +kernel
theorem d_Mo_findHeap_142 : decode (am_c m_Mo_findHeap) 142 = .ok (.iload 5, 2) := by decide +kernel
theorem d_Mo_findHeap_144 : decode (am_c m_Mo_findHeap) 144 = .ok (.iload 6, 2) := by decide +kernel
theorem d_Mo_findHeap_146 : decode (am_c m_Mo_findHeap) 146 = .ok (.invokevirtual 193, 3) := by decide +kernel
theorem d_Mo_findHeap_149 : decode (am_c m_Mo_findHeap) 149 = .ok (.ifCond .ne 7, 3) := by decide +kernel
theorem d_Mo_findHeap_152 : decode (am_c m_Mo_findHeap) 152 = .ok (.iconst 1, 1) := by decide +kernel
theorem d_Mo_findHeap_153 : decode (am_c m_Mo_findHeap) 153 = .ok (.goto 4, 3) := by decide +kernel
theorem d_Mo_findHeap_156 : decode (am_c m_Mo_findHeap) 156 = .ok (.iconst 0, 1) := by decide +kernel
theorem d_Mo_findHeap_157 : decode (am_c m_Mo_findHeap) 157 = .ok (.iadd, 1) := by decide +kernel
theorem d_Mo_findHeap_158 : decode (am_c m_Mo_findHeap) 158 = .ok (.istore 4, 2) := by decide +kernel
theorem d_Mo_findHeap_160 : decode (am_c m_Mo_findHeap) 160 = .ok (.iinc 5 1, 3) := by decide +kernel
theorem d_Mo_findHeap_163 : decode (am_c m_Mo_findHeap) 163 = .ok (.goto (-89), 3) := by decide +kernel
theorem d_Mo_findHeap_166 : decode (am_c m_Mo_findHeap) 166 = .ok (.aload_n 0, 1) := by decide +kernel
theorem d_Mo_findHeap_167 : decode (am_c m_Mo_findHeap) 167 = .ok (.iload 4, 2) := by decide +kernel
theorem d_Mo_findHeap_169 : decode (am_c m_Mo_findHeap) 169 = .ok (.aload_n 0, 1) := by decide +kernel
theorem d_Mo_findHeap_170 : decode (am_c m_Mo_findHeap) 170 = .ok (.getfield 256, 3) := by decide +kernel
theorem d_Mo_findHeap_173 : decode (am_c m_Mo_findHeap) 173 = .ok (.if_icmp .le 7, 3) := by decide +kernel
theorem d_Mo_findHeap_176 : decode (am_c m_Mo_findHeap) 176 = .ok (.iload_n 3, 1) := by decide +kernel
theorem d_Mo_findHeap_177 : decode (am_c m_Mo_findHeap) 177 = .ok (.goto 7, 3) := by decide +kernel
theorem d_Mo_findHeap_180 : decode (am_c m_Mo_findHeap) 180 = .ok (.aload_n 0, 1) := by decide +kernel
theorem d_Mo_findHeap_181 : decode (am_c m_Mo_findHeap) 181 = .ok (.getfield 259, 3) := by decide +kernel
theorem d_Mo_findHeap_184 : decode (am_c m_Mo_findHeap) 184 = .ok (.putfield 259, 3) := by decide +kernel
theorem d_Mo_findHeap_187 : decode (am_c m_Mo_findHeap) 187 = .ok (.aload_n 0, 1) := by decide +kernel
theorem d_Mo_findHeap_188 : decode (am_c m_Mo_findHeap) 188 = .ok (.iload 4, 2) := by decide +kernel
theorem d_Mo_findHeap_190 : decode (am_c m_Mo_findHeap) 190 = .ok (.aload_n 0, 1) := by decide +kernel
theorem d_Mo_findHeap_191 : decode (am_c m_Mo_findHeap) 191 = .ok (.getfield 256, 3) := by decide +kernel
theorem d_Mo_findHeap_194 : decode (am_c m_Mo_findHeap) 194 = .ok (.if_icmp .le 8, 3) := by decide +kernel
theorem d_Mo_findHeap_197 : decode (am_c m_Mo_findHeap) 197 = .ok (.iload 4, 2) := by decide +kernel
theorem d_Mo_findHeap_199 : decode (am_c m_Mo_findHeap) 199 = .ok (.goto 7, 3) := by decide +kernel
theorem d_Mo_findHeap_202 : decode (am_c m_Mo_findHeap) 202 = .ok (.aload_n 0, 1) := by decide +kernel
theorem d_Mo_findHeap_203 : decode (am_c m_Mo_findHeap) 203 = .ok (.getfield 256, 3) := by decide +kernel
theorem d_Mo_findHeap_206 : decode (am_c m_Mo_findHeap) 206 = .ok (.putfield 256, 3) := by decide +kernel
theorem d_Mo_findHeap_209 : decode (am_c m_Mo_findHeap) 209 = .ok (.iinc 3 1, 3) := by decide +kernel
theorem d_Mo_findHeap_212 : decode (am_c m_Mo_findHeap) 212 = .ok (.goto (-151), 3) := by decide +kernel
theorem d_Mo_findHeap_215 : decode (am_c m_Mo_findHeap) 215 = .ok (.return_, 1) := by decide +kernel
theorem d_Mo_move_0 : decode (am_c m_Mo_move) 0 = .ok (.aload_n 0, 1) := by decide +kernel
theorem d_Mo_move_1 : decode (am_c m_Mo_move) 1 = .ok (.iload_n 1, 1) := by decide +kernel
theorem d_Mo_move_2 : decode (am_c m_Mo_move) 2 = .ok (.invokevirtual 171, 3) := by decide +kernel
theorem d_Mo_move_5 : decode (am_c m_Mo_move) 5 = .ok (.ifCond .ne 6, 3) := by decide +kernel
theorem d_Mo_move_8 : decode (am_c m_Mo_move) 8 = .ok (.bipush (-2), 2) := by decide +kernel
theorem d_Mo_move_10 : decode (am_c m_Mo_move) 10 = .ok (.ireturn, 1) := by decide +kernel
theorem d_Mo_move_11 : decode (am_c m_Mo_move) 11 = .ok (.iconst 0, 1) := by decide +kernel
theorem d_Mo_move_12 : decode (am_c m_Mo_move) 12 = .ok (.istore_n 2, 1) := by decide +kernel
theorem d_Mo_move_13 : decode (am_c m_Mo_move) 13 = .ok (.iconst 0, 1) := by decide +kernel
theorem d_Mo_move_14 : decode (am_c m_Mo_move) 14 = .ok (.istore_n 3, 1) := by decide +kernel
theorem d_Mo_move_15 : decode (am_c m_Mo_move) 15 = .ok (.iload_n 3, 1) := by decide +kernel
theorem d_Mo_move_16 : decode (am_c m_Mo_move) 16 = .ok (.aload_n 0, 1) := by decide +kernel
theorem d_Mo_move_17 : decode (am_c m_Mo_move) 17 = .ok (.getfield 132, 3) := by decide +kernel
theorem d_Mo_move_20 : decode (am_c m_Mo_move) 20 = .ok (.if_icmp .ge 29, 3) := by decide +kernel
theorem d_Mo_move_23 : decode (am_c m_Mo_move) 23 = .ok (.iload_n 2, 1) := by decide +kernel
theorem d_Mo_move_24 : decode (am_c m_Mo_move) 24 = .ok (.ifCond .ne 13, 3) := by decide +kernel
theorem d_Mo_move_27 : decode (am_c m_Mo_move) 27 = .ok (.aload_n 0, 1) := by decide +kernel
theorem d_Mo_move_28 : decode (am_c m_Mo_move) 28 = .ok (.getfield 41, 3) := by decide +kernel
theorem d_Mo_move_31 : decode (am_c m_Mo_move) 31 = .ok (.iload_n 3, 1) := by decide +kernel
theorem d_Mo_move_32 : decode (am_c m_Mo_move) 32 = .ok (.iaload, 1) := by decide +kernel
theorem d_Mo_move_33 : decode (am_c m_Mo_move) 33 = .ok (.iload_n 1, 1) := by decide +kernel
theorem d_Mo_move_34 : decode (am_c m_Mo_move) 34 = .ok (.if_icmp .ne 7, 3) := by decide +kernel
theorem d_Mo_move_37 : decode (am_c m_Mo_move) 37 = .ok (.iconst 1, 1) := by decide +kernel
theorem d_Mo_move_38 : decode (am_c m_Mo_move) 38 = .ok (.goto 4, 3) := by decide +kernel
theorem d_Mo_move_41 : decode (am_c m_Mo_move) 41 = .ok (.iconst 0, 1) := by decide +kernel
theorem d_Mo_move_42 : decode (am_c m_Mo_move) 42 = .ok (.istore_n 2, 1) := by decide +kernel
theorem d_Mo_move_43 : decode (am_c m_Mo_move) 43 = .ok (.iinc 3 1, 3) := by decide +kernel
theorem d_Mo_move_46 : decode (am_c m_Mo_move) 46 = .ok (.goto (-31), 3) := by decide +kernel
theorem d_Mo_move_49 : decode (am_c m_Mo_move) 49 = .ok (.iload_n 2, 1) := by decide +kernel
theorem d_Mo_move_50 : decode (am_c m_Mo_move) 50 = .ok (.ifCond .ne 6, 3) := by decide +kernel
theorem d_Mo_move_53 : decode (am_c m_Mo_move) 53 = .ok (.bipush (-4), 2) := by decide +kernel
theorem d_Mo_move_55 : decode (am_c m_Mo_move) 55 = .ok (.ireturn, 1) := by decide +kernel
theorem d_Mo_move_56 : decode (am_c m_Mo_move) 56 = .ok (.aload_n 0, 1) := by decide +kernel
theorem d_Mo_move_57 : decode (am_c m_Mo_move) 57 = .ok (.aload_n 0, 1) := by decide +kernel
theorem d_Mo_move_58 : decode (am_c m_Mo_move) 58 = .ok (.getfield 174, 3) := by decide +kernel
theorem d_Mo_move_61 : decode (am_c m_Mo_move) 61 = .ok (.invokevirtual 196, 3) := by decide +kernel
theorem d_Mo_move_64 : decode (am_c m_Mo_move) 64 = .ok (.iconst (-1), 1) := by decide +kernel
theorem d_Mo_move_65 : decode (am_c m_Mo_move) 65 = .ok (.istore_n 3, 1) := by decide +kernel
theorem d_Mo_move_66 : decode (am_c m_Mo_move) 66 = .ok (.iconst (-1), 1) := by decide +kernel
theorem d_Mo_move_67 : decode (am_c m_Mo_move) 67 = .ok (.istore 4, 2) := by decide +kernel
theorem d_Mo_move_69 : decode (am_c m_Mo_move) 69 = .ok (.iconst 0, 1) := by decide +kernel
theorem d_Mo_move_70 : decode (am_c m_Mo_move) 70 = .ok (.istore 5, 2) := by decide +kernel
theorem d_Mo_move_72 : decode (am_c m_Mo_move) 72 = .ok (.iconst 0, 1) := by decide +kernel
theorem d_Mo_move_73 : decode (am_c m_Mo_move) 73 = .ok (.istore 6, 2) := by decide +kernel
theorem d_Mo_move_75 : decode (am_c m_Mo_move) 75 = .ok (.iload 6, 2) := by decide +kernel
theorem d_Mo_move_77 : decode (am_c m_Mo_move) 77 = .ok (.aload_n 0, 1) := by decide +kernel
theorem d_Mo_move_78 : decode (am_c m_Mo_move) 78 = .ok (.invokevirtual 118, 3) := by decide +kernel
theorem d_Mo_move_81 : decode (am_c m_Mo_move) 81 = .ok (.if_icmp .ge 72, 3) := by decide +kernel
theorem d_Mo_move_84 : decode (am_c m_Mo_move) 84 = .ok (.aload_n 0, 1) := by decide +kernel
theorem d_Mo_move_85 : decode (am_c m_Mo_move) 85 = .ok (.iload_n 1, 1) := by decide +kernel
theorem d_Mo_move_86 : decode (am_c m_Mo_move) 86 = .ok (.iload 6, 2) := by decide +kernel
theorem d_Mo_move_88 : decode (am_c m_Mo_move) 88 = .ok (.invokevirtual 262, 3) := by decide +kernel
theorem d_Mo_move_91 : decode (am_c m_Mo_move) 91 = .ok (.aload_n 0, 1) := by decide +kernel
theorem d_Mo_move_92 : decode (am_c m_Mo_move) 92 = .ok (.getfield 256, 3) := by decide +kernel
theorem d_Mo_move_95 : decode (am_c m_Mo_move) 95 = .ok (.iload 4, 2) := by decide +kernel
theorem d_Mo_move_97 : decode (am_c m_Mo_move) 97 = .ok (.if_icmp .le 8, 3) := by decide +kernel
theorem d_Mo_move_100 : decode (am_c m_Mo_move) 100 = .ok (.iload 6, 2) := by decide +kernel
theorem d_Mo_move_102 : decode (am_c m_Mo_move) 102 = .ok (.goto 4, 3) := by decide +kernel
theorem d_Mo_move_105 : decode (am_c m_Mo_move) 105 = .ok (.iload_n 3, 1) := by decide +kernel
theorem d_Mo_move_106 : decode (am_c m_Mo_move) 106 = .ok (.istore_n 3, 1) := by decide +kernel
theorem d_Mo_move_107 : decode (am_c m_Mo_move) 107 = .ok (.aload_n 0, 1) := by decide +kernel
theorem d_Mo_move_108 : decode (am_c m_Mo_move) 108 = .ok (.getfield 256, 3) := by decide +kernel
theorem d_Mo_move_111 : decode (am_c m_Mo_move) 111 = .ok (.iload 4, 2) := by decide +kernel
theorem d_Mo_move_113 : decode (am_c m_Mo_move) 113 = .ok (.if_icmp .le 10, 3) := by decide +kernel
theorem d_Mo_move_116 : decode (am_c m_Mo_move) 116 = .ok (.aload_n 0, 1) := by decide +kernel
theorem d_Mo_move_117 : decode (am_c m_Mo_move) 117 = .ok (.getfield 259, 3) := by decide +kernel
theorem d_Mo_move_120 : decode (am_c m_Mo_move) 120 = .ok (.goto 5, 3) := by decide +kernel
theorem d_Mo_move_123 : decode (am_c m_Mo_move) 123 = .ok (.iload 5, 2) := by decide +kernel
theorem d_Mo_move_125 : decode (am_c m_Mo_move) 125 = .ok (.istore 5, 2) := by decide +kernel
theorem d_Mo_move_127 : decode (am_c m_Mo_move) 127 = .ok (.aload_n 0, 1) := by decide +kernel
theorem d_Mo_move_128 : decode (am_c m_Mo_move) 128 = .ok (.getfield 256, 3) := by decide +kernel
theorem d_Mo_move_131 : decode (am_c m_Mo_move) 131 = .ok (.iload 4, 2) := by decide +kernel
theorem d_Mo_move_133 : decode (am_c m_Mo_move) 133 = .ok (.if_icmp .le 10, 3) := by decide +kernel
theorem d_Mo_move_136 : decode (am_c m_Mo_move) 136 = .ok (.aload_n 0, 1) := by decide +kernel
theorem d_Mo_move_137 : decode (am_c m_Mo_move) 137 = .ok (.getfield 256, 3) := by decide +kernel
theorem d_Mo_move_140 : decode (am_c m_Mo_move) 140 = .ok (.goto 5, 3) := by decide +kernel
theorem d_Mo_move_143 : decode (am_c m_Mo_move) 143 = .ok (.iload 4, 2) := by decide +kernel
theorem d_Mo_move_145 : decode (am_c m_Mo_move) 145 = .ok (.istore 4, 2) := by decide +kernel
theorem d_Mo_move_147 : decode (am_c m_Mo_move) 147 = .ok (.iinc 6 1, 3) := by decide +kernel
theorem d_Mo_move_150 : decode (am_c m_Mo_move) 150 = .ok (.goto (-75), 3) := by decide +kernel
theorem d_Mo_move_153 : decode (am_c m_Mo_move) 153 = .ok (.aload_n 0, 1) := by decide +kernel
theorem d_Mo_move_154 : decode (am_c m_Mo_move) 154 = .ok (.getfield 32, 3) := by decide +kernel
theorem d_Mo_move_157 : decode (am_c m_Mo_move) 157 = .ok (.iload_n 1, 1) := by decide +kernel
theorem d_Mo_move_158 : decode (am_c m_Mo_move) 158 = .ok (.iload_n 3, 1) := by decide +kernel
theorem d_Mo_move_159 : decode (am_c m_Mo_move) 159 = .ok (.iastore, 1) := by decide +kernel
theorem d_Mo_move_160 : decode (am_c m_Mo_move) 160 = .ok (.aload_n 0, 1) := by decide +kernel
theorem d_Mo_move_161 : decode (am_c m_Mo_move) 161 = .ok (.getfield 35, 3) := by decide +kernel
theorem d_Mo_move_164 : decode (am_c m_Mo_move) 164 = .ok (.iload_n 1, 1) := by decide +kernel
theorem d_Mo_move_165 : decode (am_c m_Mo_move) 165 = .ok (.iload 5, 2) := by decide +kernel
theorem d_Mo_move_167 : decode (am_c m_Mo_move) 167 = .ok (.iastore, 1) := by decide +kernel
theorem d_Mo_move_168 : decode (am_c m_Mo_move) 168 = .ok (.iload_n 3, 1) := by decide +kernel
theorem d_Mo_move_169 : decode (am_c m_Mo_move) 169 = .ok (.ireturn, 1) := by decide +kernel
theorem d_Mo_off_0 : decode (am_c m_Mo_off) 0 = .ok (.aload_n 0, 1) := by decide +kernel
theorem d_Mo_off_1 : decode (am_c m_Mo_off) 1 = .ok (.iload_n 1, 1) := by decide +kernel
theorem d_Mo_off_2 : decode (am_c m_Mo_off) 2 = .ok (.invokevirtual 168, 3) := by decide +kernel
theorem d_Mo_off_5 : decode (am_c m_Mo_off) 5 = .ok (.ifCond .ne 6, 3) := by decide +kernel
theorem d_Mo_off_8 : decode (am_c m_Mo_off) 8 = .ok (.bipush (-102), 2) := by decide +kernel
theorem d_Mo_off_10 : decode (am_c m_Mo_off) 10 = .ok (.ireturn, 1) := by decide +kernel
theorem d_Mo_off_11 : decode (am_c m_Mo_off) 11 = .ok (.aload_n 0, 1) := by decide +kernel
theorem d_Mo_off_12 : decode (am_c m_Mo_off) 12 = .ok (.aload_n 0, 1) := by decide +kernel
theorem d_Mo_off_13 : decode (am_c m_Mo_off) 13 = .ok (.getfield 174, 3) := by decide +kernel
theorem d_Mo_off_16 : decode (am_c m_Mo_off) 16 = .ok (.invokevirtual 196, 3) := by decide +kernel
theorem d_Mo_off_19 : decode (am_c m_Mo_off) 19 = .ok (.aload_n 0, 1) := by decide +kernel
theorem d_Mo_off_20 : decode (am_c m_Mo_off) 20 = .ok (.invokevirtual 187, 3) := by decide +kernel
theorem d_Mo_off_23 : decode (am_c m_Mo_off) 23 = .ok (.iconst 0, 1) := by decide +kernel
theorem d_Mo_off_24 : decode (am_c m_Mo_off) 24 = .ok (.istore_n 2, 1) := by decide +kernel
theorem d_Mo_off_25 : decode (am_c m_Mo_off) 25 = .ok (.iconst (-1), 1) := by decide +kernel
theorem d_Mo_off_26 : decode (am_c m_Mo_off) 26 = .ok (.istore_n 3, 1) := by decide +kernel
theorem d_Mo_off_27 : decode (am_c m_Mo_off) 27 = .ok (.iconst 0, 1) := by decide +kernel
theorem d_Mo_off_28 : decode (am_c m_Mo_off) 28 = .ok (.istore 4, 2) := by decide +kernel
theorem d_Mo_off_30 : decode (am_c m_Mo_off) 30 = .ok (.iload 4, 2) := by decide +kernel
theorem d_Mo_off_32 : decode (am_c m_Mo_off) 32 = .ok (.sipush 199, 3) := by decide +kernel
theorem d_Mo_off_35 : decode (am_c m_Mo_off) 35 = .ok (.if_icmp .ge 126, 3) := by decide +kernel
theorem d_Mo_off_38 : decode (am_c m_Mo_off) 38 = .ok (.iload 4, 2) := by decide +kernel
theorem d_Mo_off_40 : decode (am_c m_Mo_off) 40 = .ok (.iconst 2, 1) := by decide +kernel
theorem d_Mo_off_41 : decode (am_c m_Mo_off) 41 = .ok (.irem, 1) := by decide +kernel
theorem d_Mo_off_42 : decode (am_c m_Mo_off) 42 = .ok (.iconst 1, 1) := by decide +kernel
theorem d_Mo_off_43 : decode (am_c m_Mo_off) 43 = .ok (.if_icmp .ne 13, 3) := by decide +kernel
theorem d_Mo_off_46 : decode (am_c m_Mo_off) 46 = .ok (.iload 4, 2) := by decide +kernel
theorem d_Mo_off_48 : decode (am_c m_Mo_off) 48 = .ok (.iconst 1, 1) := by decide +kernel
theorem d_Mo_off_49 : decode (am_c m_Mo_off) 49 = .ok (.iadd, 1) := by decide +kernel
theorem d_Mo_off_50 : decode (am_c m_Mo_off) 50 = .ok (.ineg, 1) := by decide +kernel
theorem d_Mo_off_51 : decode (am_c m_Mo_off) 51 = .ok (.iconst 2, 1) := by decide +kernel
theorem d_Mo_off_52 : decode (am_c m_Mo_off) 52 = .ok (.idiv, 1) := by decide +kernel
theorem d_Mo_off_53 : decode (am_c m_Mo_off) 53 = .ok (.goto 7, 3) := by decide +kernel
theorem d_Mo_off_56 : decode (am_c m_Mo_off) 56 = .ok (.iload 4, 2) := by decide +kernel
theorem d_Mo_off_58 : decode (am_c m_Mo_off) 58 = .ok (.iconst 2, 1) := by decide +kernel
theorem d_Mo_off_59 : decode (am_c m_Mo_off) 59 = .ok (.idiv, 1) := by decide +kernel
theorem d_Mo_off_60 : decode (am_c m_Mo_off) 60 = .ok (.istore 5, 2) := by decide +kernel
theorem d_Mo_off_62 : decode (am_c m_Mo_off) 62 = .ok (.iconst 0, 1) := by decide +kernel
theorem d_Mo_off_63 : decode (am_c m_Mo_off) 63 = .ok (.istore 6, 2) := by decide +kernel
theorem d_Mo_off_65 : decode (am_c m_Mo_off) 65 = .ok (.iconst 0, 1) := by decide +kernel
theorem d_Mo_off_66 : decode (am_c m_Mo_off) 66 = .ok (.istore 7, 2) := by decide +kernel
theorem d_Mo_off_68 : decode (am_c m_Mo_off) 68 = .ok (.iload 7, 2) := by decide +kernel
theorem d_Mo_off_70 : decode (am_c m_Mo_off) 70 = .ok (.aload_n 0, 1) := by decide +kernel
theorem d_Mo_off_71 : decode (am_c m_Mo_off) 71 = .ok (.getfield 132, 3) := by decide +kernel
theorem d_Mo_off_74 : decode (am_c m_Mo_off) 74 = .ok (.if_icmp .ge 55, 3) := by decide +kernel
theorem d_Mo_off_77 : decode (am_c m_Mo_off) 77 = .ok (.iload 6, 2) := by decide +kernel
theorem d_Mo_off_79 : decode (am_c m_Mo_off) 79 = .ok (.aload_n 0, 1) := by decide +kernel
theorem d_Mo_off_80 : decode (am_c m_Mo_off) 80 = .ok (.getfield 38, 3) := by decide +kernel
theorem d_Mo_off_83 : decode (am_c m_Mo_off) 83 = .ok (.iload 7, 2) := by decide +kernel
theorem d_Mo_off_85 : decode (am_c m_Mo_off) 85 = .ok (.iaload, 1) := by decide +kernel
theorem d_Mo_off_86 : decode (am_c m_Mo_off) 86 = .ok (.iload_n 1, 1) := by decide +kernel
theorem d_Mo_off_87 : decode (am_c m_Mo_off) 87 = .ok (.if_icmp .ne 32, 3) := by decide +kernel
theorem d_Mo_off_90 : decode (am_c m_Mo_off) 90 = .ok (.aload_n 0, 1) := by decide +kernel
theorem d_Mo_off_91 : decode (am_c m_Mo_off) 91 = .ok (.iload 7, 2) := by decide +kernel
theorem d_Mo_off_93 : decode (am_c m_Mo_off) 93 = .ok (.aload_n 0, 1) := by decide +kernel
theorem d_Mo_off_94 : decode (am_c m_Mo_off) 94 = .ok (.iload 7, 2) := by decide +kernel
theorem d_Mo_off_96 : decode (am_c m_Mo_off) 96 = .ok (.invokevirtual 190, 3) := by decide +kernel
theorem d_Mo_off_99 : decode (am_c m_Mo_off) 99 = .ok (.aload_n 0, 1) := by decide +kernel
theorem d_Mo_off_100 : decode (am_c m_Mo_off) 100 = .ok (.getfield 29, 3) := by decide +kernel
theorem d_Mo_off_103 : decode (am_c m_Mo_off) 103 = .ok (.iload_n 1, 1) := by decide +kernel
theorem d_Mo_off_104 : decode (am_c m_Mo_off) 104 = .ok (.iaload, 1) := by decide +kernel
theorem d_Mo_off_105 : decode (am_c m_Mo_off) 105 = .ok (.isub, 1) := by decide +kernel
theorem d_Mo_off_106 : decode (am_c m_Mo_off) 106 = .ok (.iload 5, 2) := by decide +kernel
theorem d_Mo_off_108 : decode (am_c m_Mo_off) 108 = .ok (.iadd, 1) := by decide +kernel
theorem d_Mo_off_109 : decode (am_c m_Mo_off) 109 = .ok (.invokevirtual 193, 3) := by decide +kernel
theorem d_Mo_off_112 : decode (am_c m_Mo_off) 112 = .ok (.ifCond .ne 7, 3) := by decide +kernel
theorem d_Mo_off_115 : decode (am_c m_Mo_off) 115 = .ok (.iconst 1, 1) := by decide +kernel
theorem d_Mo_off_116 : decode (am_c m_Mo_off) 116 = .ok (.goto 4, 3) := by decide +kernel
theorem d_Mo_off_119 : decode (am_c m_Mo_off) 119 = .ok (.iconst 0, 1) := by decide +kernel
theorem d_Mo_off_120 : decode (am_c m_Mo_off) 120 = .ok (.iadd, 1) := by decide +kernel
theorem d_Mo_off_121 : decode (am_c m_Mo_off) 121 = .ok (.istore 6, 2) := by decide +kernel
theorem d_Mo_off_123 : decode (am_c m_Mo_off) 123 = .ok (.iinc 7 1, 3) := by decide +kernel
theorem d_Mo_off_126 : decode (am_c m_Mo_off) 126 = .ok (.goto (-58), 3) := by decide +kernel
theorem d_Mo_off_129 : decode (am_c m_Mo_off) 129 = .ok (.iload 6, 2) := by decide +kernel
theorem d_Mo_off_131 : decode (am_c m_Mo_off) 131 = .ok (.iload_n 3, 1) := by decide +kernel
theorem d_Mo_off_132 : decode (am_c m_Mo_off) 132 = .ok (.if_icmp .le 8, 3) := by decide +kernel
theorem d_Mo_off_135 : decode (am_c m_Mo_off) 135 = .ok (.iload 5, 2) := by decide +kernel
theorem d_Mo_off_137 : decode (am_c m_Mo_off) 137 = .ok (.goto 4, 3) := by decide +kernel
theorem d_Mo_off_140 : decode (am_c m_Mo_off) 140 = .ok (.iload_n 2, 1) := by decide +kernel
theorem d_Mo_off_141 : decode (am_c m_Mo_off) 141 = .ok (.istore_n 2, 1) := by decide +kernel
theorem d_Mo_off_142 : decode (am_c m_Mo_off) 142 = .ok (.iload 6, 2) := by decide +kernel
theorem d_Mo_off_144 : decode (am_c m_Mo_off) 144 = .ok (.iload_n 3, 1) := by decide +kernel
theorem d_Mo_off_145 : decode (am_c m_Mo_off) 145 = .ok (.if_icmp .le 8, 3) := by decide +kernel
theorem d_Mo_off_148 : decode (am_c m_Mo_off) 148 = .ok (.iload 6, 2) := by decide +kernel
theorem d_Mo_off_150 : decode (am_c m_Mo_off) 150 = .ok (.goto 4, 3) := by decide +kernel
theorem d_Mo_off_153 : decode (am_c m_Mo_off) 153 = .ok (.iload_n 3, 1) := by decide +kernel
theorem d_Mo_off_154 : decode (am_c m_Mo_off) 154 = .ok (.istore_n 3, 1) := by decide +kernel
theorem d_Mo_off_155 : decode (am_c m_Mo_off) 155 = .ok (.iinc 4 1, 3) := by decide +kernel
theorem d_Mo_off_158 : decode (am_c m_Mo_off) 158 = .ok (.goto (-128), 3) := by decide +kernel
theorem d_Mo_off_161 : decode (am_c m_Mo_off) 161 = .ok (.iload_n 2, 1) := by decide +kernel
theorem d_Mo_off_162 : decode (am_c m_Mo_off) 162 = .ok (.ireturn, 1) := by decide +kernel
theorem d_Mo_board_0 : decode (am_c m_Mo_board) 0 = .ok (.iload_n 1, 1) := by decide +kernel
theorem d_Mo_board_1 : decode (am_c m_Mo_board) 1 = .ok (.iconst 1, 1) := by decide +kernel
theorem d_Mo_board_2 : decode (am_c m_Mo_board) 2 = .ok (.bipush 60, 2) := by decide +kernel
theorem d_Mo_board_4 : decode (am_c m_Mo_board) 4 = .ok (.invokestatic 122, 3) := by decide +kernel
theorem d_Mo_board_7 : decode (am_c m_Mo_board) 7 = .ok (.ifCond .eq 23, 3) := by decide +kernel
theorem d_Mo_board_10 : decode (am_c m_Mo_board) 10 = .ok (.iload_n 2, 1) := by decide +kernel
theorem d_Mo_board_11 : decode (am_c m_Mo_board) 11 = .ok (.iconst 1, 1) := by decide +kernel
theorem d_Mo_board_12 : decode (am_c m_Mo_board) 12 = .ok (.bipush 60, 2) := by decide +kernel
theorem d_Mo_board_14 : decode (am_c m_Mo_board) 14 = .ok (.invokestatic 122, 3) := by decide +kernel
theorem d_Mo_board_17 : decode (am_c m_Mo_board) 17 = .ok (.ifCond .eq 13, 3) := by decide +kernel
theorem d_Mo_board_20 : decode (am_c m_Mo_board) 20 = .ok (.iload_n 3, 1) := by decide +kernel
theorem d_Mo_board_21 : decode (am_c m_Mo_board) 21 = .ok (.iconst 0, 1) := by decide +kernel
theorem d_Mo_board_22 : decode (am_c m_Mo_board) 22 = .ok (.bipush 20, 2) := by decide +kernel
theorem d_Mo_board_24 : decode (am_c m_Mo_board) 24 = .ok (.invokestatic 122, 3) := by decide +kernel
theorem d_Mo_board_27 : decode (am_c m_Mo_board) 27 = .ok (.ifCond .ne 6, 3) := by decide +kernel
theorem d_Mo_board_30 : decode (am_c m_Mo_board) 30 = .ok (.bipush (-3), 2) := by decide +kernel
theorem d_Mo_board_32 : decode (am_c m_Mo_board) 32 = .ok (.ireturn, 1) := by decide +kernel
theorem d_Mo_board_33 : decode (am_c m_Mo_board) 33 = .ok (.iconst 0, 1) := by decide +kernel
theorem d_Mo_board_34 : decode (am_c m_Mo_board) 34 = .ok (.istore 4, 2) := by decide +kernel
theorem d_Mo_board_36 : decode (am_c m_Mo_board) 36 = .ok (.iload 4, 2) := by decide +kernel
theorem d_Mo_board_38 : decode (am_c m_Mo_board) 38 = .ok (.bipush 8, 2) := by decide +kernel
theorem d_Mo_board_40 : decode (am_c m_Mo_board) 40 = .ok (.if_icmp .ge 42, 3) := by decide +kernel
theorem d_Mo_board_43 : decode (am_c m_Mo_board) 43 = .ok (.aload_n 0, 1) := by decide +kernel
theorem d_Mo_board_44 : decode (am_c m_Mo_board) 44 = .ok (.getfield 106, 3) := by decide +kernel
theorem d_Mo_board_47 : decode (am_c m_Mo_board) 47 = .ok (.iload 4, 2) := by decide +kernel
theorem d_Mo_board_49 : decode (am_c m_Mo_board) 49 = .ok (.aload_n 0, 1) := by decide +kernel
theorem d_Mo_board_50 : decode (am_c m_Mo_board) 50 = .ok (.getfield 20, 3) := by decide +kernel
theorem d_Mo_board_53 : decode (am_c m_Mo_board) 53 = .ok (.iload 4, 2) := by decide +kernel
theorem d_Mo_board_55 : decode (am_c m_Mo_board) 55 = .ok (.iaload, 1) := by decide +kernel
theorem d_Mo_board_56 : decode (am_c m_Mo_board) 56 = .ok (.iastore, 1) := by decide +kernel
theorem d_Mo_board_57 : decode (am_c m_Mo_board) 57 = .ok (.aload_n 0, 1) := by decide +kernel
theorem d_Mo_board_58 : decode (am_c m_Mo_board) 58 = .ok (.getfield 20, 3) := by decide +kernel
theorem d_Mo_board_61 : decode (am_c m_Mo_board) 61 = .ok (.iload 4, 2) := by decide +kernel
theorem d_Mo_board_63 : decode (am_c m_Mo_board) 63 = .ok (.iload 4, 2) := by decide +kernel
theorem d_Mo_board_65 : decode (am_c m_Mo_board) 65 = .ok (.iconst 2, 1) := by decide +kernel
theorem d_Mo_board_66 : decode (am_c m_Mo_board) 66 = .ok (.irem, 1) := by decide +kernel
theorem d_Mo_board_67 : decode (am_c m_Mo_board) 67 = .ok (.ifCond .ne 7, 3) := by decide +kernel
theorem d_Mo_board_70 : decode (am_c m_Mo_board) 70 = .ok (.iload_n 1, 1) := by decide +kernel
theorem d_Mo_board_71 : decode (am_c m_Mo_board) 71 = .ok (.goto 4, 3) := by decide +kernel
theorem d_Mo_board_74 : decode (am_c m_Mo_board) 74 = .ok (.iload_n 2, 1) := by decide +kernel
theorem d_Mo_board_75 : decode (am_c m_Mo_board) 75 = .ok (.iastore, 1) := by decide +kernel
theorem d_Mo_board_76 : decode (am_c m_Mo_board) 76 = .ok (.iinc 4 1, 3) := by decide +kernel
theorem d_Mo_board_79 : decode (am_c m_Mo_board) 79 = .ok (.goto (-43), 3) := by decide +kernel
theorem d_Mo_board_82 : decode (am_c m_Mo_board) 82 = .ok (.aload_n 0, 1) := by decide +kernel
theorem d_Mo_board_83 : decode (am_c m_Mo_board) 83 = .ok (.invokevirtual 187, 3) := by decide +kernel
theorem d_Mo_board_86 : decode (am_c m_Mo_board) 86 = .ok (.iconst 0, 1) := by decide +kernel
theorem d_Mo_board_87 : decode (am_c m_Mo_board) 87 = .ok (.istore 4, 2) := by decide +kernel
theorem d_Mo_board_89 : decode (am_c m_Mo_board) 89 = .ok (.iload 4, 2) := by decide +kernel
theorem d_Mo_board_91 : decode (am_c m_Mo_board) 91 = .ok (.aload_n 0, 1) := by decide +kernel
theorem d_Mo_board_92 : decode (am_c m_Mo_board) 92 = .ok (.getfield 132, 3) := by decide +kernel
theorem d_Mo_board_95 : decode (am_c m_Mo_board) 95 = .ok (.if_icmp .ge 47, 3) := by decide +kernel
theorem d_Mo_board_98 : decode (am_c m_Mo_board) 98 = .ok (.aload_n 0, 1) := by decide +kernel
theorem d_Mo_board_99 : decode (am_c m_Mo_board) 99 = .ok (.getfield 65, 3) := by decide +kernel
theorem d_Mo_board_102 : decode (am_c m_Mo_board) 102 = .ok (.iload 4, 2) := by decide +kernel
theorem d_Mo_board_104 : decode (am_c m_Mo_board) 104 = .ok (.iconst 1, 1) := by decide +kernel
theorem d_Mo_board_105 : decode (am_c m_Mo_board) 105 = .ok (.bastore, 1) := by decide +kernel
theorem d_Mo_board_106 : decode (am_c m_Mo_board) 106 = .ok (.aload_n 0, 1) := by decide +kernel
theorem d_Mo_board_107 : decode (am_c m_Mo_board) 107 = .ok (.getfield 59, 3) := by decide +kernel
theorem d_Mo_board_110 : decode (am_c m_Mo_board) 110 = .ok (.iload 4, 2) := by decide +kernel
theorem d_Mo_board_112 : decode (am_c m_Mo_board) 112 = .ok (.aload_n 0, 1) := by decide +kernel
theorem d_Mo_board_113 : decode (am_c m_Mo_board) 113 = .ok (.iload 4, 2) := by decide +kernel
theorem d_Mo_board_115 : decode (am_c m_Mo_board) 115 = .ok (.invokevirtual 190, 3) := by decide +kernel
theorem d_Mo_board_118 : decode (am_c m_Mo_board) 118 = .ok (.iload_n 3, 1) := by decide +kernel
theorem d_Mo_board_119 : decode (am_c m_Mo_board) 119 = .ok (.isub, 1) := by decide +kernel
theorem d_Mo_board_120 : decode (am_c m_Mo_board) 120 = .ok (.iastore, 1) := by decide +kernel
theorem d_Mo_board_121 : decode (am_c m_Mo_board) 121 = .ok (.aload_n 0, 1) := by decide +kernel
theorem d_Mo_board_122 : decode (am_c m_Mo_board) 122 = .ok (.getfield 62, 3) := by decide +kernel
theorem d_Mo_board_125 : decode (am_c m_Mo_board) 125 = .ok (.iload 4, 2) := by decide +kernel
theorem d_Mo_board_127 : decode (am_c m_Mo_board) 127 = .ok (.aload_n 0, 1) := by decide +kernel
theorem d_Mo_board_128 : decode (am_c m_Mo_board) 128 = .ok (.iload 4, 2) := by decide +kernel
theorem d_Mo_board_130 : decode (am_c m_Mo_board) 130 = .ok (.invokevirtual 190, 3) := by decide +kernel
theorem d_Mo_board_133 : decode (am_c m_Mo_board) 133 = .ok (.iload_n 3, 1) := by decide +kernel
theorem d_Mo_board_134 : decode (am_c m_Mo_board) 134 = .ok (.iadd, 1) := by decide +kernel
theorem d_Mo_board_135 : decode (am_c m_Mo_board) 135 = .ok (.iastore, 1) := by decide +kernel
theorem d_Mo_board_136 : decode (am_c m_Mo_board) 136 = .ok (.iinc 4 1, 3) := by decide +kernel
theorem d_Mo_board_139 : decode (am_c m_Mo_board) 139 = .ok (.goto (-50), 3) := by decide +kernel
theorem d_Mo_board_142 : decode (am_c m_Mo_board) 142 = .ok (.iconst 0, 1) := by decide +kernel
theorem d_Mo_board_143 : decode (am_c m_Mo_board) 143 = .ok (.istore 4, 2) := by decide +kernel
theorem d_Mo_board_145 : decode (am_c m_Mo_board) 145 = .ok (.iload 4, 2) := by decide +kernel
theorem d_Mo_board_147 : decode (am_c m_Mo_board) 147 = .ok (.bipush 8, 2) := by decide +kernel
theorem d_Mo_board_149 : decode (am_c m_Mo_board) 149 = .ok (.if_icmp .ge 21, 3) := by decide +kernel
theorem d_Mo_board_152 : decode (am_c m_Mo_board) 152 = .ok (.aload_n 0, 1) := by decide +kernel
theorem d_Mo_board_153 : decode (am_c m_Mo_board) 153 = .ok (.getfield 20, 3) := by decide +kernel
theorem d_Mo_board_156 : decode (am_c m_Mo_board) 156 = .ok (.iload 4, 2) := by decide +kernel
theorem d_Mo_board_158 : decode (am_c m_Mo_board) 158 = .ok (.iload_n 1, 1) := by decide +kernel
theorem d_Mo_board_159 : decode (am_c m_Mo_board) 159 = .ok (.iload_n 2, 1) := by decide +kernel
theorem d_Mo_board_160 : decode (am_c m_Mo_board) 160 = .ok (.iadd, 1) := by decide +kernel
theorem d_Mo_board_161 : decode (am_c m_Mo_board) 161 = .ok (.iconst 2, 1) := by decide +kernel
theorem d_Mo_board_162 : decode (am_c m_Mo_board) 162 = .ok (.idiv, 1) := by decide +kernel
theorem d_Mo_board_163 : decode (am_c m_Mo_board) 163 = .ok (.iastore, 1) := by decide +kernel
theorem d_Mo_board_164 : decode (am_c m_Mo_board) 164 = .ok (.iinc 4 1, 3) := by decide +kernel
theorem d_Mo_board_167 : decode (am_c m_Mo_board) 167 = .ok (.goto (-22), 3) := by decide +kernel
theorem d_Mo_board_170 : decode (am_c m_Mo_board) 170 = .ok (.aload_n 0, 1) := by decide +kernel
theorem d_Mo_board_171 : decode (am_c m_Mo_board) 171 = .ok (.bipush 10, 2) := by decide +kernel
theorem d_Mo_board_173 : decode (am_c m_Mo_board) 173 = .ok (.invokevirtual 206, 3) := by decide +kernel
theorem d_Mo_board_176 : decode (am_c m_Mo_board) 176 = .ok (.iconst 0, 1) := by decide +kernel
theorem d_Mo_board_177 : decode (am_c m_Mo_board) 177 = .ok (.istore 4, 2) := by decide +kernel
theorem d_Mo_board_179 : decode (am_c m_Mo_board) 179 = .ok (.iconst 0, 1) := by decide +kernel
theorem d_Mo_board_180 : decode (am_c m_Mo_board) 180 = .ok (.istore 5, 2) := by decide +kernel
theorem d_Mo_board_182 : decode (am_c m_Mo_board) 182 = .ok (.iload 5, 2) := by decide +kernel
theorem d_Mo_board_184 : decode (am_c m_Mo_board) 184 = .ok (.bipush 8, 2) := by decide +kernel
theorem d_Mo_board_186 : decode (am_c m_Mo_board) 186 = .ok (.if_icmp .ge 64, 3) := by decide +kernel
theorem d_Mo_board_189 : decode (am_c m_Mo_board) 189 = .ok (.iload 4, 2) := by decide +kernel
theorem d_Mo_board_191 : decode (am_c m_Mo_board) 191 = .ok (.aload_n 0, 1) := by decide +kernel
theorem d_Mo_board_192 : decode (am_c m_Mo_board) 192 = .ok (.iload 5, 2) := by decide +kernel
theorem d_Mo_board_194 : decode (am_c m_Mo_board) 194 = .ok (.invokevirtual 142, 3) := by decide +kernel
theorem d_Mo_board_197 : decode (am_c m_Mo_board) 197 = .ok (.ifCond .le 29, 3) := by decide +kernel
theorem d_Mo_board_200 : decode (am_c m_Mo_board) 200 = .ok (.aload_n 0, 1) := by decide +kernel
theorem d_Mo_board_201 : decode (am_c m_Mo_board) 201 = .ok (.getfield 20, 3) := by decide +kernel
theorem d_Mo_board_204 : decode (am_c m_Mo_board) 204 = .ok (.iload 5, 2) := by decide +kernel
theorem d_Mo_board_206 : decode (am_c m_Mo_board) 206 = .ok (.iaload, 1) := by decide +kernel
theorem d_Mo_board_207 : decode (am_c m_Mo_board) 207 = .ok (.iload 5, 2) := by decide +kernel
theorem d_Mo_board_209 : decode (am_c m_Mo_board) 209 = .ok (.iconst 2, 1) := by decide +kernel
theorem d_Mo_board_210 : decode (am_c m_Mo_board) 210 = .ok (.irem, 1) := by decide +kernel
theorem d_Mo_board_211 : decode (am_c m_Mo_board) 211 = .ok (.ifCond .ne 7, 3) := by decide +kernel
theorem d_Mo_board_214 : decode (am_c m_Mo_board) 214 = .ok (.iload_n 1, 1) := by decide +kernel
theorem d_Mo_board_215 : decode (am_c m_Mo_board) 215 = .ok (.goto 4, 3) := by decide +kernel
theorem d_Mo_board_218 : decode (am_c m_Mo_board) 218 = .ok (.iload_n 2, 1) := by decide +kernel
theorem d_Mo_board_219 : decode (am_c m_Mo_board) 219 = .ok (.if_icmp .ne 7, 3) := by decide +kernel
theorem d_Mo_board_222 : decode (am_c m_Mo_board) 222 = .ok (.iconst 1, 1) := by decide +kernel
theorem d_Mo_board_223 : decode (am_c m_Mo_board) 223 = .ok (.goto 4, 3) := by decide +kernel
theorem d_Mo_board_226 : decode (am_c m_Mo_board) 226 = .ok (.iconst 0, 1) := by decide +kernel
theorem d_Mo_board_227 : decode (am_c m_Mo_board) 227 = .ok (.iadd, 1) := by decide +kernel
theorem d_Mo_board_228 : decode (am_c m_Mo_board) 228 = .ok (.istore 4, 2) := by decide +kernel
theorem d_Mo_board_230 : decode (am_c m_Mo_board) 230 = .ok (.aload_n 0, 1) := by decide +kernel
theorem d_Mo_board_231 : decode (am_c m_Mo_board) 231 = .ok (.getfield 20, 3) := by decide +kernel
theorem d_Mo_board_234 : decode (am_c m_Mo_board) 234 = .ok (.iload 5, 2) := by decide +kernel
theorem d_Mo_board_236 : decode (am_c m_Mo_board) 236 = .ok (.aload_n 0, 1) := by decide +kernel
theorem d_Mo_board_237 : decode (am_c m_Mo_board) 237 = .ok (.getfield 106, 3) := by decide +kernel
theorem d_Mo_board_240 : decode (am_c m_Mo_board) 240 = .ok (.iload 5, 2) := by decide +kernel
theorem d_Mo_board_242 : decode (am_c m_Mo_board) 242 = .ok (.iaload, 1) := by decide +kernel
theorem d_Mo_board_243 : decode (am_c m_Mo_board) 243 = .ok (.iastore, 1) := by decide +kernel
theorem d_Mo_board_244 : decode (am_c m_Mo_board) 244 = .ok (.iinc 5 1, 3) := by decide +kernel
theorem d_Mo_board_247 : decode (am_c m_Mo_board) 247 = .ok (.goto (-65), 3) := by decide +kernel
theorem d_Mo_board_250 : decode (am_c m_Mo_board) 250 = .ok (.iload 4, 2) := by decide +kernel
theorem d_Mo_board_252 : decode (am_c m_Mo_board) 252 = .ok (.ireturn, 1) := by decide +kernel
theorem d_Mo_write_0 : decode (am_c m_Mo_write) 0 = .ok (.iload_n 3, 1) := by decide +kernel
theorem d_Mo_write_1 : decode (am_c m_Mo_write) 1 = .ok (.iconst 1, 1) := by decide +kernel
theorem d_Mo_write_2 : decode (am_c m_Mo_write) 2 = .ok (.bipush 8, 2) := by decide +kernel
theorem d_Mo_write_4 : decode (am_c m_Mo_write) 4 = .ok (.invokestatic 122, 3) := by decide +kernel
theorem d_Mo_write_7 : decode (am_c m_Mo_write) 7 = .ok (.ifCond .ne 6, 3) := by decide +kernel
theorem d_Mo_write_10 : decode (am_c m_Mo_write) 10 = .ok (.bipush (-3), 2) := by decide +kernel
theorem d_Mo_write_12 : decode (am_c m_Mo_write) 12 = .ok (.ireturn, 1) := by decide +kernel
theorem d_Mo_write_13 : decode (am_c m_Mo_write) 13 = .ok (.aload_n 0, 1) := by decide +kernel
theorem d_Mo_write_14 : decode (am_c m_Mo_write) 14 = .ok (.getfield 265, 3) := by decide +kernel
theorem d_Mo_write_17 : decode (am_c m_Mo_write) 17 = .ok (.iload_n 3, 1) := by decide +kernel
theorem d_Mo_write_18 : decode (am_c m_Mo_write) 18 = .ok (.iadd, 1) := by decide +kernel
theorem d_Mo_write_19 : decode (am_c m_Mo_write) 19 = .ok (.sipush 160, 3) := by decide +kernel
theorem d_Mo_write_22 : decode (am_c m_Mo_write) 22 = .ok (.if_icmp .le 6, 3) := by decide +kernel
theorem d_Mo_write_25 : decode (am_c m_Mo_write) 25 = .ok (.bipush (-5), 2) := by decide +kernel
theorem d_Mo_write_27 : decode (am_c m_Mo_write) 27 = .ok (.ireturn, 1) := by decide +kernel
theorem d_Mo_write_28 : decode (am_c m_Mo_write) 28 = .ok (.iconst 0, 1) := by decide +kernel
theorem d_Mo_write_29 : decode (am_c m_Mo_write) 29 = .ok (.istore 4, 2) := by decide +kernel
theorem d_Mo_write_31 : decode (am_c m_Mo_write) 31 = .ok (.iload 4, 2) := by decide +kernel
theorem d_Mo_write_33 : decode (am_c m_Mo_write) 33 = .ok (.iload_n 3, 1) := by decide +kernel
theorem d_Mo_write_34 : decode (am_c m_Mo_write) 34 = .ok (.if_icmp .ge 33, 3) := by decide +kernel
theorem d_Mo_write_37 : decode (am_c m_Mo_write) 37 = .ok (.aload_n 0, 1) := by decide +kernel
theorem d_Mo_write_38 : decode (am_c m_Mo_write) 38 = .ok (.getfield 91, 3) := by decide +kernel
theorem d_Mo_write_41 : decode (am_c m_Mo_write) 41 = .ok (.aload_n 0, 1) := by decide +kernel
theorem d_Mo_write_42 : decode (am_c m_Mo_write) 42 = .ok (.getfield 265, 3) := by decide +kernel
theorem d_Mo_write_45 : decode (am_c m_Mo_write) 45 = .ok (.iload 4, 2) := by decide +kernel
theorem d_Mo_write_47 : decode (am_c m_Mo_write) 47 = .ok (.iadd, 1) := by decide +kernel
theorem d_Mo_write_48 : decode (am_c m_Mo_write) 48 = .ok (.lload_n 1, 1) := by decide +kernel
theorem d_Mo_write_49 : decode (am_c m_Mo_write) 49 = .ok (.bipush 8, 2) := by decide +kernel
theorem d_Mo_write_51 : decode (am_c m_Mo_write) 51 = .ok (.iload 4, 2) := by decide +kernel
theorem d_Mo_write_53 : decode (am_c m_Mo_write) 53 = .ok (.imul, 1) := by decide +kernel
theorem d_Mo_write_54 : decode (am_c m_Mo_write) 54 = .ok (.lshr, 1) := by decide +kernel
theorem d_Mo_write_55 : decode (am_c m_Mo_write) 55 = .ok (.ldc2_w 268, 3) := by decide +kernel
theorem d_Mo_write_58 : decode (am_c m_Mo_write) 58 = .ok (.land, 1) := by decide +kernel
theorem d_Mo_write_59 : decode (am_c m_Mo_write) 59 = .ok (.l2i, 1) := by decide +kernel
theorem d_Mo_write_60 : decode (am_c m_Mo_write) 60 = .ok (.iastore, 1) := by decide +kernel
theorem d_Mo_write_61 : decode (am_c m_Mo_write) 61 = .ok (.iinc 4 1, 3) := by decide +kernel
theorem d_Mo_write_64 : decode (am_c m_Mo_write) 64 = .ok (.goto (-33), 3) := by decide +kernel
theorem d_Mo_write_67 : decode (am_c m_Mo_write) 67 = .ok (.aload_n 0, 1) := by decide +kernel
theorem d_Mo_write_68 : decode (am_c m_Mo_write) 68 = .ok (.dup, 1) := by decide +kernel
theorem d_Mo_write_69 : decode (am_c m_Mo_write) 69 = .ok (.getfield 265, 3) := by decide +kernel
theorem d_Mo_write_72 : decode (am_c m_Mo_write) 72 = .ok (.iload_n 3, 1) := by decide +kernel
theorem d_Mo_write_73 : decode (am_c m_Mo_write) 73 = .ok (.iadd, 1) := by decide +kernel
theorem d_Mo_write_74 : decode (am_c m_Mo_write) 74 = .ok (.putfield 265, 3) := by decide +kernel
theorem d_Mo_write_77 : decode (am_c m_Mo_write) 77 = .ok (.aload_n 0, 1) := by decide +kernel
theorem d_Mo_write_78 : decode (am_c m_Mo_write) 78 = .ok (.getfield 265, 3) := by decide +kernel
theorem d_Mo_write_81 : decode (am_c m_Mo_write) 81 = .ok (.ireturn, 1) := by decide +kernel
theorem d_Mo_erase_0 : decode (am_c m_Mo_erase) 0 = .ok (.aload_n 0, 1) := by decide +kernel
theorem d_Mo_erase_1 : decode (am_c m_Mo_erase) 1 = .ok (.getfield 265, 3) := by decide +kernel
theorem d_Mo_erase_4 : decode (am_c m_Mo_erase) 4 = .ok (.istore_n 1, 1) := by decide +kernel
theorem d_Mo_erase_5 : decode (am_c m_Mo_erase) 5 = .ok (.aload_n 0, 1) := by decide +kernel
theorem d_Mo_erase_6 : decode (am_c m_Mo_erase) 6 = .ok (.iconst 0, 1) := by decide +kernel
theorem d_Mo_erase_7 : decode (am_c m_Mo_erase) 7 = .ok (.putfield 265, 3) := by decide +kernel
theorem d_Mo_erase_10 : decode (am_c m_Mo_erase) 10 = .ok (.iload_n 1, 1) := by decide +kernel
theorem d_Mo_erase_11 : decode (am_c m_Mo_erase) 11 = .ok (.ireturn, 1) := by decide +kernel
theorem d_Mo_fault_0 : decode (am_c m_Mo_fault) 0 = .ok (.aload_n 0, 1) := by decide +kernel
theorem d_Mo_fault_1 : decode (am_c m_Mo_fault) 1 = .ok (.invokevirtual 341, 3) := by decide +kernel
theorem d_Mo_fault_4 : decode (am_c m_Mo_fault) 4 = .ok (.ifCond .eq 7, 3) := by decide +kernel
theorem d_Mo_fault_7 : decode (am_c m_Mo_fault) 7 = .ok (.iconst (-1), 1) := by decide +kernel
theorem d_Mo_fault_8 : decode (am_c m_Mo_fault) 8 = .ok (.goto 7, 3) := by decide +kernel
theorem d_Mo_fault_11 : decode (am_c m_Mo_fault) 11 = .ok (.aload_n 0, 1) := by decide +kernel
theorem d_Mo_fault_12 : decode (am_c m_Mo_fault) 12 = .ok (.getfield 298, 3) := by decide +kernel
theorem d_Mo_fault_15 : decode (am_c m_Mo_fault) 15 = .ok (.ireturn, 1) := by decide +kernel
theorem d_Mo_isRead_0 : decode (am_c m_Mo_isRead) 0 = .ok (.aload_n 0, 1) := by decide +kernel
theorem d_Mo_isRead_1 : decode (am_c m_Mo_isRead) 1 = .ok (.iconst 0, 1) := by decide +kernel
theorem d_Mo_isRead_2 : decode (am_c m_Mo_isRead) 2 = .ok (.putfield 270, 3) := by decide +kernel
theorem d_Mo_isRead_5 : decode (am_c m_Mo_isRead) 5 = .ok (.aload_n 0, 1) := by decide +kernel
theorem d_Mo_isRead_6 : decode (am_c m_Mo_isRead) 6 = .ok (.iconst 0, 1) := by decide +kernel
theorem d_Mo_isRead_7 : decode (am_c m_Mo_isRead) 7 = .ok (.putfield 301, 3) := by decide +kernel
theorem d_Mo_isRead_10 : decode (am_c m_Mo_isRead) 10 = .ok (.iconst 1, 1) := by decide +kernel
theorem d_Mo_isRead_11 : decode (am_c m_Mo_isRead) 11 = .ok (.istore_n 1, 1) := by decide +kernel
theorem d_Mo_isRead_12 : decode (am_c m_Mo_isRead) 12 = .ok (.iload_n 1, 1) := by decide +kernel
theorem d_Mo_isRead_13 : decode (am_c m_Mo_isRead) 13 = .ok (.ifCond .eq 46, 3) := by decide +kernel
theorem d_Mo_isRead_16 : decode (am_c m_Mo_isRead) 16 = .ok (.aload_n 0, 1) := by decide +kernel
theorem d_Mo_isRead_17 : decode (am_c m_Mo_isRead) 17 = .ok (.invokevirtual 304, 3) := by decide +kernel
theorem d_Mo_isRead_20 : decode (am_c m_Mo_isRead) 20 = .ok (.aload_n 0, 1) := by decide +kernel
theorem d_Mo_isRead_21 : decode (am_c m_Mo_isRead) 21 = .ok (.invokevirtual 338, 3) := by decide +kernel
theorem d_Mo_isRead_24 : decode (am_c m_Mo_isRead) 24 = .ok (.ifCond .ne 5, 3) := by decide +kernel
theorem d_Mo_isRead_27 : decode (am_c m_Mo_isRead) 27 = .ok (.iconst 0, 1) := by decide +kernel
theorem d_Mo_isRead_28 : decode (am_c m_Mo_isRead) 28 = .ok (.ireturn, 1) := by decide +kernel
theorem d_Mo_isRead_29 : decode (am_c m_Mo_isRead) 29 = .ok (.aload_n 0, 1) := by decide +kernel
theorem d_Mo_isRead_30 : decode (am_c m_Mo_isRead) 30 = .ok (.dup, 1) := by decide +kernel
theorem d_Mo_isRead_31 : decode (am_c m_Mo_isRead) 31 = .ok (.getfield 301, 3) := by decide +kernel
theorem d_Mo_isRead_34 : decode (am_c m_Mo_isRead) 34 = .ok (.iconst 1, 1) := by decide +kernel
theorem d_Mo_isRead_35 : decode (am_c m_Mo_isRead) 35 = .ok (.iadd, 1) := by decide +kernel
theorem d_Mo_isRead_36 : decode (am_c m_Mo_isRead) 36 = .ok (.putfield 301, 3) := by decide +kernel
theorem d_Mo_isRead_39 : decode (am_c m_Mo_isRead) 39 = .ok (.aload_n 0, 1) := by decide +kernel
theorem d_Mo_isRead_40 : decode (am_c m_Mo_isRead) 40 = .ok (.getfield 284, 3) := by decide +kernel
theorem d_Mo_isRead_43 : decode (am_c m_Mo_isRead) 43 = .ok (.ldc2_w 296, 3) := by decide +kernel
theorem d_Mo_isRead_46 : decode (am_c m_Mo_isRead) 46 = .ok (.lcmp, 1) := by decide +kernel
theorem d_Mo_isRead_47 : decode (am_c m_Mo_isRead) 47 = .ok (.ifCond .ne 7, 3) := by decide +kernel
theorem d_Mo_isRead_50 : decode (am_c m_Mo_isRead) 50 = .ok (.iconst 1, 1) := by decide +kernel
theorem d_Mo_isRead_51 : decode (am_c m_Mo_isRead) 51 = .ok (.goto 4, 3) := by decide +kernel
theorem d_Mo_isRead_54 : decode (am_c m_Mo_isRead) 54 = .ok (.iconst 0, 1) := by decide +kernel
theorem d_Mo_isRead_55 : decode (am_c m_Mo_isRead) 55 = .ok (.istore_n 1, 1) := by decide +kernel
theorem d_Mo_isRead_56 : decode (am_c m_Mo_isRead) 56 = .ok (.goto (-44), 3) := by decide +kernel
theorem d_Mo_isRead_59 : decode (am_c m_Mo_isRead) 59 = .ok (.aload_n 0, 1) := by decide +kernel
theorem d_Mo_isRead_60 : decode (am_c m_Mo_isRead) 60 = .ok (.getfield 284, 3) := by decide +kernel
theorem d_Mo_isRead_63 : decode (am_c m_Mo_isRead) 63 = .ok (.ldc2_w 282, 3) := by decide +kernel
theorem d_Mo_isRead_66 : decode (am_c m_Mo_isRead) 66 = .ok (.lcmp, 1) := by decide +kernel
theorem d_Mo_isRead_67 : decode (am_c m_Mo_isRead) 67 = .ok (.ifCond .eq 10, 3) := by decide +kernel
theorem d_Mo_isRead_70 : decode (am_c m_Mo_isRead) 70 = .ok (.aload_n 0, 1) := by decide +kernel
theorem d_Mo_isRead_71 : decode (am_c m_Mo_isRead) 71 = .ok (.invokevirtual 310, 3) := by decide +kernel
theorem d_Mo_isRead_74 : decode (am_c m_Mo_isRead) 74 = .ok (.ifCond .eq 7, 3) := by decide +kernel
theorem d_Mo_isRead_77 : decode (am_c m_Mo_isRead) 77 = .ok (.iconst 1, 1) := by decide +kernel
theorem d_Mo_isRead_78 : decode (am_c m_Mo_isRead) 78 = .ok (.goto 4, 3) := by decide +kernel
theorem d_Mo_isRead_81 : decode (am_c m_Mo_isRead) 81 = .ok (.iconst 0, 1) := by decide +kernel
theorem d_Mo_isRead_82 : decode (am_c m_Mo_isRead) 82 = .ok (.ireturn, 1) := by decide +kernel
theorem d_Mo_nextToken_0 : decode (am_c m_Mo_nextToken) 0 = .ok (.aload_n 0, 1) := by decide +kernel
theorem d_Mo_nextToken_1 : decode (am_c m_Mo_nextToken) 1 = .ok (.getfield 270, 3) := by decide +kernel
theorem d_Mo_nextToken_4 : decode (am_c m_Mo_nextToken) 4 = .ok (.aload_n 0, 1) := by decide +kernel
theorem d_Mo_nextToken_5 : decode (am_c m_Mo_nextToken) 5 = .ok (.getfield 265, 3) := by decide +kernel
theorem d_Mo_nextToken_8 : decode (am_c m_Mo_nextToken) 8 = .ok (.if_icmp .ge 30, 3) := by decide +kernel
theorem d_Mo_nextToken_11 : decode (am_c m_Mo_nextToken) 11 = .ok (.aload_n 0, 1) := by decide +kernel
theorem d_Mo_nextToken_12 : decode (am_c m_Mo_nextToken) 12 = .ok (.getfield 91, 3) := by decide +kernel
theorem d_Mo_nextToken_15 : decode (am_c m_Mo_nextToken) 15 = .ok (.aload_n 0, 1) := by decide +kernel
theorem d_Mo_nextToken_16 : decode (am_c m_Mo_nextToken) 16 = .ok (.getfield 270, 3) := by decide +kernel
theorem d_Mo_nextToken_19 : decode (am_c m_Mo_nextToken) 19 = .ok (.iaload, 1) := by decide +kernel
theorem d_Mo_nextToken_20 : decode (am_c m_Mo_nextToken) 20 = .ok (.bipush 32, 2) := by decide +kernel
theorem d_Mo_nextToken_22 : decode (am_c m_Mo_nextToken) 22 = .ok (.if_icmp .ne 16, 3) := by decide +kernel
theorem d_Mo_nextToken_25 : decode (am_c m_Mo_nextToken) 25 = .ok (.aload_n 0, 1) := by decide +kernel
theorem d_Mo_nextToken_26 : decode (am_c m_Mo_nextToken) 26 = .ok (.dup, 1) := by decide +kernel
theorem d_Mo_nextToken_27 : decode (am_c m_Mo_nextToken) 27 = .ok (.getfield 270, 3) := by decide +kernel
theorem d_Mo_nextToken_30 : decode (am_c m_Mo_nextToken) 30 = .ok (.iconst 1, 1) := by decide +kernel
theorem d_Mo_nextToken_31 : decode (am_c m_Mo_nextToken) 31 = .ok (.iadd, 1) := by decide +kernel
theorem d_Mo_nextToken_32 : decode (am_c m_Mo_nextToken) 32 = .ok (.putfield 270, 3) := by decide +kernel
theorem d_Mo_nextToken_35 : decode (am_c m_Mo_nextToken) 35 = .ok (.goto (-35), 3) := by decide +kernel
theorem d_Mo_nextToken_38 : decode (am_c m_Mo_nextToken) 38 = .ok (.aload_n 0, 1) := by decide +kernel
theorem d_Mo_nextToken_39 : decode (am_c m_Mo_nextToken) 39 = .ok (.aload_n 0, 1) := by decide +kernel
theorem d_Mo_nextToken_40 : decode (am_c m_Mo_nextToken) 40 = .ok (.getfield 270, 3) := by decide +kernel
theorem d_Mo_nextToken_43 : decode (am_c m_Mo_nextToken) 43 = .ok (.putfield 273, 3) := by decide +kernel
theorem d_Mo_nextToken_46 : decode (am_c m_Mo_nextToken) 46 = .ok (.aload_n 0, 1) := by decide +kernel
theorem d_Mo_nextToken_47 : decode (am_c m_Mo_nextToken) 47 = .ok (.iconst 0, 1) := by decide +kernel
theorem d_Mo_nextToken_48 : decode (am_c m_Mo_nextToken) 48 = .ok (.putfield 276, 3) := by decide +kernel
theorem d_Mo_nextToken_51 : decode (am_c m_Mo_nextToken) 51 = .ok (.aload_n 0, 1) := by decide +kernel
theorem d_Mo_nextToken_52 : decode (am_c m_Mo_nextToken) 52 = .ok (.iconst 0, 1) := by decide +kernel
theorem d_Mo_nextToken_53 : decode (am_c m_Mo_nextToken) 53 = .ok (.putfield 279, 3) := by decide +kernel
theorem d_Mo_nextToken_56 : decode (am_c m_Mo_nextToken) 56 = .ok (.aload_n 0, 1) := by decide +kernel
theorem d_Mo_nextToken_57 : decode (am_c m_Mo_nextToken) 57 = .ok (.getfield 270, 3) := by decide +kernel
theorem d_Mo_nextToken_60 : decode (am_c m_Mo_nextToken) 60 = .ok (.aload_n 0, 1) := by decide +kernel
theorem d_Mo_nextToken_61 : decode (am_c m_Mo_nextToken) 61 = .ok (.getfield 265, 3) := by decide +kernel
theorem d_Mo_nextToken_64 : decode (am_c m_Mo_nextToken) 64 = .ok (.if_icmp .ne 13, 3) := by decide +kernel
theorem d_Mo_nextToken_67 : decode (am_c m_Mo_nextToken) 67 = .ok (.aload_n 0, 1) := by decide +kernel
theorem d_Mo_nextToken_68 : decode (am_c m_Mo_nextToken) 68 = .ok (.ldc2_w 282, 3) := by decide +kernel
theorem d_Mo_nextToken_71 : decode (am_c m_Mo_nextToken) 71 = .ok (.putfield 284, 3) := by decide +kernel
theorem d_Mo_nextToken_74 : decode (am_c m_Mo_nextToken) 74 = .ok (.goto 320, 3) := by decide +kernel
theorem d_Mo_nextToken_77 : decode (am_c m_Mo_nextToken) 77 = .ok (.aload_n 0, 1) := by decide +kernel
theorem d_Mo_nextToken_78 : decode (am_c m_Mo_nextToken) 78 = .ok (.getfield 91, 3) := by decide +kernel
theorem d_Mo_nextToken_81 : decode (am_c m_Mo_nextToken) 81 = .ok (.aload_n 0, 1) := by decide +kernel
theorem d_Mo_nextToken_82 : decode (am_c m_Mo_nextToken) 82 = .ok (.getfield 270, 3) := by decide +kernel
theorem d_Mo_nextToken_85 : decode (am_c m_Mo_nextToken) 85 = .ok (.iaload, 1) := by decide +kernel
theorem d_Mo_nextToken_86 : decode (am_c m_Mo_nextToken) 86 = .ok (.bipush 97, 2) := by decide +kernel
theorem d_Mo_nextToken_88 : decode (am_c m_Mo_nextToken) 88 = .ok (.bipush 122, 2) := by decide +kernel
theorem d_Mo_nextToken_90 : decode (am_c m_Mo_nextToken) 90 = .ok (.invokestatic 122, 3) := by decide +kernel
theorem d_Mo_nextToken_93 : decode (am_c m_Mo_nextToken) 93 = .ok (.ifCond .eq 129, 3) := by decide +kernel
theorem d_Mo_nextToken_96 : decode (am_c m_Mo_nextToken) 96 = .ok (.aload_n 0, 1) := by decide +kernel
theorem d_Mo_nextToken_97 : decode (am_c m_Mo_nextToken) 97 = .ok (.lconst 0, 1) := by decide +kernel
theorem d_Mo_nextToken_98 : decode (am_c m_Mo_nextToken) 98 = .ok (.putfield 284, 3) := by decide +kernel
theorem d_Mo_nextToken_101 : decode (am_c m_Mo_nextToken) 101 = .ok (.aload_n 0, 1) := by decide +kernel
theorem d_Mo_nextToken_102 : decode (am_c m_Mo_nextToken) 102 = .ok (.getfield 270, 3) := by decide +kernel
theorem d_Mo_nextToken_105 : decode (am_c m_Mo_nextToken) 105 = .ok (.aload_n 0, 1) := by decide +kernel
theorem d_Mo_nextToken_106 : decode (am_c m_Mo_nextToken) 106 = .ok (.getfield 265, 3) := by decide +kernel
theorem d_Mo_nextToken_109 : decode (am_c m_Mo_nextToken) 109 = .ok (.if_icmp .ge 82, 3) := by decide +kernel
theorem d_Mo_nextToken_112 : decode (am_c m_Mo_nextToken) 112 = .ok (.aload_n 0, 1) := by decide +kernel
theorem d_Mo_nextToken_113 : decode (am_c m_Mo_nextToken) 113 = .ok (.getfield 91, 3) := by decide +kernel
theorem d_Mo_nextToken_116 : decode (am_c m_Mo_nextToken) 116 = .ok (.aload_n 0, 1) := by decide +kernel
theorem d_Mo_nextToken_117 : decode (am_c m_Mo_nextToken) 117 = .ok (.getfield 270, 3) := by decide +kernel
theorem d_Mo_nextToken_120 : decode (am_c m_Mo_nextToken) 120 = .ok (.iaload, 1) := by decide +kernel
theorem d_Mo_nextToken_121 : decode (am_c m_Mo_nextToken) 121 = .ok (.bipush 97, 2) := by decide +kernel
theorem d_Mo_nextToken_123 : decode (am_c m_Mo_nextToken) 123 = .ok (.bipush 122, 2) := by decide +kernel
theorem d_Mo_nextToken_125 : decode (am_c m_Mo_nextToken) 125 = .ok (.invokestatic 122, 3) := by decide +kernel
theorem d_Mo_nextToken_128 : decode (am_c m_Mo_nextToken) 128 = .ok (.ifCond .eq 63, 3) := by decide +kernel
theorem d_Mo_nextToken_131 : decode (am_c m_Mo_nextToken) 131 = .ok (.aload_n 0, 1) := by decide +kernel
theorem d_Mo_nextToken_132 : decode (am_c m_Mo_nextToken) 132 = .ok (.aload_n 0, 1) := by decide +kernel
theorem d_Mo_nextToken_133 : decode (am_c m_Mo_nextToken) 133 = .ok (.getfield 270, 3) := by decide +kernel
theorem d_Mo_nextToken_136 : decode (am_c m_Mo_nextToken) 136 = .ok (.aload_n 0, 1) := by decide +kernel
theorem d_Mo_nextToken_137 : decode (am_c m_Mo_nextToken) 137 = .ok (.getfield 273, 3) := by decide +kernel
theorem d_Mo_nextToken_140 : decode (am_c m_Mo_nextToken) 140 = .ok (.isub, 1) := by decide +kernel
theorem d_Mo_nextToken_141 : decode (am_c m_Mo_nextToken) 141 = .ok (.bipush 9, 2) := by decide +kernel
theorem d_Mo_nextToken_143 : decode (am_c m_Mo_nextToken) 143 = .ok (.if_icmp .ge 29, 3) := by decide +kernel
theorem d_Mo_nextToken_146 : decode (am_c m_Mo_nextToken) 146 = .ok (.ldc2_w 288, 3) := by decide +kernel
theorem d_Mo_nextToken_149 : decode (am_c m_Mo_nextToken) 149 = .ok (.aload_n 0, 1) := by decide +kernel
theorem d_Mo_nextToken_150 : decode (am_c m_Mo_nextToken) 150 = .ok (.getfield 284, 3) := by decide +kernel
theorem d_Mo_nextToken_153 : decode (am_c m_Mo_nextToken) 153 = .ok (.lmul, 1) := by decide +kernel
theorem d_Mo_nextToken_154 : decode (am_c m_Mo_nextToken) 154 = .ok (.aload_n 0, 1) := by decide +kernel
theorem d_Mo_nextToken_155 : decode (am_c m_Mo_nextToken) 155 = .ok (.getfield 91, 3) := by decide +kernel
theorem d_Mo_nextToken_158 : decode (am_c m_Mo_nextToken) 158 = .ok (.aload_n 0, 1) := by decide +kernel
theorem d_Mo_nextToken_159 : decode (am_c m_Mo_nextToken) 159 = .ok (.getfield 270, 3) := by decide +kernel
theorem d_Mo_nextToken_162 : decode (am_c m_Mo_nextToken) 162 = .ok (.iaload, 1) := by decide +kernel
theorem d_Mo_nextToken_163 : decode (am_c m_Mo_nextToken) 163 = .ok (.i2l, 1) := by decide +kernel
theorem d_Mo_nextToken_164 : decode (am_c m_Mo_nextToken) 164 = .ok (.ladd, 1) := by decide +kernel
theorem d_Mo_nextToken_165 : decode (am_c m_Mo_nextToken) 165 = .ok (.ldc2_w 290, 3) := by decide +kernel
theorem d_Mo_nextToken_168 : decode (am_c m_Mo_nextToken) 168 = .ok (.lsub, 1) := by decide +kernel
theorem d_Mo_nextToken_169 : decode (am_c m_Mo_nextToken) 169 = .ok (.goto 6, 3) := by decide +kernel
theorem d_Mo_nextToken_172 : decode (am_c m_Mo_nextToken) 172 = .ok (.ldc2_w 292, 3) := by decide +kernel
theorem d_Mo_nextToken_175 : decode (am_c m_Mo_nextToken) 175 = .ok (.putfield 284, 3) := by decide +kernel
theorem d_Mo_nextToken_178 : decode (am_c m_Mo_nextToken) 178 = .ok (.aload_n 0, 1) := by decide +kernel
theorem d_Mo_nextToken_179 : decode (am_c m_Mo_nextToken) 179 = .ok (.dup, 1) := by decide +kernel
theorem d_Mo_nextToken_180 : decode (am_c m_Mo_nextToken) 180 = .ok (.getfield 270, 3) := by decide +kernel
theorem d_Mo_nextToken_183 : decode (am_c m_Mo_nextToken) 183 = .ok (.iconst 1, 1) := by decide +kernel
theorem d_Mo_nextToken_184 : decode (am_c m_Mo_nextToken) 184 = .ok (.iadd, 1) := by decide +kernel
theorem d_Mo_nextToken_185 : decode (am_c m_Mo_nextToken) 185 = .ok (.putfield 270, 3) := by decide +kernel
theorem d_Mo_nextToken_188 : decode (am_c m_Mo_nextToken) 188 = .ok (.goto (-87), 3) := by decide +kernel
theorem d_Mo_nextToken_191 : decode (am_c m_Mo_nextToken) 191 = .ok (.aload_n 0, 1) := by decide +kernel
theorem d_Mo_nextToken_192 : decode (am_c m_Mo_nextToken) 192 = .ok (.aload_n 0, 1) := by decide +kernel
theorem d_Mo_nextToken_193 : decode (am_c m_Mo_nextToken) 193 = .ok (.getfield 270, 3) := by decide +kernel
theorem d_Mo_nextToken_196 : decode (am_c m_Mo_nextToken) 196 = .ok (.aload_n 0, 1) := by decide +kernel
theorem d_Mo_nextToken_197 : decode (am_c m_Mo_nextToken) 197 = .ok (.getfield 273, 3) := by decide +kernel
theorem d_Mo_nextToken_200 : decode (am_c m_Mo_nextToken) 200 = .ok (.isub, 1) := by decide +kernel
theorem d_Mo_nextToken_201 : decode (am_c m_Mo_nextToken) 201 = .ok (.bipush 9, 2) := by decide +kernel
theorem d_Mo_nextToken_203 : decode (am_c m_Mo_nextToken) 203 = .ok (.if_icmp .le 9, 3) := by decide +kernel
theorem d_Mo_nextToken_206 : decode (am_c m_Mo_nextToken) 206 = .ok (.ldc2_w 292, 3) := by decide +kernel
theorem d_Mo_nextToken_209 : decode (am_c m_Mo_nextToken) 209 = .ok (.goto 7, 3) := by decide +kernel
theorem d_Mo_nextToken_212 : decode (am_c m_Mo_nextToken) 212 = .ok (.aload_n 0, 1) := by decide +kernel
theorem d_Mo_nextToken_213 : decode (am_c m_Mo_nextToken) 213 = .ok (.getfield 284, 3) := by decide +kernel
theorem d_Mo_nextToken_216 : decode (am_c m_Mo_nextToken) 216 = .ok (.putfield 284, 3) := by decide +kernel
theorem d_Mo_nextToken_219 : decode (am_c m_Mo_nextToken) 219 = .ok (.goto 175, 3) := by decide +kernel
theorem d_Mo_nextToken_222 : decode (am_c m_Mo_nextToken) 222 = .ok (.aload_n 0, 1) := by decide +kernel
theorem d_Mo_nextToken_223 : decode (am_c m_Mo_nextToken) 223 = .ok (.getfield 91, 3) := by decide +kernel
theorem d_Mo_nextToken_226 : decode (am_c m_Mo_nextToken) 226 = .ok (.aload_n 0, 1) := by decide +kernel
theorem d_Mo_nextToken_227 : decode (am_c m_Mo_nextToken) 227 = .ok (.getfield 270, 3) := by decide +kernel
theorem d_Mo_nextToken_230 : decode (am_c m_Mo_nextToken) 230 = .ok (.iaload, 1) := by decide +kernel
theorem d_Mo_nextToken_231 : decode (am_c m_Mo_nextToken) 231 = .ok (.bipush 48, 2) := by decide +kernel
theorem d_Mo_nextToken_233 : decode (am_c m_Mo_nextToken) 233 = .ok (.bipush 57, 2) := by decide +kernel
theorem d_Mo_nextToken_235 : decode (am_c m_Mo_nextToken) 235 = .ok (.invokestatic 122, 3) := by decide +kernel
theorem d_Mo_nextToken_238 : decode (am_c m_Mo_nextToken) 238 = .ok (.ifCond .eq 119, 3) := by decide +kernel
theorem d_Mo_nextToken_241 : decode (am_c m_Mo_nextToken) 241 = .ok (.aload_n 0, 1) := by decide +kernel
theorem d_Mo_nextToken_242 : decode (am_c m_Mo_nextToken) 242 = .ok (.getfield 270, 3) := by decide +kernel
theorem d_Mo_nextToken_245 : decode (am_c m_Mo_nextToken) 245 = .ok (.aload_n 0, 1) := by decide +kernel
theorem d_Mo_nextToken_246 : decode (am_c m_Mo_nextToken) 246 = .ok (.getfield 265, 3) := by decide +kernel
theorem d_Mo_nextToken_249 : decode (am_c m_Mo_nextToken) 249 = .ok (.if_icmp .ge 84, 3) := by decide +kernel
theorem d_Mo_nextToken_252 : decode (am_c m_Mo_nextToken) 252 = .ok (.aload_n 0, 1) := by decide +kernel
theorem d_Mo_nextToken_253 : decode (am_c m_Mo_nextToken) 253 = .ok (.getfield 91, 3) := by decide +kernel
theorem d_Mo_nextToken_256 : decode (am_c m_Mo_nextToken) 256 = .ok (.aload_n 0, 1) := by decide +kernel
theorem d_Mo_nextToken_257 : decode (am_c m_Mo_nextToken) 257 = .ok (.getfield 270, 3) := by decide +kernel
theorem d_Mo_nextToken_260 : decode (am_c m_Mo_nextToken) 260 = .ok (.iaload, 1) := by decide +kernel
theorem d_Mo_nextToken_261 : decode (am_c m_Mo_nextToken) 261 = .ok (.bipush 48, 2) := by decide +kernel
theorem d_Mo_nextToken_263 : decode (am_c m_Mo_nextToken) 263 = .ok (.bipush 57, 2) := by decide +kernel
theorem d_Mo_nextToken_265 : decode (am_c m_Mo_nextToken) 265 = .ok (.invokestatic 122, 3) := by decide +kernel
theorem d_Mo_nextToken_268 : decode (am_c m_Mo_nextToken) 268 = .ok (.ifCond .eq 65, 3) := by decide +kernel
theorem d_Mo_nextToken_271 : decode (am_c m_Mo_nextToken) 271 = .ok (.aload_n 0, 1) := by decide +kernel
theorem d_Mo_nextToken_272 : decode (am_c m_Mo_nextToken) 272 = .ok (.aload_n 0, 1) := by decide +kernel
theorem d_Mo_nextToken_273 : decode (am_c m_Mo_nextToken) 273 = .ok (.getfield 276, 3) := by decide +kernel
theorem d_Mo_nextToken_276 : decode (am_c m_Mo_nextToken) 276 = .ok (.iconst 4, 1) := by decide +kernel
theorem d_Mo_nextToken_277 : decode (am_c m_Mo_nextToken) 277 = .ok (.if_icmp .ge 26, 3) := by decide +kernel
theorem d_Mo_nextToken_280 : decode (am_c m_Mo_nextToken) 280 = .ok (.bipush 10, 2) := by decide +kernel
theorem d_Mo_nextToken_282 : decode (am_c m_Mo_nextToken) 282 = .ok (.aload_n 0, 1) := by decide +kernel
theorem d_Mo_nextToken_283 : decode (am_c m_Mo_nextToken) 283 = .ok (.getfield 279, 3) := by decide +kernel
theorem d_Mo_nextToken_286 : decode (am_c m_Mo_nextToken) 286 = .ok (.imul, 1) := by decide +kernel
theorem d_Mo_nextToken_287 : decode (am_c m_Mo_nextToken) 287 = .ok (.aload_n 0, 1) := by decide +kernel
theorem d_Mo_nextToken_288 : decode (am_c m_Mo_nextToken) 288 = .ok (.getfield 91, 3) := by decide +kernel
theorem d_Mo_nextToken_291 : decode (am_c m_Mo_nextToken) 291 = .ok (.aload_n 0, 1) := by decide +kernel
theorem d_Mo_nextToken_292 : decode (am_c m_Mo_nextToken) 292 = .ok (.getfield 270, 3) := by decide +kernel
theorem d_Mo_nextToken_295 : decode (am_c m_Mo_nextToken) 295 = .ok (.iaload, 1) := by decide +kernel
theorem d_Mo_nextToken_296 : decode (am_c m_Mo_nextToken) 296 = .ok (.iadd, 1) := by decide +kernel
theorem d_Mo_nextToken_297 : decode (am_c m_Mo_nextToken) 297 = .ok (.bipush 48, 2) := by decide +kernel
theorem d_Mo_nextToken_299 : decode (am_c m_Mo_nextToken) 299 = .ok (.isub, 1) := by decide +kernel
theorem d_Mo_nextToken_300 : decode (am_c m_Mo_nextToken) 300 = .ok (.goto 7, 3) := by decide +kernel
theorem d_Mo_nextToken_303 : decode (am_c m_Mo_nextToken) 303 = .ok (.aload_n 0, 1) := by decide +kernel
theorem d_Mo_nextToken_304 : decode (am_c m_Mo_nextToken) 304 = .ok (.getfield 279, 3) := by decide +kernel
theorem d_Mo_nextToken_307 : decode (am_c m_Mo_nextToken) 307 = .ok (.putfield 279, 3) := by decide +kernel
theorem d_Mo_nextToken_310 : decode (am_c m_Mo_nextToken) 310 = .ok (.aload_n 0, 1) := by decide +kernel
theorem d_Mo_nextToken_311 : decode (am_c m_Mo_nextToken) 311 = .ok (.dup, 1) := by decide +kernel
theorem d_Mo_nextToken_312 : decode (am_c m_Mo_nextToken) 312 = .ok (.getfield 276, 3) := by decide +kernel
theorem d_Mo_nextToken_315 : decode (am_c m_Mo_nextToken) 315 = .ok (.iconst 1, 1) := by decide +kernel
theorem d_Mo_nextToken_316 : decode (am_c m_Mo_nextToken) 316 = .ok (.iadd, 1) := by decide +kernel
theorem d_Mo_nextToken_317 : decode (am_c m_Mo_nextToken) 317 = .ok (.putfield 276, 3) := by decide +kernel
theorem d_Mo_nextToken_320 : decode (am_c m_Mo_nextToken) 320 = .ok (.aload_n 0, 1) := by decide +kernel
theorem d_Mo_nextToken_321 : decode (am_c m_Mo_nextToken) 321 = .ok (.dup, 1) := by decide +kernel
theorem d_Mo_nextToken_322 : decode (am_c m_Mo_nextToken) 322 = .ok (.getfield 270, 3) := by decide +kernel
theorem d_Mo_nextToken_325 : decode (am_c m_Mo_nextToken) 325 = .ok (.iconst 1, 1) := by decide +kernel
theorem d_Mo_nextToken_326 : decode (am_c m_Mo_nextToken) 326 = .ok (.iadd, 1) := by decide +kernel
theorem d_Mo_nextToken_327 : decode (am_c m_Mo_nextToken) 327 = .ok (.putfield 270, 3) := by decide +kernel
theorem d_Mo_nextToken_330 : decode (am_c m_Mo_nextToken) 330 = .ok (.goto (-89), 3) := by decide +kernel
theorem d_Mo_nextToken_333 : decode (am_c m_Mo_nextToken) 333 = .ok (.aload_n 0, 1) := by decide +kernel
theorem d_Mo_nextToken_334 : decode (am_c m_Mo_nextToken) 334 = .ok (.aload_n 0, 1) := by decide +kernel
theorem d_Mo_nextToken_335 : decode (am_c m_Mo_nextToken) 335 = .ok (.getfield 276, 3) := by decide +kernel
theorem d_Mo_nextToken_338 : decode (am_c m_Mo_nextToken) 338 = .ok (.iconst 4, 1) := by decide +kernel
theorem d_Mo_nextToken_339 : decode (am_c m_Mo_nextToken) 339 = .ok (.if_icmp .le 9, 3) := by decide +kernel
theorem d_Mo_nextToken_342 : decode (am_c m_Mo_nextToken) 342 = .ok (.ldc2_w 292, 3) := by decide +kernel
theorem d_Mo_nextToken_345 : decode (am_c m_Mo_nextToken) 345 = .ok (.goto 6, 3) := by decide +kernel
theorem d_Mo_nextToken_348 : decode (am_c m_Mo_nextToken) 348 = .ok (.ldc2_w 294, 3) := by decide +kernel
theorem d_Mo_nextToken_351 : decode (am_c m_Mo_nextToken) 351 = .ok (.putfield 284, 3) := by decide +kernel
theorem d_Mo_nextToken_354 : decode (am_c m_Mo_nextToken) 354 = .ok (.goto 40, 3) := by decide +kernel
theorem d_Mo_nextToken_357 : decode (am_c m_Mo_nextToken) 357 = .ok (.aload_n 0, 1) := by decide +kernel
theorem d_Mo_nextToken_358 : decode (am_c m_Mo_nextToken) 358 = .ok (.aload_n 0, 1) := by decide +kernel
theorem d_Mo_nextToken_359 : decode (am_c m_Mo_nextToken) 359 = .ok (.getfield 91, 3) := by decide +kernel
theorem d_Mo_nextToken_362 : decode (am_c m_Mo_nextToken) 362 = .ok (.aload_n 0, 1) := by decide +kernel
theorem d_Mo_nextToken_363 : decode (am_c m_Mo_nextToken) 363 = .ok (.getfield 270, 3) := by decide +kernel
theorem d_Mo_nextToken_366 : decode (am_c m_Mo_nextToken) 366 = .ok (.iaload, 1) := by decide +kernel
theorem d_Mo_nextToken_367 : decode (am_c m_Mo_nextToken) 367 = .ok (.bipush 59, 2) := by decide +kernel
theorem d_Mo_nextToken_369 : decode (am_c m_Mo_nextToken) 369 = .ok (.if_icmp .ne 9, 3) := by decide +kernel
theorem d_Mo_nextToken_372 : decode (am_c m_Mo_nextToken) 372 = .ok (.ldc2_w 296, 3) := by decide +kernel
theorem d_Mo_nextToken_375 : decode (am_c m_Mo_nextToken) 375 = .ok (.goto 6, 3) := by decide +kernel
theorem d_Mo_nextToken_378 : decode (am_c m_Mo_nextToken) 378 = .ok (.ldc2_w 292, 3) := by decide +kernel
theorem d_Mo_nextToken_381 : decode (am_c m_Mo_nextToken) 381 = .ok (.putfield 284, 3) := by decide +kernel
theorem d_Mo_nextToken_384 : decode (am_c m_Mo_nextToken) 384 = .ok (.aload_n 0, 1) := by decide +kernel
theorem d_Mo_nextToken_385 : decode (am_c m_Mo_nextToken) 385 = .ok (.dup, 1) := by decide +kernel
theorem d_Mo_nextToken_386 : decode (am_c m_Mo_nextToken) 386 = .ok (.getfield 270, 3) := by decide +kernel
theorem d_Mo_nextToken_389 : decode (am_c m_Mo_nextToken) 389 = .ok (.iconst 1, 1) := by decide +kernel
theorem d_Mo_nextToken_390 : decode (am_c m_Mo_nextToken) 390 = .ok (.iadd, 1) := by decide +kernel
theorem d_Mo_nextToken_391 : decode (am_c m_Mo_nextToken) 391 = .ok (.putfield 270, 3) := by decide +kernel
theorem d_Mo_nextToken_394 : decode (am_c m_Mo_nextToken) 394 = .ok (.return_, 1) := by decide +kernel
theorem d_Mo_isStatement_0 : decode (am_c m_Mo_isStatement) 0 = .ok (.aload_n 0, 1) := by decide +kernel
theorem d_Mo_isStatement_1 : decode (am_c m_Mo_isStatement) 1 = .ok (.getfield 284, 3) := by decide +kernel
theorem d_Mo_isStatement_4 : decode (am_c m_Mo_isStatement) 4 = .ok (.ldc2_w 318, 3) := by decide +kernel
theorem d_Mo_isStatement_7 : decode (am_c m_Mo_isStatement) 7 = .ok (.lcmp, 1) := by decide +kernel
theorem d_Mo_isStatement_8 : decode (am_c m_Mo_isStatement) 8 = .ok (.ifCond .ne 14, 3) := by decide +kernel
theorem d_Mo_isStatement_11 : decode (am_c m_Mo_isStatement) 11 = .ok (.aload_n 0, 1) := by decide +kernel
theorem d_Mo_isStatement_12 : decode (am_c m_Mo_isStatement) 12 = .ok (.iconst 0, 1) := by decide +kernel
theorem d_Mo_isStatement_13 : decode (am_c m_Mo_isStatement) 13 = .ok (.bipush 7, 2) := by decide +kernel
theorem d_Mo_isStatement_15 : decode (am_c m_Mo_isStatement) 15 = .ok (.iconst 1, 1) := by decide +kernel
theorem d_Mo_isStatement_16 : decode (am_c m_Mo_isStatement) 16 = .ok (.bipush 60, 2) := by decide +kernel
theorem d_Mo_isStatement_18 : decode (am_c m_Mo_isStatement) 18 = .ok (.invokevirtual 320, 3) := by decide +kernel
theorem d_Mo_isStatement_21 : decode (am_c m_Mo_isStatement) 21 = .ok (.ireturn, 1) := by decide +kernel
theorem d_Mo_isStatement_22 : decode (am_c m_Mo_isStatement) 22 = .ok (.aload_n 0, 1) := by decide +kernel
theorem d_Mo_isStatement_23 : decode (am_c m_Mo_isStatement) 23 = .ok (.getfield 284, 3) := by decide +kernel
theorem d_Mo_isStatement_26 : decode (am_c m_Mo_isStatement) 26 = .ok (.ldc2_w 324, 3) := by decide +kernel
theorem d_Mo_isStatement_29 : decode (am_c m_Mo_isStatement) 29 = .ok (.lcmp, 1) := by decide +kernel
theorem d_Mo_isStatement_30 : decode (am_c m_Mo_isStatement) 30 = .ok (.ifCond .ne 8, 3) := by decide +kernel
theorem d_Mo_isStatement_33 : decode (am_c m_Mo_isStatement) 33 = .ok (.aload_n 0, 1) := by decide +kernel
theorem d_Mo_isStatement_34 : decode (am_c m_Mo_isStatement) 34 = .ok (.invokevirtual 326, 3) := by decide +kernel
theorem d_Mo_isStatement_37 : decode (am_c m_Mo_isStatement) 37 = .ok (.ireturn, 1) := by decide +kernel
theorem d_Mo_isStatement_38 : decode (am_c m_Mo_isStatement) 38 = .ok (.aload_n 0, 1) := by decide +kernel
theorem d_Mo_isStatement_39 : decode (am_c m_Mo_isStatement) 39 = .ok (.getfield 284, 3) := by decide +kernel
theorem d_Mo_isStatement_42 : decode (am_c m_Mo_isStatement) 42 = .ok (.ldc2_w 329, 3) := by decide +kernel
theorem d_Mo_isStatement_45 : decode (am_c m_Mo_isStatement) 45 = .ok (.lcmp, 1) := by decide +kernel
theorem d_Mo_isStatement_46 : decode (am_c m_Mo_isStatement) 46 = .ok (.ifCond .ne 22, 3) := by decide +kernel
theorem d_Mo_isStatement_49 : decode (am_c m_Mo_isStatement) 49 = .ok (.aload_n 0, 1) := by decide +kernel
theorem d_Mo_isStatement_50 : decode (am_c m_Mo_isStatement) 50 = .ok (.iconst 2, 1) := by decide +kernel
theorem d_Mo_isStatement_51 : decode (am_c m_Mo_isStatement) 51 = .ok (.aload_n 0, 1) := by decide +kernel
theorem d_Mo_isStatement_52 : decode (am_c m_Mo_isStatement) 52 = .ok (.getfield 129, 3) := by decide +kernel
theorem d_Mo_isStatement_55 : decode (am_c m_Mo_isStatement) 55 = .ok (.iconst 1, 1) := by decide +kernel
theorem d_Mo_isStatement_56 : decode (am_c m_Mo_isStatement) 56 = .ok (.isub, 1) := by decide +kernel
theorem d_Mo_isStatement_57 : decode (am_c m_Mo_isStatement) 57 = .ok (.iconst 0, 1) := by decide +kernel
theorem d_Mo_isStatement_58 : decode (am_c m_Mo_isStatement) 58 = .ok (.aload_n 0, 1) := by decide +kernel
theorem d_Mo_isStatement_59 : decode (am_c m_Mo_isStatement) 59 = .ok (.invokevirtual 118, 3) := by decide +kernel
theorem d_Mo_isStatement_62 : decode (am_c m_Mo_isStatement) 62 = .ok (.iconst 1, 1) := by decide +kernel
theorem d_Mo_isStatement_63 : decode (am_c m_Mo_isStatement) 63 = .ok (.isub, 1) := by decide +kernel
theorem d_Mo_isStatement_64 : decode (am_c m_Mo_isStatement) 64 = .ok (.invokevirtual 320, 3) := by decide +kernel
theorem d_Mo_isStatement_67 : decode (am_c m_Mo_isStatement) 67 = .ok (.ireturn, 1) := by decide +kernel
theorem d_Mo_isStatement_68 : decode (am_c m_Mo_isStatement) 68 = .ok (.aload_n 0, 1) := by decide +kernel
theorem d_Mo_isStatement_69 : decode (am_c m_Mo_isStatement) 69 = .ok (.getfield 284, 3) := by decide +kernel
theorem d_Mo_isStatement_72 : decode (am_c m_Mo_isStatement) 72 = .ok (.ldc2_w 331, 3) := by decide +kernel
theorem d_Mo_isStatement_75 : decode (am_c m_Mo_isStatement) 75 = .ok (.lcmp, 1) := by decide +kernel
theorem d_Mo_isStatement_76 : decode (am_c m_Mo_isStatement) 76 = .ok (.ifCond .ne 18, 3) := by decide +kernel
theorem d_Mo_isStatement_79 : decode (am_c m_Mo_isStatement) 79 = .ok (.aload_n 0, 1) := by decide +kernel
theorem d_Mo_isStatement_80 : decode (am_c m_Mo_isStatement) 80 = .ok (.iconst 3, 1) := by decide +kernel
theorem d_Mo_isStatement_81 : decode (am_c m_Mo_isStatement) 81 = .ok (.aload_n 0, 1) := by decide +kernel
theorem d_Mo_isStatement_82 : decode (am_c m_Mo_isStatement) 82 = .ok (.getfield 126, 3) := by decide +kernel
theorem d_Mo_isStatement_85 : decode (am_c m_Mo_isStatement) 85 = .ok (.iconst 1, 1) := by decide +kernel
theorem d_Mo_isStatement_86 : decode (am_c m_Mo_isStatement) 86 = .ok (.isub, 1) := by decide +kernel
theorem d_Mo_isStatement_87 : decode (am_c m_Mo_isStatement) 87 = .ok (.iconst 0, 1) := by decide +kernel
theorem d_Mo_isStatement_88 : decode (am_c m_Mo_isStatement) 88 = .ok (.bipush 99, 2) := by decide +kernel
theorem d_Mo_isStatement_90 : decode (am_c m_Mo_isStatement) 90 = .ok (.invokevirtual 320, 3) := by decide +kernel
theorem d_Mo_isStatement_93 : decode (am_c m_Mo_isStatement) 93 = .ok (.ireturn, 1) := by decide +kernel
theorem d_Mo_isStatement_94 : decode (am_c m_Mo_isStatement) 94 = .ok (.aload_n 0, 1) := by decide +kernel
theorem d_Mo_isStatement_95 : decode (am_c m_Mo_isStatement) 95 = .ok (.getfield 284, 3) := by decide +kernel
theorem d_Mo_isStatement_98 : decode (am_c m_Mo_isStatement) 98 = .ok (.ldc2_w 333, 3) := by decide +kernel
theorem d_Mo_isStatement_101 : decode (am_c m_Mo_isStatement) 101 = .ok (.lcmp, 1) := by decide +kernel
theorem d_Mo_isStatement_102 : decode (am_c m_Mo_isStatement) 102 = .ok (.ifCond .ne 10, 3) := by decide +kernel
theorem d_Mo_isStatement_105 : decode (am_c m_Mo_isStatement) 105 = .ok (.aload_n 0, 1) := by decide +kernel
theorem d_Mo_isStatement_106 : decode (am_c m_Mo_isStatement) 106 = .ok (.invokevirtual 335, 3) := by decide +kernel
theorem d_Mo_isStatement_109 : decode (am_c m_Mo_isStatement) 109 = .ok (.goto 7, 3) := by decide +kernel
theorem d_Mo_isStatement_112 : decode (am_c m_Mo_isStatement) 112 = .ok (.aload_n 0, 1) := by decide +kernel
theorem d_Mo_isStatement_113 : decode (am_c m_Mo_isStatement) 113 = .ok (.invokevirtual 310, 3) := by decide +kernel
theorem d_Mo_isStatement_116 : decode (am_c m_Mo_isStatement) 116 = .ok (.ireturn, 1) := by decide +kernel
theorem d_Mo_isTwo_0 : decode (am_c m_Mo_isTwo) 0 = .ok (.aload_n 0, 1) := by decide +kernel
theorem d_Mo_isTwo_1 : decode (am_c m_Mo_isTwo) 1 = .ok (.getfield 94, 3) := by decide +kernel
theorem d_Mo_isTwo_4 : decode (am_c m_Mo_isTwo) 4 = .ok (.aload_n 0, 1) := by decide +kernel
theorem d_Mo_isTwo_5 : decode (am_c m_Mo_isTwo) 5 = .ok (.getfield 301, 3) := by decide +kernel
theorem d_Mo_isTwo_8 : decode (am_c m_Mo_isTwo) 8 = .ok (.iload_n 1, 1) := by decide +kernel
theorem d_Mo_isTwo_9 : decode (am_c m_Mo_isTwo) 9 = .ok (.iastore, 1) := by decide +kernel
theorem d_Mo_isTwo_10 : decode (am_c m_Mo_isTwo) 10 = .ok (.aload_n 0, 1) := by decide +kernel
theorem d_Mo_isTwo_11 : decode (am_c m_Mo_isTwo) 11 = .ok (.invokevirtual 304, 3) := by decide +kernel
theorem d_Mo_isTwo_14 : decode (am_c m_Mo_isTwo) 14 = .ok (.aload_n 0, 1) := by decide +kernel
theorem d_Mo_isTwo_15 : decode (am_c m_Mo_isTwo) 15 = .ok (.iconst 0, 1) := by decide +kernel
theorem d_Mo_isTwo_16 : decode (am_c m_Mo_isTwo) 16 = .ok (.iload_n 2, 1) := by decide +kernel
theorem d_Mo_isTwo_17 : decode (am_c m_Mo_isTwo) 17 = .ok (.invokevirtual 307, 3) := by decide +kernel
theorem d_Mo_isTwo_20 : decode (am_c m_Mo_isTwo) 20 = .ok (.ifCond .ne 8, 3) := by decide +kernel
theorem d_Mo_isTwo_23 : decode (am_c m_Mo_isTwo) 23 = .ok (.aload_n 0, 1) := by decide +kernel
theorem d_Mo_isTwo_24 : decode (am_c m_Mo_isTwo) 24 = .ok (.invokevirtual 310, 3) := by decide +kernel
theorem d_Mo_isTwo_27 : decode (am_c m_Mo_isTwo) 27 = .ok (.ireturn, 1) := by decide +kernel
theorem d_Mo_isTwo_28 : decode (am_c m_Mo_isTwo) 28 = .ok (.aload_n 0, 1) := by decide +kernel
theorem d_Mo_isTwo_29 : decode (am_c m_Mo_isTwo) 29 = .ok (.getfield 97, 3) := by decide +kernel
theorem d_Mo_isTwo_32 : decode (am_c m_Mo_isTwo) 32 = .ok (.aload_n 0, 1) := by decide +kernel
theorem d_Mo_isTwo_33 : decode (am_c m_Mo_isTwo) 33 = .ok (.getfield 301, 3) := by decide +kernel
theorem d_Mo_isTwo_36 : decode (am_c m_Mo_isTwo) 36 = .ok (.aload_n 0, 1) := by decide +kernel
theorem d_Mo_isTwo_37 : decode (am_c m_Mo_isTwo) 37 = .ok (.getfield 279, 3) := by decide +kernel
theorem d_Mo_isTwo_40 : decode (am_c m_Mo_isTwo) 40 = .ok (.iastore, 1) := by decide +kernel
theorem d_Mo_isTwo_41 : decode (am_c m_Mo_isTwo) 41 = .ok (.aload_n 0, 1) := by decide +kernel
theorem d_Mo_isTwo_42 : decode (am_c m_Mo_isTwo) 42 = .ok (.invokevirtual 304, 3) := by decide +kernel
theorem d_Mo_isTwo_45 : decode (am_c m_Mo_isTwo) 45 = .ok (.aload_n 0, 1) := by decide +kernel
theorem d_Mo_isTwo_46 : decode (am_c m_Mo_isTwo) 46 = .ok (.iload_n 3, 1) := by decide +kernel
theorem d_Mo_isTwo_47 : decode (am_c m_Mo_isTwo) 47 = .ok (.iload 4, 2) := by decide +kernel
theorem d_Mo_isTwo_49 : decode (am_c m_Mo_isTwo) 49 = .ok (.invokevirtual 307, 3) := by decide +kernel
theorem d_Mo_isTwo_52 : decode (am_c m_Mo_isTwo) 52 = .ok (.ifCond .ne 8, 3) := by decide +kernel
theorem d_Mo_isTwo_55 : decode (am_c m_Mo_isTwo) 55 = .ok (.aload_n 0, 1) := by decide +kernel
theorem d_Mo_isTwo_56 : decode (am_c m_Mo_isTwo) 56 = .ok (.invokevirtual 310, 3) := by decide +kernel
theorem d_Mo_isTwo_59 : decode (am_c m_Mo_isTwo) 59 = .ok (.ireturn, 1) := by decide +kernel
theorem d_Mo_isTwo_60 : decode (am_c m_Mo_isTwo) 60 = .ok (.aload_n 0, 1) := by decide +kernel
theorem d_Mo_isTwo_61 : decode (am_c m_Mo_isTwo) 61 = .ok (.getfield 100, 3) := by decide +kernel
theorem d_Mo_isTwo_64 : decode (am_c m_Mo_isTwo) 64 = .ok (.aload_n 0, 1) := by decide +kernel
theorem d_Mo_isTwo_65 : decode (am_c m_Mo_isTwo) 65 = .ok (.getfield 301, 3) := by decide +kernel
theorem d_Mo_isTwo_68 : decode (am_c m_Mo_isTwo) 68 = .ok (.aload_n 0, 1) := by decide +kernel
theorem d_Mo_isTwo_69 : decode (am_c m_Mo_isTwo) 69 = .ok (.getfield 279, 3) := by decide +kernel
theorem d_Mo_isTwo_72 : decode (am_c m_Mo_isTwo) 72 = .ok (.iastore, 1) := by decide +kernel
theorem d_Mo_isTwo_73 : decode (am_c m_Mo_isTwo) 73 = .ok (.aload_n 0, 1) := by decide +kernel
theorem d_Mo_isTwo_74 : decode (am_c m_Mo_isTwo) 74 = .ok (.invokevirtual 304, 3) := by decide +kernel
theorem d_Mo_isTwo_77 : decode (am_c m_Mo_isTwo) 77 = .ok (.iconst 1, 1) := by decide +kernel
theorem d_Mo_isTwo_78 : decode (am_c m_Mo_isTwo) 78 = .ok (.ireturn, 1) := by decide +kernel
theorem d_Mo_isNumber_0 : decode (am_c m_Mo_isNumber) 0 = .ok (.aload_n 0, 1) := by decide +kernel
theorem d_Mo_isNumber_1 : decode (am_c m_Mo_isNumber) 1 = .ok (.getfield 284, 3) := by decide +kernel
theorem d_Mo_isNumber_4 : decode (am_c m_Mo_isNumber) 4 = .ok (.ldc2_w 294, 3) := by decide +kernel
theorem d_Mo_isNumber_7 : decode (am_c m_Mo_isNumber) 7 = .ok (.lcmp, 1) := by decide +kernel
theorem d_Mo_isNumber_8 : decode (am_c m_Mo_isNumber) 8 = .ok (.ifCond .ne 19, 3) := by decide +kernel
theorem d_Mo_isNumber_11 : decode (am_c m_Mo_isNumber) 11 = .ok (.aload_n 0, 1) := by decide +kernel
theorem d_Mo_isNumber_12 : decode (am_c m_Mo_isNumber) 12 = .ok (.getfield 279, 3) := by decide +kernel
theorem d_Mo_isNumber_15 : decode (am_c m_Mo_isNumber) 15 = .ok (.iload_n 1, 1) := by decide +kernel
theorem d_Mo_isNumber_16 : decode (am_c m_Mo_isNumber) 16 = .ok (.iload_n 2, 1) := by decide +kernel
theorem d_Mo_isNumber_17 : decode (am_c m_Mo_isNumber) 17 = .ok (.invokestatic 122, 3) := by decide +kernel
theorem d_Mo_isNumber_20 : decode (am_c m_Mo_isNumber) 20 = .ok (.ifCond .eq 7, 3) := by decide +kernel
theorem d_Mo_isNumber_23 : decode (am_c m_Mo_isNumber) 23 = .ok (.iconst 1, 1) := by decide +kernel
theorem d_Mo_isNumber_24 : decode (am_c m_Mo_isNumber) 24 = .ok (.goto 4, 3) := by decide +kernel
theorem d_Mo_isNumber_27 : decode (am_c m_Mo_isNumber) 27 = .ok (.iconst 0, 1) := by decide +kernel
theorem d_Mo_isNumber_28 : decode (am_c m_Mo_isNumber) 28 = .ok (.ireturn, 1) := by decide +kernel
theorem d_Mo_fails_0 : decode (am_c m_Mo_fails) 0 = .ok (.aload_n 0, 1) := by decide +kernel
theorem d_Mo_fails_1 : decode (am_c m_Mo_fails) 1 = .ok (.aload_n 0, 1) := by decide +kernel
theorem d_Mo_fails_2 : decode (am_c m_Mo_fails) 2 = .ok (.getfield 273, 3) := by decide +kernel
theorem d_Mo_fails_5 : decode (am_c m_Mo_fails) 5 = .ok (.putfield 298, 3) := by decide +kernel
theorem d_Mo_fails_8 : decode (am_c m_Mo_fails) 8 = .ok (.iconst 0, 1) := by decide +kernel
theorem d_Mo_fails_9 : decode (am_c m_Mo_fails) 9 = .ok (.ireturn, 1) := by decide +kernel
theorem d_Mo_isFit_0 : decode (am_c m_Mo_isFit) 0 = .ok (.aload_n 0, 1) := by decide +kernel
theorem d_Mo_isFit_1 : decode (am_c m_Mo_isFit) 1 = .ok (.getfield 94, 3) := by decide +kernel
theorem d_Mo_isFit_4 : decode (am_c m_Mo_isFit) 4 = .ok (.aload_n 0, 1) := by decide +kernel
theorem d_Mo_isFit_5 : decode (am_c m_Mo_isFit) 5 = .ok (.getfield 301, 3) := by decide +kernel
theorem d_Mo_isFit_8 : decode (am_c m_Mo_isFit) 8 = .ok (.iconst 1, 1) := by decide +kernel
theorem d_Mo_isFit_9 : decode (am_c m_Mo_isFit) 9 = .ok (.iastore, 1) := by decide +kernel
theorem d_Mo_isFit_10 : decode (am_c m_Mo_isFit) 10 = .ok (.aload_n 0, 1) := by decide +kernel
theorem d_Mo_isFit_11 : decode (am_c m_Mo_isFit) 11 = .ok (.invokevirtual 304, 3) := by decide +kernel
theorem d_Mo_isFit_14 : decode (am_c m_Mo_isFit) 14 = .ok (.aload_n 0, 1) := by decide +kernel
theorem d_Mo_isFit_15 : decode (am_c m_Mo_isFit) 15 = .ok (.iconst 1, 1) := by decide +kernel
theorem d_Mo_isFit_16 : decode (am_c m_Mo_isFit) 16 = .ok (.bipush 10, 2) := by decide +kernel
theorem d_Mo_isFit_18 : decode (am_c m_Mo_isFit) 18 = .ok (.invokevirtual 307, 3) := by decide +kernel
theorem d_Mo_isFit_21 : decode (am_c m_Mo_isFit) 21 = .ok (.ifCond .ne 8, 3) := by decide +kernel
theorem d_Mo_isFit_24 : decode (am_c m_Mo_isFit) 24 = .ok (.aload_n 0, 1) := by decide +kernel
theorem d_Mo_isFit_25 : decode (am_c m_Mo_isFit) 25 = .ok (.invokevirtual 310, 3) := by decide +kernel
theorem d_Mo_isFit_28 : decode (am_c m_Mo_isFit) 28 = .ok (.ireturn, 1) := by decide +kernel
theorem d_Mo_isFit_29 : decode (am_c m_Mo_isFit) 29 = .ok (.aload_n 0, 1) := by decide +kernel
theorem d_Mo_isFit_30 : decode (am_c m_Mo_isFit) 30 = .ok (.getfield 97, 3) := by decide +kernel
theorem d_Mo_isFit_33 : decode (am_c m_Mo_isFit) 33 = .ok (.aload_n 0, 1) := by decide +kernel
theorem d_Mo_isFit_34 : decode (am_c m_Mo_isFit) 34 = .ok (.getfield 301, 3) := by decide +kernel
theorem d_Mo_isFit_37 : decode (am_c m_Mo_isFit) 37 = .ok (.aload_n 0, 1) := by decide +kernel
theorem d_Mo_isFit_38 : decode (am_c m_Mo_isFit) 38 = .ok (.getfield 279, 3) := by decide +kernel
theorem d_Mo_isFit_41 : decode (am_c m_Mo_isFit) 41 = .ok (.iastore, 1) := by decide +kernel
theorem d_Mo_isFit_42 : decode (am_c m_Mo_isFit) 42 = .ok (.aload_n 0, 1) := by decide +kernel
theorem d_Mo_isFit_43 : decode (am_c m_Mo_isFit) 43 = .ok (.invokevirtual 304, 3) := by decide +kernel
theorem d_Mo_isFit_46 : decode (am_c m_Mo_isFit) 46 = .ok (.iconst 1, 1) := by decide +kernel
theorem d_Mo_isFit_47 : decode (am_c m_Mo_isFit) 47 = .ok (.ireturn, 1) := by decide +kernel
theorem d_Mo_isSplit_0 : decode (am_c m_Mo_isSplit) 0 = .ok (.aload_n 0, 1) := by decide +kernel
theorem d_Mo_isSplit_1 : decode (am_c m_Mo_isSplit) 1 = .ok (.getfield 94, 3) := by decide +kernel
theorem d_Mo_isSplit_4 : decode (am_c m_Mo_isSplit) 4 = .ok (.aload_n 0, 1) := by decide +kernel
theorem d_Mo_isSplit_5 : decode (am_c m_Mo_isSplit) 5 = .ok (.getfield 301, 3) := by decide +kernel
theorem d_Mo_isSplit_8 : decode (am_c m_Mo_isSplit) 8 = .ok (.iconst 4, 1) := by decide +kernel
theorem d_Mo_isSplit_9 : decode (am_c m_Mo_isSplit) 9 = .ok (.iastore, 1) := by decide +kernel
theorem d_Mo_isSplit_10 : decode (am_c m_Mo_isSplit) 10 = .ok (.aload_n 0, 1) := by decide +kernel
theorem d_Mo_isSplit_11 : decode (am_c m_Mo_isSplit) 11 = .ok (.invokevirtual 304, 3) := by decide +kernel
theorem d_Mo_isSplit_14 : decode (am_c m_Mo_isSplit) 14 = .ok (.aload_n 0, 1) := by decide +kernel
theorem d_Mo_isSplit_15 : decode (am_c m_Mo_isSplit) 15 = .ok (.iconst 0, 1) := by decide +kernel
theorem d_Mo_isSplit_16 : decode (am_c m_Mo_isSplit) 16 = .ok (.bipush 7, 2) := by decide +kernel
theorem d_Mo_isSplit_18 : decode (am_c m_Mo_isSplit) 18 = .ok (.invokevirtual 307, 3) := by decide +kernel
theorem d_Mo_isSplit_21 : decode (am_c m_Mo_isSplit) 21 = .ok (.ifCond .ne 8, 3) := by decide +kernel
theorem d_Mo_isSplit_24 : decode (am_c m_Mo_isSplit) 24 = .ok (.aload_n 0, 1) := by decide +kernel
theorem d_Mo_isSplit_25 : decode (am_c m_Mo_isSplit) 25 = .ok (.invokevirtual 310, 3) := by decide +kernel
theorem d_Mo_isSplit_28 : decode (am_c m_Mo_isSplit) 28 = .ok (.ireturn, 1) := by decide +kernel
theorem d_Mo_isSplit_29 : decode (am_c m_Mo_isSplit) 29 = .ok (.aload_n 0, 1) := by decide +kernel
theorem d_Mo_isSplit_30 : decode (am_c m_Mo_isSplit) 30 = .ok (.getfield 97, 3) := by decide +kernel
theorem d_Mo_isSplit_33 : decode (am_c m_Mo_isSplit) 33 = .ok (.aload_n 0, 1) := by decide +kernel
theorem d_Mo_isSplit_34 : decode (am_c m_Mo_isSplit) 34 = .ok (.getfield 301, 3) := by decide +kernel
theorem d_Mo_isSplit_37 : decode (am_c m_Mo_isSplit) 37 = .ok (.aload_n 0, 1) := by decide +kernel
theorem d_Mo_isSplit_38 : decode (am_c m_Mo_isSplit) 38 = .ok (.getfield 279, 3) := by decide +kernel
theorem d_Mo_isSplit_41 : decode (am_c m_Mo_isSplit) 41 = .ok (.iastore, 1) := by decide +kernel
theorem d_Mo_isSplit_42 : decode (am_c m_Mo_isSplit) 42 = .ok (.aload_n 0, 1) := by decide +kernel
theorem d_Mo_isSplit_43 : decode (am_c m_Mo_isSplit) 43 = .ok (.getfield 100, 3) := by decide +kernel
theorem d_Mo_isSplit_46 : decode (am_c m_Mo_isSplit) 46 = .ok (.aload_n 0, 1) := by decide +kernel
theorem d_Mo_isSplit_47 : decode (am_c m_Mo_isSplit) 47 = .ok (.getfield 301, 3) := by decide +kernel
theorem d_Mo_isSplit_50 : decode (am_c m_Mo_isSplit) 50 = .ok (.iconst 0, 1) := by decide +kernel
theorem d_Mo_isSplit_51 : decode (am_c m_Mo_isSplit) 51 = .ok (.iastore, 1) := by decide +kernel
theorem d_Mo_isSplit_52 : decode (am_c m_Mo_isSplit) 52 = .ok (.aload_n 0, 1) := by decide +kernel
theorem d_Mo_isSplit_53 : decode (am_c m_Mo_isSplit) 53 = .ok (.invokevirtual 304, 3) := by decide +kernel
theorem d_Mo_isSplit_56 : decode (am_c m_Mo_isSplit) 56 = .ok (.aload_n 0, 1) := by decide +kernel
theorem d_Mo_isSplit_57 : decode (am_c m_Mo_isSplit) 57 = .ok (.getfield 284, 3) := by decide +kernel
theorem d_Mo_isSplit_60 : decode (am_c m_Mo_isSplit) 60 = .ok (.ldc2_w 314, 3) := by decide +kernel
theorem d_Mo_isSplit_63 : decode (am_c m_Mo_isSplit) 63 = .ok (.lcmp, 1) := by decide +kernel
theorem d_Mo_isSplit_64 : decode (am_c m_Mo_isSplit) 64 = .ok (.ifCond .eq 8, 3) := by decide +kernel
theorem d_Mo_isSplit_67 : decode (am_c m_Mo_isSplit) 67 = .ok (.aload_n 0, 1) := by decide +kernel
theorem d_Mo_isSplit_68 : decode (am_c m_Mo_isSplit) 68 = .ok (.invokevirtual 310, 3) := by decide +kernel
theorem d_Mo_isSplit_71 : decode (am_c m_Mo_isSplit) 71 = .ok (.ireturn, 1) := by decide +kernel
theorem d_Mo_isSplit_72 : decode (am_c m_Mo_isSplit) 72 = .ok (.iconst 1, 1) := by decide +kernel
theorem d_Mo_isSplit_73 : decode (am_c m_Mo_isSplit) 73 = .ok (.istore_n 1, 1) := by decide +kernel
theorem d_Mo_isSplit_74 : decode (am_c m_Mo_isSplit) 74 = .ok (.iload_n 1, 1) := by decide +kernel
theorem d_Mo_isSplit_75 : decode (am_c m_Mo_isSplit) 75 = .ok (.ifCond .eq 75, 3) := by decide +kernel
theorem d_Mo_isSplit_78 : decode (am_c m_Mo_isSplit) 78 = .ok (.aload_n 0, 1) := by decide +kernel
theorem d_Mo_isSplit_79 : decode (am_c m_Mo_isSplit) 79 = .ok (.invokevirtual 304, 3) := by decide +kernel
theorem d_Mo_isSplit_82 : decode (am_c m_Mo_isSplit) 82 = .ok (.aload_n 0, 1) := by decide +kernel
theorem d_Mo_isSplit_83 : decode (am_c m_Mo_isSplit) 83 = .ok (.iconst 0, 1) := by decide +kernel
theorem d_Mo_isSplit_84 : decode (am_c m_Mo_isSplit) 84 = .ok (.aload_n 0, 1) := by decide +kernel
theorem d_Mo_isSplit_85 : decode (am_c m_Mo_isSplit) 85 = .ok (.invokevirtual 118, 3) := by decide +kernel
theorem d_Mo_isSplit_88 : decode (am_c m_Mo_isSplit) 88 = .ok (.iconst 1, 1) := by decide +kernel
theorem d_Mo_isSplit_89 : decode (am_c m_Mo_isSplit) 89 = .ok (.isub, 1) := by decide +kernel
theorem d_Mo_isSplit_90 : decode (am_c m_Mo_isSplit) 90 = .ok (.invokevirtual 307, 3) := by decide +kernel
theorem d_Mo_isSplit_93 : decode (am_c m_Mo_isSplit) 93 = .ok (.ifCond .ne 8, 3) := by decide +kernel
theorem d_Mo_isSplit_96 : decode (am_c m_Mo_isSplit) 96 = .ok (.aload_n 0, 1) := by decide +kernel
theorem d_Mo_isSplit_97 : decode (am_c m_Mo_isSplit) 97 = .ok (.invokevirtual 310, 3) := by decide +kernel
theorem d_Mo_isSplit_100 : decode (am_c m_Mo_isSplit) 100 = .ok (.ireturn, 1) := by decide +kernel
theorem d_Mo_isSplit_101 : decode (am_c m_Mo_isSplit) 101 = .ok (.aload_n 0, 1) := by decide +kernel
theorem d_Mo_isSplit_102 : decode (am_c m_Mo_isSplit) 102 = .ok (.getfield 100, 3) := by decide +kernel
theorem d_Mo_isSplit_105 : decode (am_c m_Mo_isSplit) 105 = .ok (.aload_n 0, 1) := by decide +kernel
theorem d_Mo_isSplit_106 : decode (am_c m_Mo_isSplit) 106 = .ok (.getfield 301, 3) := by decide +kernel
theorem d_Mo_isSplit_109 : decode (am_c m_Mo_isSplit) 109 = .ok (.aload_n 0, 1) := by decide +kernel
theorem d_Mo_isSplit_110 : decode (am_c m_Mo_isSplit) 110 = .ok (.getfield 100, 3) := by decide +kernel
theorem d_Mo_isSplit_113 : decode (am_c m_Mo_isSplit) 113 = .ok (.aload_n 0, 1) := by decide +kernel
theorem d_Mo_isSplit_114 : decode (am_c m_Mo_isSplit) 114 = .ok (.getfield 301, 3) := by decide +kernel
theorem d_Mo_isSplit_117 : decode (am_c m_Mo_isSplit) 117 = .ok (.iaload, 1) := by decide +kernel
theorem d_Mo_isSplit_118 : decode (am_c m_Mo_isSplit) 118 = .ok (.iconst 1, 1) := by decide +kernel
theorem d_Mo_isSplit_119 : decode (am_c m_Mo_isSplit) 119 = .ok (.aload_n 0, 1) := by decide +kernel
theorem d_Mo_isSplit_120 : decode (am_c m_Mo_isSplit) 120 = .ok (.getfield 279, 3) := by decide +kernel
theorem d_Mo_isSplit_123 : decode (am_c m_Mo_isSplit) 123 = .ok (.ishl, 1) := by decide +kernel
theorem d_Mo_isSplit_124 : decode (am_c m_Mo_isSplit) 124 = .ok (.ior, 1) := by decide +kernel
theorem d_Mo_isSplit_125 : decode (am_c m_Mo_isSplit) 125 = .ok (.iastore, 1) := by decide +kernel
theorem d_Mo_isSplit_126 : decode (am_c m_Mo_isSplit) 126 = .ok (.aload_n 0, 1) := by decide +kernel
theorem d_Mo_isSplit_127 : decode (am_c m_Mo_isSplit) 127 = .ok (.invokevirtual 304, 3) := by decide +kernel
theorem d_Mo_isSplit_130 : decode (am_c m_Mo_isSplit) 130 = .ok (.aload_n 0, 1) := by decide +kernel
theorem d_Mo_isSplit_131 : decode (am_c m_Mo_isSplit) 131 = .ok (.getfield 284, 3) := by decide +kernel
theorem d_Mo_isSplit_134 : decode (am_c m_Mo_isSplit) 134 = .ok (.ldc2_w 316, 3) := by decide +kernel
theorem d_Mo_isSplit_137 : decode (am_c m_Mo_isSplit) 137 = .ok (.lcmp, 1) := by decide +kernel
theorem d_Mo_isSplit_138 : decode (am_c m_Mo_isSplit) 138 = .ok (.ifCond .ne 7, 3) := by decide +kernel
theorem d_Mo_isSplit_141 : decode (am_c m_Mo_isSplit) 141 = .ok (.iconst 1, 1) := by decide +kernel
theorem d_Mo_isSplit_142 : decode (am_c m_Mo_isSplit) 142 = .ok (.goto 4, 3) := by decide +kernel
theorem d_Mo_isSplit_145 : decode (am_c m_Mo_isSplit) 145 = .ok (.iconst 0, 1) := by decide +kernel
theorem d_Mo_isSplit_146 : decode (am_c m_Mo_isSplit) 146 = .ok (.istore_n 1, 1) := by decide +kernel
theorem d_Mo_isSplit_147 : decode (am_c m_Mo_isSplit) 147 = .ok (.goto (-73), 3) := by decide +kernel
theorem d_Mo_isSplit_150 : decode (am_c m_Mo_isSplit) 150 = .ok (.iconst 1, 1) := by decide +kernel
theorem d_Mo_isSplit_151 : decode (am_c m_Mo_isSplit) 151 = .ok (.ireturn, 1) := by decide +kernel
theorem d_Mo_run_0 : decode (am_c m_Mo_run) 0 = .ok (.aload_n 0, 1) := by decide +kernel
theorem d_Mo_run_1 : decode (am_c m_Mo_run) 1 = .ok (.invokevirtual 341, 3) := by decide +kernel
theorem d_Mo_run_4 : decode (am_c m_Mo_run) 4 = .ok (.ifCond .ne 6, 3) := by decide +kernel
theorem d_Mo_run_7 : decode (am_c m_Mo_run) 7 = .ok (.bipush (-4), 2) := by decide +kernel
theorem d_Mo_run_9 : decode (am_c m_Mo_run) 9 = .ok (.ireturn, 1) := by decide +kernel
theorem d_Mo_run_10 : decode (am_c m_Mo_run) 10 = .ok (.iconst 0, 1) := by decide +kernel
theorem d_Mo_run_11 : decode (am_c m_Mo_run) 11 = .ok (.istore_n 1, 1) := by decide +kernel
theorem d_Mo_run_12 : decode (am_c m_Mo_run) 12 = .ok (.iload_n 1, 1) := by decide +kernel
theorem d_Mo_run_13 : decode (am_c m_Mo_run) 13 = .ok (.bipush 16, 2) := by decide +kernel
theorem d_Mo_run_15 : decode (am_c m_Mo_run) 15 = .ok (.if_icmp .ge 21, 3) := by decide +kernel
theorem d_Mo_run_18 : decode (am_c m_Mo_run) 18 = .ok (.aload_n 0, 1) := by decide +kernel
theorem d_Mo_run_19 : decode (am_c m_Mo_run) 19 = .ok (.getfield 103, 3) := by decide +kernel
theorem d_Mo_run_22 : decode (am_c m_Mo_run) 22 = .ok (.iload_n 1, 1) := by decide +kernel
theorem d_Mo_run_23 : decode (am_c m_Mo_run) 23 = .ok (.aload_n 0, 1) := by decide +kernel
theorem d_Mo_run_24 : decode (am_c m_Mo_run) 24 = .ok (.getfield 16, 3) := by decide +kernel
theorem d_Mo_run_27 : decode (am_c m_Mo_run) 27 = .ok (.iload_n 1, 1) := by decide +kernel
theorem d_Mo_run_28 : decode (am_c m_Mo_run) 28 = .ok (.iaload, 1) := by decide +kernel
theorem d_Mo_run_29 : decode (am_c m_Mo_run) 29 = .ok (.iastore, 1) := by decide +kernel
theorem d_Mo_run_30 : decode (am_c m_Mo_run) 30 = .ok (.iinc 1 1, 3) := by decide +kernel
theorem d_Mo_run_33 : decode (am_c m_Mo_run) 33 = .ok (.goto (-21), 3) := by decide +kernel
theorem d_Mo_run_36 : decode (am_c m_Mo_run) 36 = .ok (.iconst 0, 1) := by decide +kernel
theorem d_Mo_run_37 : decode (am_c m_Mo_run) 37 = .ok (.istore_n 1, 1) := by decide +kernel
theorem d_Mo_run_38 : decode (am_c m_Mo_run) 38 = .ok (.iload_n 1, 1) := by decide +kernel
theorem d_Mo_run_39 : decode (am_c m_Mo_run) 39 = .ok (.bipush 8, 2) := by decide +kernel
theorem d_Mo_run_41 : decode (am_c m_Mo_run) 41 = .ok (.if_icmp .ge 21, 3) := by decide +kernel
theorem d_Mo_run_44 : decode (am_c m_Mo_run) 44 = .ok (.aload_n 0, 1) := by decide +kernel
theorem d_Mo_run_45 : decode (am_c m_Mo_run) 45 = .ok (.getfield 106, 3) := by decide +kernel
theorem d_Mo_run_48 : decode (am_c m_Mo_run) 48 = .ok (.iload_n 1, 1) := by decide +kernel
theorem d_Mo_run_49 : decode (am_c m_Mo_run) 49 = .ok (.aload_n 0, 1) := by decide +kernel
theorem d_Mo_run_50 : decode (am_c m_Mo_run) 50 = .ok (.getfield 20, 3) := by decide +kernel
theorem d_Mo_run_53 : decode (am_c m_Mo_run) 53 = .ok (.iload_n 1, 1) := by decide +kernel
theorem d_Mo_run_54 : decode (am_c m_Mo_run) 54 = .ok (.iaload, 1) := by decide +kernel
theorem d_Mo_run_55 : decode (am_c m_Mo_run) 55 = .ok (.iastore, 1) := by decide +kernel
theorem d_Mo_run_56 : decode (am_c m_Mo_run) 56 = .ok (.iinc 1 1, 3) := by decide +kernel
theorem d_Mo_run_59 : decode (am_c m_Mo_run) 59 = .ok (.goto (-21), 3) := by decide +kernel
theorem d_Mo_run_62 : decode (am_c m_Mo_run) 62 = .ok (.iconst 0, 1) := by decide +kernel
theorem d_Mo_run_63 : decode (am_c m_Mo_run) 63 = .ok (.istore_n 1, 1) := by decide +kernel
theorem d_Mo_run_64 : decode (am_c m_Mo_run) 64 = .ok (.iload_n 1, 1) := by decide +kernel
theorem d_Mo_run_65 : decode (am_c m_Mo_run) 65 = .ok (.bipush 6, 2) := by decide +kernel
theorem d_Mo_run_67 : decode (am_c m_Mo_run) 67 = .ok (.if_icmp .ge 21, 3) := by decide +kernel
theorem d_Mo_run_70 : decode (am_c m_Mo_run) 70 = .ok (.aload_n 0, 1) := by decide +kernel
theorem d_Mo_run_71 : decode (am_c m_Mo_run) 71 = .ok (.getfield 109, 3) := by decide +kernel
theorem d_Mo_run_74 : decode (am_c m_Mo_run) 74 = .ok (.iload_n 1, 1) := by decide +kernel
theorem d_Mo_run_75 : decode (am_c m_Mo_run) 75 = .ok (.aload_n 0, 1) := by decide +kernel
theorem d_Mo_run_76 : decode (am_c m_Mo_run) 76 = .ok (.getfield 29, 3) := by decide +kernel
theorem d_Mo_run_79 : decode (am_c m_Mo_run) 79 = .ok (.iload_n 1, 1) := by decide +kernel
theorem d_Mo_run_80 : decode (am_c m_Mo_run) 80 = .ok (.iaload, 1) := by decide +kernel
theorem d_Mo_run_81 : decode (am_c m_Mo_run) 81 = .ok (.iastore, 1) := by decide +kernel
theorem d_Mo_run_82 : decode (am_c m_Mo_run) 82 = .ok (.iinc 1 1, 3) := by decide +kernel
theorem d_Mo_run_85 : decode (am_c m_Mo_run) 85 = .ok (.goto (-21), 3) := by decide +kernel
theorem d_Mo_run_88 : decode (am_c m_Mo_run) 88 = .ok (.iconst 0, 1) := by decide +kernel
theorem d_Mo_run_89 : decode (am_c m_Mo_run) 89 = .ok (.istore_n 1, 1) := by decide +kernel
theorem d_Mo_run_90 : decode (am_c m_Mo_run) 90 = .ok (.iload_n 1, 1) := by decide +kernel
theorem d_Mo_run_91 : decode (am_c m_Mo_run) 91 = .ok (.iconst 5, 1) := by decide +kernel
theorem d_Mo_run_92 : decode (am_c m_Mo_run) 92 = .ok (.if_icmp .ge 21, 3) := by decide +kernel
theorem d_Mo_run_95 : decode (am_c m_Mo_run) 95 = .ok (.aload_n 0, 1) := by decide +kernel
theorem d_Mo_run_96 : decode (am_c m_Mo_run) 96 = .ok (.getfield 112, 3) := by decide +kernel
theorem d_Mo_run_99 : decode (am_c m_Mo_run) 99 = .ok (.iload_n 1, 1) := by decide +kernel
theorem d_Mo_run_100 : decode (am_c m_Mo_run) 100 = .ok (.aload_n 0, 1) := by decide +kernel
theorem d_Mo_run_101 : decode (am_c m_Mo_run) 101 = .ok (.getfield 32, 3) := by decide +kernel
theorem d_Mo_run_104 : decode (am_c m_Mo_run) 104 = .ok (.iload_n 1, 1) := by decide +kernel
theorem d_Mo_run_105 : decode (am_c m_Mo_run) 105 = .ok (.iaload, 1) := by decide +kernel
theorem d_Mo_run_106 : decode (am_c m_Mo_run) 106 = .ok (.iastore, 1) := by decide +kernel
theorem d_Mo_run_107 : decode (am_c m_Mo_run) 107 = .ok (.iinc 1 1, 3) := by decide +kernel
theorem d_Mo_run_110 : decode (am_c m_Mo_run) 110 = .ok (.goto (-20), 3) := by decide +kernel
theorem d_Mo_run_113 : decode (am_c m_Mo_run) 113 = .ok (.iconst 1, 1) := by decide +kernel
theorem d_Mo_run_114 : decode (am_c m_Mo_run) 114 = .ok (.istore_n 1, 1) := by decide +kernel
theorem d_Mo_run_115 : decode (am_c m_Mo_run) 115 = .ok (.iconst 0, 1) := by decide +kernel
theorem d_Mo_run_116 : decode (am_c m_Mo_run) 116 = .ok (.istore_n 2, 1) := by decide +kernel
theorem d_Mo_run_117 : decode (am_c m_Mo_run) 117 = .ok (.iload_n 2, 1) := by decide +kernel
theorem d_Mo_run_118 : decode (am_c m_Mo_run) 118 = .ok (.aload_n 0, 1) := by decide +kernel
theorem d_Mo_run_119 : decode (am_c m_Mo_run) 119 = .ok (.getfield 301, 3) := by decide +kernel
theorem d_Mo_run_122 : decode (am_c m_Mo_run) 122 = .ok (.if_icmp .ge 19, 3) := by decide +kernel
theorem d_Mo_run_125 : decode (am_c m_Mo_run) 125 = .ok (.iload_n 1, 1) := by decide +kernel
theorem d_Mo_run_126 : decode (am_c m_Mo_run) 126 = .ok (.ifCond .eq 15, 3) := by decide +kernel
theorem d_Mo_run_129 : decode (am_c m_Mo_run) 129 = .ok (.aload_n 0, 1) := by decide +kernel
theorem d_Mo_run_130 : decode (am_c m_Mo_run) 130 = .ok (.iload_n 2, 1) := by decide +kernel
theorem d_Mo_run_131 : decode (am_c m_Mo_run) 131 = .ok (.invokevirtual 350, 3) := by decide +kernel
theorem d_Mo_run_134 : decode (am_c m_Mo_run) 134 = .ok (.istore_n 1, 1) := by decide +kernel
theorem d_Mo_run_135 : decode (am_c m_Mo_run) 135 = .ok (.iinc 2 1, 3) := by decide +kernel
theorem d_Mo_run_138 : decode (am_c m_Mo_run) 138 = .ok (.goto (-21), 3) := by decide +kernel
theorem d_Mo_run_141 : decode (am_c m_Mo_run) 141 = .ok (.iload_n 1, 1) := by decide +kernel
theorem d_Mo_run_142 : decode (am_c m_Mo_run) 142 = .ok (.ifCond .eq 8, 3) := by decide +kernel
theorem d_Mo_run_145 : decode (am_c m_Mo_run) 145 = .ok (.aload_n 0, 1) := by decide +kernel
theorem d_Mo_run_146 : decode (am_c m_Mo_run) 146 = .ok (.getfield 301, 3) := by decide +kernel
theorem d_Mo_run_149 : decode (am_c m_Mo_run) 149 = .ok (.ireturn, 1) := by decide +kernel
theorem d_Mo_run_150 : decode (am_c m_Mo_run) 150 = .ok (.iconst 0, 1) := by decide +kernel
theorem d_Mo_run_151 : decode (am_c m_Mo_run) 151 = .ok (.istore_n 2, 1) := by decide +kernel
theorem d_Mo_run_152 : decode (am_c m_Mo_run) 152 = .ok (.iload_n 2, 1) := by decide +kernel
theorem d_Mo_run_153 : decode (am_c m_Mo_run) 153 = .ok (.bipush 16, 2) := by decide +kernel
theorem d_Mo_run_155 : decode (am_c m_Mo_run) 155 = .ok (.if_icmp .ge 21, 3) := by decide +kernel
theorem d_Mo_run_158 : decode (am_c m_Mo_run) 158 = .ok (.aload_n 0, 1) := by decide +kernel
theorem d_Mo_run_159 : decode (am_c m_Mo_run) 159 = .ok (.getfield 16, 3) := by decide +kernel
theorem d_Mo_run_162 : decode (am_c m_Mo_run) 162 = .ok (.iload_n 2, 1) := by decide +kernel
theorem d_Mo_run_163 : decode (am_c m_Mo_run) 163 = .ok (.aload_n 0, 1) := by decide +kernel
theorem d_Mo_run_164 : decode (am_c m_Mo_run) 164 = .ok (.getfield 103, 3) := by decide +kernel
theorem d_Mo_run_167 : decode (am_c m_Mo_run) 167 = .ok (.iload_n 2, 1) := by decide +kernel
theorem d_Mo_run_168 : decode (am_c m_Mo_run) 168 = .ok (.iaload, 1) := by decide +kernel
theorem d_Mo_run_169 : decode (am_c m_Mo_run) 169 = .ok (.iastore, 1) := by decide +kernel
theorem d_Mo_run_170 : decode (am_c m_Mo_run) 170 = .ok (.iinc 2 1, 3) := by decide +kernel
theorem d_Mo_run_173 : decode (am_c m_Mo_run) 173 = .ok (.goto (-21), 3) := by decide +kernel
theorem d_Mo_run_176 : decode (am_c m_Mo_run) 176 = .ok (.iconst 0, 1) := by decide +kernel
theorem d_Mo_run_177 : decode (am_c m_Mo_run) 177 = .ok (.istore_n 2, 1) := by decide +kernel
theorem d_Mo_run_178 : decode (am_c m_Mo_run) 178 = .ok (.iload_n 2, 1) := by decide +kernel
theorem d_Mo_run_179 : decode (am_c m_Mo_run) 179 = .ok (.bipush 8, 2) := by decide +kernel
theorem d_Mo_run_181 : decode (am_c m_Mo_run) 181 = .ok (.if_icmp .ge 21, 3) := by decide +kernel
theorem d_Mo_run_184 : decode (am_c m_Mo_run) 184 = .ok (.aload_n 0, 1) := by decide +kernel
theorem d_Mo_run_185 : decode (am_c m_Mo_run) 185 = .ok (.getfield 20, 3) := by decide +kernel
theorem d_Mo_run_188 : decode (am_c m_Mo_run) 188 = .ok (.iload_n 2, 1) := by decide +kernel
theorem d_Mo_run_189 : decode (am_c m_Mo_run) 189 = .ok (.aload_n 0, 1) := by decide +kernel
theorem d_Mo_run_190 : decode (am_c m_Mo_run) 190 = .ok (.getfield 106, 3) := by decide +kernel
theorem d_Mo_run_193 : decode (am_c m_Mo_run) 193 = .ok (.iload_n 2, 1) := by decide +kernel
theorem d_Mo_run_194 : decode (am_c m_Mo_run) 194 = .ok (.iaload, 1) := by decide +kernel
theorem d_Mo_run_195 : decode (am_c m_Mo_run) 195 = .ok (.iastore, 1) := by decide +kernel
theorem d_Mo_run_196 : decode (am_c m_Mo_run) 196 = .ok (.iinc 2 1, 3) := by decide +kernel
theorem d_Mo_run_199 : decode (am_c m_Mo_run) 199 = .ok (.goto (-21), 3) := by decide +kernel
theorem d_Mo_run_202 : decode (am_c m_Mo_run) 202 = .ok (.iconst 0, 1) := by decide +kernel
theorem d_Mo_run_203 : decode (am_c m_Mo_run) 203 = .ok (.istore_n 2, 1) := by decide +kernel
theorem d_Mo_run_204 : decode (am_c m_Mo_run) 204 = .ok (.iload_n 2, 1) := by decide +kernel
theorem d_Mo_run_205 : decode (am_c m_Mo_run) 205 = .ok (.bipush 6, 2) := by decide +kernel
theorem d_Mo_run_207 : decode (am_c m_Mo_run) 207 = .ok (.if_icmp .ge 21, 3) := by decide +kernel
theorem d_Mo_run_210 : decode (am_c m_Mo_run) 210 = .ok (.aload_n 0, 1) := by decide +kernel
theorem d_Mo_run_211 : decode (am_c m_Mo_run) 211 = .ok (.getfield 29, 3) := by decide +kernel
theorem d_Mo_run_214 : decode (am_c m_Mo_run) 214 = .ok (.iload_n 2, 1) := by decide +kernel
theorem d_Mo_run_215 : decode (am_c m_Mo_run) 215 = .ok (.aload_n 0, 1) := by decide +kernel
theorem d_Mo_run_216 : decode (am_c m_Mo_run) 216 = .ok (.getfield 109, 3) := by decide +kernel
theorem d_Mo_run_219 : decode (am_c m_Mo_run) 219 = .ok (.iload_n 2, 1) := by decide +kernel
theorem d_Mo_run_220 : decode (am_c m_Mo_run) 220 = .ok (.iaload, 1) := by decide +kernel
theorem d_Mo_run_221 : decode (am_c m_Mo_run) 221 = .ok (.iastore, 1) := by decide +kernel
theorem d_Mo_run_222 : decode (am_c m_Mo_run) 222 = .ok (.iinc 2 1, 3) := by decide +kernel
theorem d_Mo_run_225 : decode (am_c m_Mo_run) 225 = .ok (.goto (-21), 3) := by decide +kernel
theorem d_Mo_run_228 : decode (am_c m_Mo_run) 228 = .ok (.iconst 0, 1) := by decide +kernel
theorem d_Mo_run_229 : decode (am_c m_Mo_run) 229 = .ok (.istore_n 2, 1) := by decide +kernel
theorem d_Mo_run_230 : decode (am_c m_Mo_run) 230 = .ok (.iload_n 2, 1) := by decide +kernel
theorem d_Mo_run_231 : decode (am_c m_Mo_run) 231 = .ok (.iconst 5, 1) := by decide +kernel
theorem d_Mo_run_232 : decode (am_c m_Mo_run) 232 = .ok (.if_icmp .ge 21, 3) := by decide +kernel
theorem d_Mo_run_235 : decode (am_c m_Mo_run) 235 = .ok (.aload_n 0, 1) := by decide +kernel
theorem d_Mo_run_236 : decode (am_c m_Mo_run) 236 = .ok (.getfield 32, 3) := by decide +kernel
theorem d_Mo_run_239 : decode (am_c m_Mo_run) 239 = .ok (.iload_n 2, 1) := by decide +kernel
theorem d_Mo_run_240 : decode (am_c m_Mo_run) 240 = .ok (.aload_n 0, 1) := by decide +kernel
theorem d_Mo_run_241 : decode (am_c m_Mo_run) 241 = .ok (.getfield 112, 3) := by decide +kernel
theorem d_Mo_run_244 : decode (am_c m_Mo_run) 244 = .ok (.iload_n 2, 1) := by decide +kernel
theorem d_Mo_run_245 : decode (am_c m_Mo_run) 245 = .ok (.iaload, 1) := by decide +kernel
theorem d_Mo_run_246 : decode (am_c m_Mo_run) 246 = .ok (.iastore, 1) := by decide +kernel
theorem d_Mo_run_247 : decode (am_c m_Mo_run) 247 = .ok (.iinc 2 1, 3) := by decide +kernel
theorem d_Mo_run_250 : decode (am_c m_Mo_run) 250 = .ok (.goto (-20), 3) := by decide +kernel
theorem d_Mo_run_253 : decode (am_c m_Mo_run) 253 = .ok (.bipush (-4), 2) := by decide +kernel
theorem d_Mo_run_255 : decode (am_c m_Mo_run) 255 = .ok (.ireturn, 1) := by decide +kernel
theorem d_Mo_isDone_0 : decode (am_c m_Mo_isDone) 0 = .ok (.aload_n 0, 1) := by decide +kernel
theorem d_Mo_isDone_1 : decode (am_c m_Mo_isDone) 1 = .ok (.getfield 94, 3) := by decide +kernel
theorem d_Mo_isDone_4 : decode (am_c m_Mo_isDone) 4 = .ok (.iload_n 1, 1) := by decide +kernel
theorem d_Mo_isDone_5 : decode (am_c m_Mo_isDone) 5 = .ok (.iaload, 1) := by decide +kernel
theorem d_Mo_isDone_6 : decode (am_c m_Mo_isDone) 6 = .ok (.tableswitch 100 0 3 #[30, 49, 62, 81], 30) := by decide +kernel
theorem d_Mo_isDone_36 : decode (am_c m_Mo_isDone) 36 = .ok (.aload_n 0, 1) := by decide +kernel
theorem d_Mo_isDone_37 : decode (am_c m_Mo_isDone) 37 = .ok (.getfield 20, 3) := by decide +kernel
theorem d_Mo_isDone_40 : decode (am_c m_Mo_isDone) 40 = .ok (.aload_n 0, 1) := by decide +kernel
theorem d_Mo_isDone_41 : decode (am_c m_Mo_isDone) 41 = .ok (.getfield 97, 3) := by decide +kernel
theorem d_Mo_isDone_44 : decode (am_c m_Mo_isDone) 44 = .ok (.iload_n 1, 1) := by decide +kernel
theorem d_Mo_isDone_45 : decode (am_c m_Mo_isDone) 45 = .ok (.iaload, 1) := by decide +kernel
theorem d_Mo_isDone_46 : decode (am_c m_Mo_isDone) 46 = .ok (.aload_n 0, 1) := by decide +kernel
theorem d_Mo_isDone_47 : decode (am_c m_Mo_isDone) 47 = .ok (.getfield 100, 3) := by decide +kernel
theorem d_Mo_isDone_50 : decode (am_c m_Mo_isDone) 50 = .ok (.iload_n 1, 1) := by decide +kernel
theorem d_Mo_isDone_51 : decode (am_c m_Mo_isDone) 51 = .ok (.iaload, 1) := by decide +kernel
theorem d_Mo_isDone_52 : decode (am_c m_Mo_isDone) 52 = .ok (.iastore, 1) := by decide +kernel
theorem d_Mo_isDone_53 : decode (am_c m_Mo_isDone) 53 = .ok (.iconst 1, 1) := by decide +kernel
theorem d_Mo_isDone_54 : decode (am_c m_Mo_isDone) 54 = .ok (.ireturn, 1) := by decide +kernel
theorem d_Mo_isDone_55 : decode (am_c m_Mo_isDone) 55 = .ok (.aload_n 0, 1) := by decide +kernel
theorem d_Mo_isDone_56 : decode (am_c m_Mo_isDone) 56 = .ok (.aload_n 0, 1) := by decide +kernel
theorem d_Mo_isDone_57 : decode (am_c m_Mo_isDone) 57 = .ok (.getfield 97, 3) := by decide +kernel
theorem d_Mo_isDone_60 : decode (am_c m_Mo_isDone) 60 = .ok (.iload_n 1, 1) := by decide +kernel
theorem d_Mo_isDone_61 : decode (am_c m_Mo_isDone) 61 = .ok (.iaload, 1) := by decide +kernel
theorem d_Mo_isDone_62 : decode (am_c m_Mo_isDone) 62 = .ok (.invokevirtual 344, 3) := by decide +kernel
theorem d_Mo_isDone_65 : decode (am_c m_Mo_isDone) 65 = .ok (.pop, 1) := by decide +kernel
theorem d_Mo_isDone_66 : decode (am_c m_Mo_isDone) 66 = .ok (.iconst 1, 1) := by decide +kernel
theorem d_Mo_isDone_67 : decode (am_c m_Mo_isDone) 67 = .ok (.ireturn, 1) := by decide +kernel
theorem d_Mo_isDone_68 : decode (am_c m_Mo_isDone) 68 = .ok (.aload_n 0, 1) := by decide +kernel
theorem d_Mo_isDone_69 : decode (am_c m_Mo_isDone) 69 = .ok (.getfield 32, 3) := by decide +kernel
theorem d_Mo_isDone_72 : decode (am_c m_Mo_isDone) 72 = .ok (.aload_n 0, 1) := by decide +kernel
theorem d_Mo_isDone_73 : decode (am_c m_Mo_isDone) 73 = .ok (.getfield 97, 3) := by decide +kernel
theorem d_Mo_isDone_76 : decode (am_c m_Mo_isDone) 76 = .ok (.iload_n 1, 1) := by decide +kernel
theorem d_Mo_isDone_77 : decode (am_c m_Mo_isDone) 77 = .ok (.iaload, 1) := by decide +kernel
theorem d_Mo_isDone_78 : decode (am_c m_Mo_isDone) 78 = .ok (.aload_n 0, 1) := by decide +kernel
theorem d_Mo_isDone_79 : decode (am_c m_Mo_isDone) 79 = .ok (.getfield 100, 3) := by decide +kernel
theorem d_Mo_isDone_82 : decode (am_c m_Mo_isDone) 82 = .ok (.iload_n 1, 1) := by decide +kernel
theorem d_Mo_isDone_83 : decode (am_c m_Mo_isDone) 83 = .ok (.iaload, 1) := by decide +kernel
theorem d_Mo_isDone_84 : decode (am_c m_Mo_isDone) 84 = .ok (.iastore, 1) := by decide +kernel
theorem d_Mo_isDone_85 : decode (am_c m_Mo_isDone) 85 = .ok (.iconst 1, 1) := by decide +kernel
theorem d_Mo_isDone_86 : decode (am_c m_Mo_isDone) 86 = .ok (.ireturn, 1) := by decide +kernel
theorem d_Mo_isDone_87 : decode (am_c m_Mo_isDone) 87 = .ok (.aload_n 0, 1) := by decide +kernel
theorem d_Mo_isDone_88 : decode (am_c m_Mo_isDone) 88 = .ok (.getfield 29, 3) := by decide +kernel
theorem d_Mo_isDone_91 : decode (am_c m_Mo_isDone) 91 = .ok (.aload_n 0, 1) := by decide +kernel
theorem d_Mo_isDone_92 : decode (am_c m_Mo_isDone) 92 = .ok (.getfield 97, 3) := by decide +kernel
theorem d_Mo_isDone_95 : decode (am_c m_Mo_isDone) 95 = .ok (.iload_n 1, 1) := by decide +kernel
theorem d_Mo_isDone_96 : decode (am_c m_Mo_isDone) 96 = .ok (.iaload, 1) := by decide +kernel
theorem d_Mo_isDone_97 : decode (am_c m_Mo_isDone) 97 = .ok (.aload_n 0, 1) := by decide +kernel
theorem d_Mo_isDone_98 : decode (am_c m_Mo_isDone) 98 = .ok (.getfield 100, 3) := by decide +kernel
theorem d_Mo_isDone_101 : decode (am_c m_Mo_isDone) 101 = .ok (.iload_n 1, 1) := by decide +kernel
theorem d_Mo_isDone_102 : decode (am_c m_Mo_isDone) 102 = .ok (.iaload, 1) := by decide +kernel
theorem d_Mo_isDone_103 : decode (am_c m_Mo_isDone) 103 = .ok (.iastore, 1) := by decide +kernel
theorem d_Mo_isDone_104 : decode (am_c m_Mo_isDone) 104 = .ok (.iconst 1, 1) := by decide +kernel
theorem d_Mo_isDone_105 : decode (am_c m_Mo_isDone) 105 = .ok (.ireturn, 1) := by decide +kernel
theorem d_Mo_isDone_106 : decode (am_c m_Mo_isDone) 106 = .ok (.aload_n 0, 1) := by decide +kernel
theorem d_Mo_isDone_107 : decode (am_c m_Mo_isDone) 107 = .ok (.aload_n 0, 1) := by decide +kernel
theorem d_Mo_isDone_108 : decode (am_c m_Mo_isDone) 108 = .ok (.getfield 97, 3) := by decide +kernel
theorem d_Mo_isDone_111 : decode (am_c m_Mo_isDone) 111 = .ok (.iload_n 1, 1) := by decide +kernel
theorem d_Mo_isDone_112 : decode (am_c m_Mo_isDone) 112 = .ok (.iaload, 1) := by decide +kernel
theorem d_Mo_isDone_113 : decode (am_c m_Mo_isDone) 113 = .ok (.aload_n 0, 1) := by decide +kernel
theorem d_Mo_isDone_114 : decode (am_c m_Mo_isDone) 114 = .ok (.getfield 100, 3) := by decide +kernel
theorem d_Mo_isDone_117 : decode (am_c m_Mo_isDone) 117 = .ok (.iload_n 1, 1) := by decide +kernel
theorem d_Mo_isDone_118 : decode (am_c m_Mo_isDone) 118 = .ok (.iaload, 1) := by decide +kernel
theorem d_Mo_isDone_119 : decode (am_c m_Mo_isDone) 119 = .ok (.invokevirtual 347, 3) := by decide +kernel
theorem d_Mo_isDone_122 : decode (am_c m_Mo_isDone) 122 = .ok (.ifCond .lt 7, 3) := by decide +kernel
theorem d_Mo_isDone_125 : decode (am_c m_Mo_isDone) 125 = .ok (.iconst 1, 1) := by decide +kernel
theorem d_Mo_isDone_126 : decode (am_c m_Mo_isDone) 126 = .ok (.goto 4, 3) := by decide +kernel
theorem d_Mo_isDone_129 : decode (am_c m_Mo_isDone) 129 = .ok (.iconst 0, 1) := by decide +kernel
theorem d_Mo_isDone_130 : decode (am_c m_Mo_isDone) 130 = .ok (.ireturn, 1) := by decide +kernel
theorem d_Mo_count_0 : decode (am_c m_Mo_count) 0 = .ok (.iconst 0, 1) := by decide +kernel
theorem d_Mo_count_1 : decode (am_c m_Mo_count) 1 = .ok (.istore_n 2, 1) := by decide +kernel
theorem d_Mo_count_2 : decode (am_c m_Mo_count) 2 = .ok (.iload_n 1, 1) := by decide +kernel
theorem d_Mo_count_3 : decode (am_c m_Mo_count) 3 = .ok (.tableswitch 112 0 7 #[45, 50, 82, 87, 92, 97, 102, 107], 45) := by decide +kernel
theorem d_Mo_count_48 : decode (am_c m_Mo_count) 48 = .ok (.aload_n 0, 1) := by decide +kernel
theorem d_Mo_count_49 : decode (am_c m_Mo_count) 49 = .ok (.invokevirtual 118, 3) := by decide +kernel
theorem d_Mo_count_52 : decode (am_c m_Mo_count) 52 = .ok (.ireturn, 1) := by decide +kernel
theorem d_Mo_count_53 : decode (am_c m_Mo_count) 53 = .ok (.iconst 0, 1) := by decide +kernel
theorem d_Mo_count_54 : decode (am_c m_Mo_count) 54 = .ok (.istore_n 3, 1) := by decide +kernel
theorem d_Mo_count_55 : decode (am_c m_Mo_count) 55 = .ok (.iload_n 3, 1) := by decide +kernel
theorem d_Mo_count_56 : decode (am_c m_Mo_count) 56 = .ok (.bipush 8, 2) := by decide +kernel
theorem d_Mo_count_58 : decode (am_c m_Mo_count) 58 = .ok (.if_icmp .ge 25, 3) := by decide +kernel
theorem d_Mo_count_61 : decode (am_c m_Mo_count) 61 = .ok (.iload_n 2, 1) := by decide +kernel
theorem d_Mo_count_62 : decode (am_c m_Mo_count) 62 = .ok (.aload_n 0, 1) := by decide +kernel
theorem d_Mo_count_63 : decode (am_c m_Mo_count) 63 = .ok (.iload_n 3, 1) := by decide +kernel
theorem d_Mo_count_64 : decode (am_c m_Mo_count) 64 = .ok (.invokevirtual 142, 3) := by decide +kernel
theorem d_Mo_count_67 : decode (am_c m_Mo_count) 67 = .ok (.ifCond .le 7, 3) := by decide +kernel
theorem d_Mo_count_70 : decode (am_c m_Mo_count) 70 = .ok (.iconst 1, 1) := by decide +kernel
theorem d_Mo_count_71 : decode (am_c m_Mo_count) 71 = .ok (.goto 4, 3) := by decide +kernel
theorem d_Mo_count_74 : decode (am_c m_Mo_count) 74 = .ok (.iconst 0, 1) := by decide +kernel
theorem d_Mo_count_75 : decode (am_c m_Mo_count) 75 = .ok (.iadd, 1) := by decide +kernel
theorem d_Mo_count_76 : decode (am_c m_Mo_count) 76 = .ok (.istore_n 2, 1) := by decide +kernel
theorem d_Mo_count_77 : decode (am_c m_Mo_count) 77 = .ok (.iinc 3 1, 3) := by decide +kernel
theorem d_Mo_count_80 : decode (am_c m_Mo_count) 80 = .ok (.goto (-25), 3) := by decide +kernel
theorem d_Mo_count_83 : decode (am_c m_Mo_count) 83 = .ok (.iload_n 2, 1) := by decide +kernel
theorem d_Mo_count_84 : decode (am_c m_Mo_count) 84 = .ok (.ireturn, 1) := by decide +kernel
theorem d_Mo_count_85 : decode (am_c m_Mo_count) 85 = .ok (.aload_n 0, 1) := by decide +kernel
theorem d_Mo_count_86 : decode (am_c m_Mo_count) 86 = .ok (.getfield 126, 3) := by decide +kernel
theorem d_Mo_count_89 : decode (am_c m_Mo_count) 89 = .ok (.ireturn, 1) := by decide +kernel
theorem d_Mo_count_90 : decode (am_c m_Mo_count) 90 = .ok (.aload_n 0, 1) := by decide +kernel
theorem d_Mo_count_91 : decode (am_c m_Mo_count) 91 = .ok (.getfield 129, 3) := by decide +kernel
theorem d_Mo_count_94 : decode (am_c m_Mo_count) 94 = .ok (.ireturn, 1) := by decide +kernel
theorem d_Mo_count_95 : decode (am_c m_Mo_count) 95 = .ok (.aload_n 0, 1) := by decide +kernel
theorem d_Mo_count_96 : decode (am_c m_Mo_count) 96 = .ok (.getfield 132, 3) := by decide +kernel
theorem d_Mo_count_99 : decode (am_c m_Mo_count) 99 = .ok (.ireturn, 1) := by decide +kernel
theorem d_Mo_count_100 : decode (am_c m_Mo_count) 100 = .ok (.aload_n 0, 1) := by decide +kernel
theorem d_Mo_count_101 : decode (am_c m_Mo_count) 101 = .ok (.getfield 135, 3) := by decide +kernel
theorem d_Mo_count_104 : decode (am_c m_Mo_count) 104 = .ok (.ireturn, 1) := by decide +kernel
theorem d_Mo_count_105 : decode (am_c m_Mo_count) 105 = .ok (.aload_n 0, 1) := by decide +kernel
theorem d_Mo_count_106 : decode (am_c m_Mo_count) 106 = .ok (.getfield 174, 3) := by decide +kernel
theorem d_Mo_count_109 : decode (am_c m_Mo_count) 109 = .ok (.ireturn, 1) := by decide +kernel
theorem d_Mo_count_110 : decode (am_c m_Mo_count) 110 = .ok (.aload_n 0, 1) := by decide +kernel
theorem d_Mo_count_111 : decode (am_c m_Mo_count) 111 = .ok (.getfield 265, 3) := by decide +kernel
theorem d_Mo_count_114 : decode (am_c m_Mo_count) 114 = .ok (.ireturn, 1) := by decide +kernel
theorem d_Mo_count_115 : decode (am_c m_Mo_count) 115 = .ok (.bipush (-3), 2) := by decide +kernel
theorem d_Mo_count_117 : decode (am_c m_Mo_count) 117 = .ok (.ireturn, 1) := by decide +kernel
