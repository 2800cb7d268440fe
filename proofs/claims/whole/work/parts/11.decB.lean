/-! ===== what the bytes are ===== -/
theorem d_Ar_fill_0 : decode (am_c m_Ar_fill) 0 = .ok (.iconst 0, 1) := by decide +kernel
theorem d_Ar_fill_1 : decode (am_c m_Ar_fill) 1 = .ok (.istore_n 2, 1) := by decide +kernel
theorem d_Ar_fill_2 : decode (am_c m_Ar_fill) 2 = .ok (.aload_n 0, 1) := by decide +kernel
theorem d_Ar_fill_3 : decode (am_c m_Ar_fill) 3 = .ok (.arraylength, 1) := by decide +kernel
theorem d_Ar_fill_4 : decode (am_c m_Ar_fill) 4 = .ok (.istore_n 3, 1) := by decide +kernel
theorem d_Ar_fill_5 : decode (am_c m_Ar_fill) 5 = .ok (.iload_n 2, 1) := by decide +kernel
theorem d_Ar_fill_6 : decode (am_c m_Ar_fill) 6 = .ok (.iload_n 3, 1) := by decide +kernel
theorem d_Ar_fill_7 : decode (am_c m_Ar_fill) 7 = .ok (.if_icmp .ge 13, 3) := by decide +kernel
theorem d_Ar_fill_10 : decode (am_c m_Ar_fill) 10 = .ok (.aload_n 0, 1) := by decide +kernel
theorem d_Ar_fill_11 : decode (am_c m_Ar_fill) 11 = .ok (.iload_n 2, 1) := by decide +kernel
theorem d_Ar_fill_12 : decode (am_c m_Ar_fill) 12 = .ok (.iload_n 1, 1) := by decide +kernel
theorem d_Ar_fill_13 : decode (am_c m_Ar_fill) 13 = .ok (.iastore, 1) := by decide +kernel
theorem d_Ar_fill_14 : decode (am_c m_Ar_fill) 14 = .ok (.iinc 2 1, 3) := by decide +kernel
theorem d_Ar_fill_17 : decode (am_c m_Ar_fill) 17 = .ok (.goto (-12), 3) := by decide +kernel
theorem d_Ar_fill_20 : decode (am_c m_Ar_fill) 20 = .ok (.return_, 1) := by decide +kernel
theorem d_Pr_init_0 : decode (am_c m_Pr_init) 0 = .ok (.aload_n 0, 1) := by decide +kernel
theorem d_Pr_init_1 : decode (am_c m_Pr_init) 1 = .ok (.invokespecial 3, 3) := by decide +kernel
theorem d_Pr_init_4 : decode (am_c m_Pr_init) 4 = .ok (.aload_n 0, 1) := by decide +kernel
theorem d_Pr_init_5 : decode (am_c m_Pr_init) 5 = .ok (.bipush 12, 2) := by decide +kernel
theorem d_Pr_init_7 : decode (am_c m_Pr_init) 7 = .ok (.newarray .int, 2) := by decide +kernel
theorem d_Pr_init_9 : decode (am_c m_Pr_init) 9 = .ok (.putfield 9, 3) := by decide +kernel
theorem d_Pr_init_12 : decode (am_c m_Pr_init) 12 = .ok (.aload_n 0, 1) := by decide +kernel
theorem d_Pr_init_13 : decode (am_c m_Pr_init) 13 = .ok (.bipush 12, 2) := by decide +kernel
theorem d_Pr_init_15 : decode (am_c m_Pr_init) 15 = .ok (.newarray .int, 2) := by decide +kernel
theorem d_Pr_init_17 : decode (am_c m_Pr_init) 17 = .ok (.putfield 15, 3) := by decide +kernel
theorem d_Pr_init_20 : decode (am_c m_Pr_init) 20 = .ok (.aload_n 0, 1) := by decide +kernel
theorem d_Pr_init_21 : decode (am_c m_Pr_init) 21 = .ok (.bipush 8, 2) := by decide +kernel
theorem d_Pr_init_23 : decode (am_c m_Pr_init) 23 = .ok (.newarray .int, 2) := by decide +kernel
theorem d_Pr_init_25 : decode (am_c m_Pr_init) 25 = .ok (.putfield 18, 3) := by decide +kernel
theorem d_Pr_init_28 : decode (am_c m_Pr_init) 28 = .ok (.aload_n 0, 1) := by decide +kernel
theorem d_Pr_init_29 : decode (am_c m_Pr_init) 29 = .ok (.bipush 8, 2) := by decide +kernel
theorem d_Pr_init_31 : decode (am_c m_Pr_init) 31 = .ok (.newarray .int, 2) := by decide +kernel
theorem d_Pr_init_33 : decode (am_c m_Pr_init) 33 = .ok (.putfield 21, 3) := by decide +kernel
theorem d_Pr_init_36 : decode (am_c m_Pr_init) 36 = .ok (.aload_n 0, 1) := by decide +kernel
theorem d_Pr_init_37 : decode (am_c m_Pr_init) 37 = .ok (.aload_n 1, 1) := by decide +kernel
theorem d_Pr_init_38 : decode (am_c m_Pr_init) 38 = .ok (.putfield 24, 3) := by decide +kernel
theorem d_Pr_init_41 : decode (am_c m_Pr_init) 41 = .ok (.aload_n 0, 1) := by decide +kernel
theorem d_Pr_init_42 : decode (am_c m_Pr_init) 42 = .ok (.aload_n 2, 1) := by decide +kernel
theorem d_Pr_init_43 : decode (am_c m_Pr_init) 43 = .ok (.putfield 28, 3) := by decide +kernel
theorem d_Pr_init_46 : decode (am_c m_Pr_init) 46 = .ok (.return_, 1) := by decide +kernel
theorem d_Re_init_0 : decode (am_c m_Re_init) 0 = .ok (.aload_n 0, 1) := by decide +kernel
theorem d_Re_init_1 : decode (am_c m_Re_init) 1 = .ok (.invokespecial 3, 3) := by decide +kernel
theorem d_Re_init_4 : decode (am_c m_Re_init) 4 = .ok (.aload_n 0, 1) := by decide +kernel
theorem d_Re_init_5 : decode (am_c m_Re_init) 5 = .ok (.new 9, 3) := by decide +kernel
theorem d_Re_init_8 : decode (am_c m_Re_init) 8 = .ok (.dup, 1) := by decide +kernel
theorem d_Re_init_9 : decode (am_c m_Re_init) 9 = .ok (.invokespecial 11, 3) := by decide +kernel
theorem d_Re_init_12 : decode (am_c m_Re_init) 12 = .ok (.putfield 12, 3) := by decide +kernel
theorem d_Re_init_15 : decode (am_c m_Re_init) 15 = .ok (.aload_n 0, 1) := by decide +kernel
theorem d_Re_init_16 : decode (am_c m_Re_init) 16 = .ok (.new 9, 3) := by decide +kernel
theorem d_Re_init_19 : decode (am_c m_Re_init) 19 = .ok (.dup, 1) := by decide +kernel
theorem d_Re_init_20 : decode (am_c m_Re_init) 20 = .ok (.invokespecial 11, 3) := by decide +kernel
theorem d_Re_init_23 : decode (am_c m_Re_init) 23 = .ok (.putfield 18, 3) := by decide +kernel
theorem d_Re_init_26 : decode (am_c m_Re_init) 26 = .ok (.aload_n 0, 1) := by decide +kernel
theorem d_Re_init_27 : decode (am_c m_Re_init) 27 = .ok (.bipush 8, 2) := by decide +kernel
theorem d_Re_init_29 : decode (am_c m_Re_init) 29 = .ok (.newarray .int, 2) := by decide +kernel
theorem d_Re_init_31 : decode (am_c m_Re_init) 31 = .ok (.putfield 21, 3) := by decide +kernel
theorem d_Re_init_34 : decode (am_c m_Re_init) 34 = .ok (.aload_n 0, 1) := by decide +kernel
theorem d_Re_init_35 : decode (am_c m_Re_init) 35 = .ok (.aload_n 1, 1) := by decide +kernel
theorem d_Re_init_36 : decode (am_c m_Re_init) 36 = .ok (.putfield 25, 3) := by decide +kernel
theorem d_Re_init_39 : decode (am_c m_Re_init) 39 = .ok (.aload_n 0, 1) := by decide +kernel
theorem d_Re_init_40 : decode (am_c m_Re_init) 40 = .ok (.aload_n 2, 1) := by decide +kernel
theorem d_Re_init_41 : decode (am_c m_Re_init) 41 = .ok (.putfield 29, 3) := by decide +kernel
theorem d_Re_init_44 : decode (am_c m_Re_init) 44 = .ok (.aload_n 0, 1) := by decide +kernel
theorem d_Re_init_45 : decode (am_c m_Re_init) 45 = .ok (.aload_n 3, 1) := by decide +kernel
theorem d_Re_init_46 : decode (am_c m_Re_init) 46 = .ok (.putfield 33, 3) := by decide +kernel
theorem d_Re_init_49 : decode (am_c m_Re_init) 49 = .ok (.return_, 1) := by decide +kernel
theorem d_Ba_init_0 : decode (am_c m_Ba_init) 0 = .ok (.aload_n 0, 1) := by decide +kernel
theorem d_Ba_init_1 : decode (am_c m_Ba_init) 1 = .ok (.invokespecial 3, 3) := by decide +kernel
theorem d_Ba_init_4 : decode (am_c m_Ba_init) 4 = .ok (.aload_n 0, 1) := by decide +kernel
theorem d_Ba_init_5 : decode (am_c m_Ba_init) 5 = .ok (.bipush 8, 2) := by decide +kernel
theorem d_Ba_init_7 : decode (am_c m_Ba_init) 7 = .ok (.newarray .boolean, 2) := by decide +kernel
theorem d_Ba_init_9 : decode (am_c m_Ba_init) 9 = .ok (.putfield 9, 3) := by decide +kernel
theorem d_Ba_init_12 : decode (am_c m_Ba_init) 12 = .ok (.aload_n 0, 1) := by decide +kernel
theorem d_Ba_init_13 : decode (am_c m_Ba_init) 13 = .ok (.bipush 8, 2) := by decide +kernel
theorem d_Ba_init_15 : decode (am_c m_Ba_init) 15 = .ok (.bipush 8, 2) := by decide +kernel
theorem d_Ba_init_17 : decode (am_c m_Ba_init) 17 = .ok (.multianewarray 15 2, 4) := by decide +kernel
theorem d_Ba_init_21 : decode (am_c m_Ba_init) 21 = .ok (.putfield 17, 3) := by decide +kernel
theorem d_Ba_init_24 : decode (am_c m_Ba_init) 24 = .ok (.aload_n 0, 1) := by decide +kernel
theorem d_Ba_init_25 : decode (am_c m_Ba_init) 25 = .ok (.bipush 8, 2) := by decide +kernel
theorem d_Ba_init_27 : decode (am_c m_Ba_init) 27 = .ok (.newarray .long, 2) := by decide +kernel
theorem d_Ba_init_29 : decode (am_c m_Ba_init) 29 = .ok (.putfield 20, 3) := by decide +kernel
theorem d_Ba_init_32 : decode (am_c m_Ba_init) 32 = .ok (.return_, 1) := by decide +kernel
theorem d_Fi_init_0 : decode (am_c m_Fi_init) 0 = .ok (.aload_n 0, 1) := by decide +kernel
theorem d_Fi_init_1 : decode (am_c m_Fi_init) 1 = .ok (.invokespecial 3, 3) := by decide +kernel
theorem d_Fi_init_4 : decode (am_c m_Fi_init) 4 = .ok (.aload_n 0, 1) := by decide +kernel
theorem d_Fi_init_5 : decode (am_c m_Fi_init) 5 = .ok (.bipush 12, 2) := by decide +kernel
theorem d_Fi_init_7 : decode (am_c m_Fi_init) 7 = .ok (.newarray .int, 2) := by decide +kernel
theorem d_Fi_init_9 : decode (am_c m_Fi_init) 9 = .ok (.putfield 9, 3) := by decide +kernel
theorem d_Fi_init_12 : decode (am_c m_Fi_init) 12 = .ok (.aload_n 0, 1) := by decide +kernel
theorem d_Fi_init_13 : decode (am_c m_Fi_init) 13 = .ok (.bipush 12, 2) := by decide +kernel
theorem d_Fi_init_15 : decode (am_c m_Fi_init) 15 = .ok (.newarray .int, 2) := by decide +kernel
theorem d_Fi_init_17 : decode (am_c m_Fi_init) 17 = .ok (.putfield 15, 3) := by decide +kernel
theorem d_Fi_init_20 : decode (am_c m_Fi_init) 20 = .ok (.aload_n 0, 1) := by decide +kernel
theorem d_Fi_init_21 : decode (am_c m_Fi_init) 21 = .ok (.aload_n 1, 1) := by decide +kernel
theorem d_Fi_init_22 : decode (am_c m_Fi_init) 22 = .ok (.putfield 18, 3) := by decide +kernel
theorem d_Fi_init_25 : decode (am_c m_Fi_init) 25 = .ok (.aload_n 0, 1) := by decide +kernel
theorem d_Fi_init_26 : decode (am_c m_Fi_init) 26 = .ok (.aload_n 2, 1) := by decide +kernel
theorem d_Fi_init_27 : decode (am_c m_Fi_init) 27 = .ok (.putfield 22, 3) := by decide +kernel
theorem d_Fi_init_30 : decode (am_c m_Fi_init) 30 = .ok (.return_, 1) := by decide +kernel
theorem d_Sc_init_0 : decode (am_c m_Sc_init) 0 = .ok (.aload_n 0, 1) := by decide +kernel
theorem d_Sc_init_1 : decode (am_c m_Sc_init) 1 = .ok (.invokespecial 3, 3) := by decide +kernel
theorem d_Sc_init_4 : decode (am_c m_Sc_init) 4 = .ok (.aload_n 0, 1) := by decide +kernel
theorem d_Sc_init_5 : decode (am_c m_Sc_init) 5 = .ok (.sipush 160, 3) := by decide +kernel
theorem d_Sc_init_8 : decode (am_c m_Sc_init) 8 = .ok (.newarray .int, 2) := by decide +kernel
theorem d_Sc_init_10 : decode (am_c m_Sc_init) 10 = .ok (.putfield 9, 3) := by decide +kernel
theorem d_Sc_init_13 : decode (am_c m_Sc_init) 13 = .ok (.aload_n 0, 1) := by decide +kernel
theorem d_Sc_init_14 : decode (am_c m_Sc_init) 14 = .ok (.bipush 40, 2) := by decide +kernel
theorem d_Sc_init_16 : decode (am_c m_Sc_init) 16 = .ok (.newarray .int, 2) := by decide +kernel
theorem d_Sc_init_18 : decode (am_c m_Sc_init) 18 = .ok (.putfield 15, 3) := by decide +kernel
theorem d_Sc_init_21 : decode (am_c m_Sc_init) 21 = .ok (.aload_n 0, 1) := by decide +kernel
theorem d_Sc_init_22 : decode (am_c m_Sc_init) 22 = .ok (.bipush 40, 2) := by decide +kernel
theorem d_Sc_init_24 : decode (am_c m_Sc_init) 24 = .ok (.newarray .int, 2) := by decide +kernel
theorem d_Sc_init_26 : decode (am_c m_Sc_init) 26 = .ok (.putfield 18, 3) := by decide +kernel
theorem d_Sc_init_29 : decode (am_c m_Sc_init) 29 = .ok (.aload_n 0, 1) := by decide +kernel
theorem d_Sc_init_30 : decode (am_c m_Sc_init) 30 = .ok (.bipush 40, 2) := by decide +kernel
theorem d_Sc_init_32 : decode (am_c m_Sc_init) 32 = .ok (.newarray .int, 2) := by decide +kernel
theorem d_Sc_init_34 : decode (am_c m_Sc_init) 34 = .ok (.putfield 21, 3) := by decide +kernel
theorem d_Sc_init_37 : decode (am_c m_Sc_init) 37 = .ok (.aload_n 0, 1) := by decide +kernel
theorem d_Sc_init_38 : decode (am_c m_Sc_init) 38 = .ok (.aload_n 1, 1) := by decide +kernel
theorem d_Sc_init_39 : decode (am_c m_Sc_init) 39 = .ok (.putfield 24, 3) := by decide +kernel
theorem d_Sc_init_42 : decode (am_c m_Sc_init) 42 = .ok (.aload_n 0, 1) := by decide +kernel
theorem d_Sc_init_43 : decode (am_c m_Sc_init) 43 = .ok (.aload_n 2, 1) := by decide +kernel
theorem d_Sc_init_44 : decode (am_c m_Sc_init) 44 = .ok (.putfield 28, 3) := by decide +kernel
theorem d_Sc_init_47 : decode (am_c m_Sc_init) 47 = .ok (.return_, 1) := by decide +kernel
theorem d_Me_init_0 : decode (am_c m_Me_init) 0 = .ok (.aload_n 0, 1) := by decide +kernel
theorem d_Me_init_1 : decode (am_c m_Me_init) 1 = .ok (.invokespecial 3, 3) := by decide +kernel
theorem d_Me_init_4 : decode (am_c m_Me_init) 4 = .ok (.aload_n 0, 1) := by decide +kernel
theorem d_Me_init_5 : decode (am_c m_Me_init) 5 = .ok (.bipush 16, 2) := by decide +kernel
theorem d_Me_init_7 : decode (am_c m_Me_init) 7 = .ok (.newarray .int, 2) := by decide +kernel
theorem d_Me_init_9 : decode (am_c m_Me_init) 9 = .ok (.putfield 9, 3) := by decide +kernel
theorem d_Me_init_12 : decode (am_c m_Me_init) 12 = .ok (.aload_n 0, 1) := by decide +kernel
theorem d_Me_init_13 : decode (am_c m_Me_init) 13 = .ok (.bipush 8, 2) := by decide +kernel
theorem d_Me_init_15 : decode (am_c m_Me_init) 15 = .ok (.newarray .int, 2) := by decide +kernel
theorem d_Me_init_17 : decode (am_c m_Me_init) 17 = .ok (.putfield 15, 3) := by decide +kernel
theorem d_Me_init_20 : decode (am_c m_Me_init) 20 = .ok (.aload_n 0, 1) := by decide +kernel
theorem d_Me_init_21 : decode (am_c m_Me_init) 21 = .ok (.iconst 5, 1) := by decide +kernel
theorem d_Me_init_22 : decode (am_c m_Me_init) 22 = .ok (.newarray .int, 2) := by decide +kernel
theorem d_Me_init_24 : decode (am_c m_Me_init) 24 = .ok (.putfield 18, 3) := by decide +kernel
theorem d_Me_init_27 : decode (am_c m_Me_init) 27 = .ok (.aload_n 0, 1) := by decide +kernel
theorem d_Me_init_28 : decode (am_c m_Me_init) 28 = .ok (.bipush 6, 2) := by decide +kernel
theorem d_Me_init_30 : decode (am_c m_Me_init) 30 = .ok (.newarray .int, 2) := by decide +kernel
theorem d_Me_init_32 : decode (am_c m_Me_init) 32 = .ok (.putfield 21, 3) := by decide +kernel
theorem d_Me_init_35 : decode (am_c m_Me_init) 35 = .ok (.aload_n 0, 1) := by decide +kernel
theorem d_Me_init_36 : decode (am_c m_Me_init) 36 = .ok (.aload_n 1, 1) := by decide +kernel
theorem d_Me_init_37 : decode (am_c m_Me_init) 37 = .ok (.putfield 24, 3) := by decide +kernel
theorem d_Me_init_40 : decode (am_c m_Me_init) 40 = .ok (.aload_n 0, 1) := by decide +kernel
theorem d_Me_init_41 : decode (am_c m_Me_init) 41 = .ok (.aload_n 2, 1) := by decide +kernel
theorem d_Me_init_42 : decode (am_c m_Me_init) 42 = .ok (.putfield 28, 3) := by decide +kernel
theorem d_Me_init_45 : decode (am_c m_Me_init) 45 = .ok (.return_, 1) := by decide +kernel
theorem d_In_bitCount_0 : decode (am_c m_In_bitCount) 0 = .ok (.iload_n 0, 1) := by decide +kernel
theorem d_In_bitCount_1 : decode (am_c m_In_bitCount) 1 = .ok (.iload_n 0, 1) := by decide +kernel
theorem d_In_bitCount_2 : decode (am_c m_In_bitCount) 2 = .ok (.iconst 1, 1) := by decide +kernel
theorem d_In_bitCount_3 : decode (am_c m_In_bitCount) 3 = .ok (.iushr, 1) := by decide +kernel
theorem d_In_bitCount_4 : decode (am_c m_In_bitCount) 4 = .ok (.ldc_w 265, 3) := by decide +kernel
theorem d_In_bitCount_7 : decode (am_c m_In_bitCount) 7 = .ok (.iand, 1) := by decide +kernel
theorem d_In_bitCount_8 : decode (am_c m_In_bitCount) 8 = .ok (.isub, 1) := by decide +kernel
theorem d_In_bitCount_9 : decode (am_c m_In_bitCount) 9 = .ok (.istore_n 0, 1) := by decide +kernel
theorem d_In_bitCount_10 : decode (am_c m_In_bitCount) 10 = .ok (.iload_n 0, 1) := by decide +kernel
theorem d_In_bitCount_11 : decode (am_c m_In_bitCount) 11 = .ok (.ldc_w 266, 3) := by decide +kernel
theorem d_In_bitCount_14 : decode (am_c m_In_bitCount) 14 = .ok (.iand, 1) := by decide +kernel
theorem d_In_bitCount_15 : decode (am_c m_In_bitCount) 15 = .ok (.iload_n 0, 1) := by decide +kernel
theorem d_In_bitCount_16 : decode (am_c m_In_bitCount) 16 = .ok (.iconst 2, 1) := by decide +kernel
theorem d_In_bitCount_17 : decode (am_c m_In_bitCount) 17 = .ok (.iushr, 1) := by decide +kernel
theorem d_In_bitCount_18 : decode (am_c m_In_bitCount) 18 = .ok (.ldc_w 266, 3) := by decide +kernel
theorem d_In_bitCount_21 : decode (am_c m_In_bitCount) 21 = .ok (.iand, 1) := by decide +kernel
theorem d_In_bitCount_22 : decode (am_c m_In_bitCount) 22 = .ok (.iadd, 1) := by decide +kernel
theorem d_In_bitCount_23 : decode (am_c m_In_bitCount) 23 = .ok (.istore_n 0, 1) := by decide +kernel
theorem d_In_bitCount_24 : decode (am_c m_In_bitCount) 24 = .ok (.iload_n 0, 1) := by decide +kernel
theorem d_In_bitCount_25 : decode (am_c m_In_bitCount) 25 = .ok (.iload_n 0, 1) := by decide +kernel
theorem d_In_bitCount_26 : decode (am_c m_In_bitCount) 26 = .ok (.iconst 4, 1) := by decide +kernel
theorem d_In_bitCount_27 : decode (am_c m_In_bitCount) 27 = .ok (.iushr, 1) := by decide +kernel
theorem d_In_bitCount_28 : decode (am_c m_In_bitCount) 28 = .ok (.iadd, 1) := by decide +kernel
theorem d_In_bitCount_29 : decode (am_c m_In_bitCount) 29 = .ok (.ldc_w 267, 3) := by decide +kernel
theorem d_In_bitCount_32 : decode (am_c m_In_bitCount) 32 = .ok (.iand, 1) := by decide +kernel
theorem d_In_bitCount_33 : decode (am_c m_In_bitCount) 33 = .ok (.istore_n 0, 1) := by decide +kernel
theorem d_In_bitCount_34 : decode (am_c m_In_bitCount) 34 = .ok (.iload_n 0, 1) := by decide +kernel
theorem d_In_bitCount_35 : decode (am_c m_In_bitCount) 35 = .ok (.iload_n 0, 1) := by decide +kernel
theorem d_In_bitCount_36 : decode (am_c m_In_bitCount) 36 = .ok (.bipush 8, 2) := by decide +kernel
theorem d_In_bitCount_38 : decode (am_c m_In_bitCount) 38 = .ok (.iushr, 1) := by decide +kernel
theorem d_In_bitCount_39 : decode (am_c m_In_bitCount) 39 = .ok (.iadd, 1) := by decide +kernel
theorem d_In_bitCount_40 : decode (am_c m_In_bitCount) 40 = .ok (.istore_n 0, 1) := by decide +kernel
theorem d_In_bitCount_41 : decode (am_c m_In_bitCount) 41 = .ok (.iload_n 0, 1) := by decide +kernel
theorem d_In_bitCount_42 : decode (am_c m_In_bitCount) 42 = .ok (.iload_n 0, 1) := by decide +kernel
theorem d_In_bitCount_43 : decode (am_c m_In_bitCount) 43 = .ok (.bipush 16, 2) := by decide +kernel
theorem d_In_bitCount_45 : decode (am_c m_In_bitCount) 45 = .ok (.iushr, 1) := by decide +kernel
theorem d_In_bitCount_46 : decode (am_c m_In_bitCount) 46 = .ok (.iadd, 1) := by decide +kernel
theorem d_In_bitCount_47 : decode (am_c m_In_bitCount) 47 = .ok (.istore_n 0, 1) := by decide +kernel
theorem d_In_bitCount_48 : decode (am_c m_In_bitCount) 48 = .ok (.iload_n 0, 1) := by decide +kernel
theorem d_In_bitCount_49 : decode (am_c m_In_bitCount) 49 = .ok (.bipush 63, 2) := by decide +kernel
theorem d_In_bitCount_51 : decode (am_c m_In_bitCount) 51 = .ok (.iand, 1) := by decide +kernel
theorem d_In_bitCount_52 : decode (am_c m_In_bitCount) 52 = .ok (.ireturn, 1) := by decide +kernel
theorem d_Ma_max_0 : decode (am_c m_Ma_max) 0 = .ok (.iload_n 0, 1) := by decide +kernel
theorem d_Ma_max_1 : decode (am_c m_Ma_max) 1 = .ok (.iload_n 1, 1) := by decide +kernel
theorem d_Ma_max_2 : decode (am_c m_Ma_max) 2 = .ok (.if_icmp .lt 7, 3) := by decide +kernel
theorem d_Ma_max_5 : decode (am_c m_Ma_max) 5 = .ok (.iload_n 0, 1) := by decide +kernel
theorem d_Ma_max_6 : decode (am_c m_Ma_max) 6 = .ok (.goto 4, 3) := by decide +kernel
theorem d_Ma_max_9 : decode (am_c m_Ma_max) 9 = .ok (.iload_n 1, 1) := by decide +kernel
theorem d_Ma_max_10 : decode (am_c m_Ma_max) 10 = .ok (.ireturn, 1) := by decide +kernel
theorem d_Pr_setBounds_0 : decode (am_c m_Pr_setBounds) 0 = .ok (.iconst 0, 1) := by decide +kernel
theorem d_Pr_setBounds_1 : decode (am_c m_Pr_setBounds) 1 = .ok (.istore_n 1, 1) := by decide +kernel
theorem d_Pr_setBounds_2 : decode (am_c m_Pr_setBounds) 2 = .ok (.iload_n 1, 1) := by decide +kernel
theorem d_Pr_setBounds_3 : decode (am_c m_Pr_setBounds) 3 = .ok (.aload_n 0, 1) := by decide +kernel
theorem d_Pr_setBounds_4 : decode (am_c m_Pr_setBounds) 4 = .ok (.getfield 24, 3) := by decide +kernel
theorem d_Pr_setBounds_7 : decode (am_c m_Pr_setBounds) 7 = .ok (.getfield 32, 3) := by decide +kernel
theorem d_Pr_setBounds_10 : decode (am_c m_Pr_setBounds) 10 = .ok (.if_icmp .ge 69, 3) := by decide +kernel
theorem d_Pr_setBounds_13 : decode (am_c m_Pr_setBounds) 13 = .ok (.aload_n 0, 1) := by decide +kernel
theorem d_Pr_setBounds_14 : decode (am_c m_Pr_setBounds) 14 = .ok (.getfield 24, 3) := by decide +kernel
theorem d_Pr_setBounds_17 : decode (am_c m_Pr_setBounds) 17 = .ok (.getfield 38, 3) := by decide +kernel
theorem d_Pr_setBounds_20 : decode (am_c m_Pr_setBounds) 20 = .ok (.iload_n 1, 1) := by decide +kernel
theorem d_Pr_setBounds_21 : decode (am_c m_Pr_setBounds) 21 = .ok (.iaload, 1) := by decide +kernel
theorem d_Pr_setBounds_22 : decode (am_c m_Pr_setBounds) 22 = .ok (.istore_n 2, 1) := by decide +kernel
theorem d_Pr_setBounds_23 : decode (am_c m_Pr_setBounds) 23 = .ok (.aload_n 0, 1) := by decide +kernel
theorem d_Pr_setBounds_24 : decode (am_c m_Pr_setBounds) 24 = .ok (.getfield 28, 3) := by decide +kernel
theorem d_Pr_setBounds_27 : decode (am_c m_Pr_setBounds) 27 = .ok (.iload_n 2, 1) := by decide +kernel
theorem d_Pr_setBounds_28 : decode (am_c m_Pr_setBounds) 28 = .ok (.invokevirtual 41, 3) := by decide +kernel
theorem d_Pr_setBounds_31 : decode (am_c m_Pr_setBounds) 31 = .ok (.aload_n 0, 1) := by decide +kernel
theorem d_Pr_setBounds_32 : decode (am_c m_Pr_setBounds) 32 = .ok (.getfield 28, 3) := by decide +kernel
theorem d_Pr_setBounds_35 : decode (am_c m_Pr_setBounds) 35 = .ok (.iload_n 2, 1) := by decide +kernel
theorem d_Pr_setBounds_36 : decode (am_c m_Pr_setBounds) 36 = .ok (.invokevirtual 47, 3) := by decide +kernel
theorem d_Pr_setBounds_39 : decode (am_c m_Pr_setBounds) 39 = .ok (.iadd, 1) := by decide +kernel
theorem d_Pr_setBounds_40 : decode (am_c m_Pr_setBounds) 40 = .ok (.istore_n 3, 1) := by decide +kernel
theorem d_Pr_setBounds_41 : decode (am_c m_Pr_setBounds) 41 = .ok (.aload_n 0, 1) := by decide +kernel
theorem d_Pr_setBounds_42 : decode (am_c m_Pr_setBounds) 42 = .ok (.getfield 9, 3) := by decide +kernel
theorem d_Pr_setBounds_45 : decode (am_c m_Pr_setBounds) 45 = .ok (.iload_n 1, 1) := by decide +kernel
theorem d_Pr_setBounds_46 : decode (am_c m_Pr_setBounds) 46 = .ok (.aload_n 0, 1) := by decide +kernel
theorem d_Pr_setBounds_47 : decode (am_c m_Pr_setBounds) 47 = .ok (.getfield 28, 3) := by decide +kernel
theorem d_Pr_setBounds_50 : decode (am_c m_Pr_setBounds) 50 = .ok (.iload_n 2, 1) := by decide +kernel
theorem d_Pr_setBounds_51 : decode (am_c m_Pr_setBounds) 51 = .ok (.invokevirtual 50, 3) := by decide +kernel
theorem d_Pr_setBounds_54 : decode (am_c m_Pr_setBounds) 54 = .ok (.iload_n 3, 1) := by decide +kernel
theorem d_Pr_setBounds_55 : decode (am_c m_Pr_setBounds) 55 = .ok (.isub, 1) := by decide +kernel
theorem d_Pr_setBounds_56 : decode (am_c m_Pr_setBounds) 56 = .ok (.iastore, 1) := by decide +kernel
theorem d_Pr_setBounds_57 : decode (am_c m_Pr_setBounds) 57 = .ok (.aload_n 0, 1) := by decide +kernel
theorem d_Pr_setBounds_58 : decode (am_c m_Pr_setBounds) 58 = .ok (.getfield 15, 3) := by decide +kernel
theorem d_Pr_setBounds_61 : decode (am_c m_Pr_setBounds) 61 = .ok (.iload_n 1, 1) := by decide +kernel
theorem d_Pr_setBounds_62 : decode (am_c m_Pr_setBounds) 62 = .ok (.aload_n 0, 1) := by decide +kernel
theorem d_Pr_setBounds_63 : decode (am_c m_Pr_setBounds) 63 = .ok (.getfield 28, 3) := by decide +kernel
theorem d_Pr_setBounds_66 : decode (am_c m_Pr_setBounds) 66 = .ok (.iload_n 2, 1) := by decide +kernel
theorem d_Pr_setBounds_67 : decode (am_c m_Pr_setBounds) 67 = .ok (.invokevirtual 53, 3) := by decide +kernel
theorem d_Pr_setBounds_70 : decode (am_c m_Pr_setBounds) 70 = .ok (.iload_n 3, 1) := by decide +kernel
theorem d_Pr_setBounds_71 : decode (am_c m_Pr_setBounds) 71 = .ok (.isub, 1) := by decide +kernel
theorem d_Pr_setBounds_72 : decode (am_c m_Pr_setBounds) 72 = .ok (.iastore, 1) := by decide +kernel
theorem d_Pr_setBounds_73 : decode (am_c m_Pr_setBounds) 73 = .ok (.iinc 1 1, 3) := by decide +kernel
theorem d_Pr_setBounds_76 : decode (am_c m_Pr_setBounds) 76 = .ok (.goto (-74), 3) := by decide +kernel
theorem d_Pr_setBounds_79 : decode (am_c m_Pr_setBounds) 79 = .ok (.return_, 1) := by decide +kernel
theorem d_Pr_quarrels_0 : decode (am_c m_Pr_quarrels) 0 = .ok (.aload_n 0, 1) := by decide +kernel
theorem d_Pr_quarrels_1 : decode (am_c m_Pr_quarrels) 1 = .ok (.getfield 18, 3) := by decide +kernel
theorem d_Pr_quarrels_4 : decode (am_c m_Pr_quarrels) 4 = .ok (.iconst 1, 1) := by decide +kernel
theorem d_Pr_quarrels_5 : decode (am_c m_Pr_quarrels) 5 = .ok (.invokestatic 69, 3) := by decide +kernel
theorem d_Pr_quarrels_8 : decode (am_c m_Pr_quarrels) 8 = .ok (.aload_n 0, 1) := by decide +kernel
theorem d_Pr_quarrels_9 : decode (am_c m_Pr_quarrels) 9 = .ok (.getfield 21, 3) := by decide +kernel
theorem d_Pr_quarrels_12 : decode (am_c m_Pr_quarrels) 12 = .ok (.bipush 60, 2) := by decide +kernel
theorem d_Pr_quarrels_14 : decode (am_c m_Pr_quarrels) 14 = .ok (.invokestatic 69, 3) := by decide +kernel
theorem d_Pr_quarrels_17 : decode (am_c m_Pr_quarrels) 17 = .ok (.aload_n 0, 1) := by decide +kernel
theorem d_Pr_quarrels_18 : decode (am_c m_Pr_quarrels) 18 = .ok (.iconst 0, 1) := by decide +kernel
theorem d_Pr_quarrels_19 : decode (am_c m_Pr_quarrels) 19 = .ok (.putfield 75, 3) := by decide +kernel
theorem d_Pr_quarrels_22 : decode (am_c m_Pr_quarrels) 22 = .ok (.iconst 1, 1) := by decide +kernel
theorem d_Pr_quarrels_23 : decode (am_c m_Pr_quarrels) 23 = .ok (.istore_n 2, 1) := by decide +kernel
theorem d_Pr_quarrels_24 : decode (am_c m_Pr_quarrels) 24 = .ok (.iconst 0, 1) := by decide +kernel
theorem d_Pr_quarrels_25 : decode (am_c m_Pr_quarrels) 25 = .ok (.istore_n 3, 1) := by decide +kernel
theorem d_Pr_quarrels_26 : decode (am_c m_Pr_quarrels) 26 = .ok (.iload_n 3, 1) := by decide +kernel
theorem d_Pr_quarrels_27 : decode (am_c m_Pr_quarrels) 27 = .ok (.sipush 480, 3) := by decide +kernel
theorem d_Pr_quarrels_30 : decode (am_c m_Pr_quarrels) 30 = .ok (.if_icmp .gt 71, 3) := by decide +kernel
theorem d_Pr_quarrels_33 : decode (am_c m_Pr_quarrels) 33 = .ok (.iload_n 2, 1) := by decide +kernel
theorem d_Pr_quarrels_34 : decode (am_c m_Pr_quarrels) 34 = .ok (.ifCond .eq 67, 3) := by decide +kernel
theorem d_Pr_quarrels_37 : decode (am_c m_Pr_quarrels) 37 = .ok (.aload_n 0, 1) := by decide +kernel
theorem d_Pr_quarrels_38 : decode (am_c m_Pr_quarrels) 38 = .ok (.getfield 75, 3) := by decide +kernel
theorem d_Pr_quarrels_41 : decode (am_c m_Pr_quarrels) 41 = .ok (.ifCond .ne 60, 3) := by decide +kernel
theorem d_Pr_quarrels_44 : decode (am_c m_Pr_quarrels) 44 = .ok (.iconst 0, 1) := by decide +kernel
theorem d_Pr_quarrels_45 : decode (am_c m_Pr_quarrels) 45 = .ok (.istore_n 2, 1) := by decide +kernel
theorem d_Pr_quarrels_46 : decode (am_c m_Pr_quarrels) 46 = .ok (.iconst 0, 1) := by decide +kernel
theorem d_Pr_quarrels_47 : decode (am_c m_Pr_quarrels) 47 = .ok (.istore 4, 2) := by decide +kernel
theorem d_Pr_quarrels_49 : decode (am_c m_Pr_quarrels) 49 = .ok (.iload 4, 2) := by decide +kernel
theorem d_Pr_quarrels_51 : decode (am_c m_Pr_quarrels) 51 = .ok (.aload_n 0, 1) := by decide +kernel
theorem d_Pr_quarrels_52 : decode (am_c m_Pr_quarrels) 52 = .ok (.getfield 24, 3) := by decide +kernel
theorem d_Pr_quarrels_55 : decode (am_c m_Pr_quarrels) 55 = .ok (.getfield 32, 3) := by decide +kernel
theorem d_Pr_quarrels_58 : decode (am_c m_Pr_quarrels) 58 = .ok (.if_icmp .ge 37, 3) := by decide +kernel
theorem d_Pr_quarrels_61 : decode (am_c m_Pr_quarrels) 61 = .ok (.aload_n 0, 1) := by decide +kernel
theorem d_Pr_quarrels_62 : decode (am_c m_Pr_quarrels) 62 = .ok (.getfield 75, 3) := by decide +kernel
theorem d_Pr_quarrels_65 : decode (am_c m_Pr_quarrels) 65 = .ok (.ifCond .ne 30, 3) := by decide +kernel
theorem d_Pr_quarrels_68 : decode (am_c m_Pr_quarrels) 68 = .ok (.iload_n 1, 1) := by decide +kernel
theorem d_Pr_quarrels_69 : decode (am_c m_Pr_quarrels) 69 = .ok (.iload 4, 2) := by decide +kernel
theorem d_Pr_quarrels_71 : decode (am_c m_Pr_quarrels) 71 = .ok (.ishr, 1) := by decide +kernel
theorem d_Pr_quarrels_72 : decode (am_c m_Pr_quarrels) 72 = .ok (.iconst 1, 1) := by decide +kernel
theorem d_Pr_quarrels_73 : decode (am_c m_Pr_quarrels) 73 = .ok (.iand, 1) := by decide +kernel
theorem d_Pr_quarrels_74 : decode (am_c m_Pr_quarrels) 74 = .ok (.iconst 1, 1) := by decide +kernel
theorem d_Pr_quarrels_75 : decode (am_c m_Pr_quarrels) 75 = .ok (.if_icmp .ne 14, 3) := by decide +kernel
theorem d_Pr_quarrels_78 : decode (am_c m_Pr_quarrels) 78 = .ok (.aload_n 0, 1) := by decide +kernel
theorem d_Pr_quarrels_79 : decode (am_c m_Pr_quarrels) 79 = .ok (.iload 4, 2) := by decide +kernel
theorem d_Pr_quarrels_81 : decode (am_c m_Pr_quarrels) 81 = .ok (.invokevirtual 79, 3) := by decide +kernel
theorem d_Pr_quarrels_84 : decode (am_c m_Pr_quarrels) 84 = .ok (.ifCond .eq 5, 3) := by decide +kernel
theorem d_Pr_quarrels_87 : decode (am_c m_Pr_quarrels) 87 = .ok (.iconst 1, 1) := by decide +kernel
theorem d_Pr_quarrels_88 : decode (am_c m_Pr_quarrels) 88 = .ok (.istore_n 2, 1) := by decide +kernel
theorem d_Pr_quarrels_89 : decode (am_c m_Pr_quarrels) 89 = .ok (.iinc 4 1, 3) := by decide +kernel
theorem d_Pr_quarrels_92 : decode (am_c m_Pr_quarrels) 92 = .ok (.goto (-43), 3) := by decide +kernel
theorem d_Pr_quarrels_95 : decode (am_c m_Pr_quarrels) 95 = .ok (.iinc 3 1, 3) := by decide +kernel
theorem d_Pr_quarrels_98 : decode (am_c m_Pr_quarrels) 98 = .ok (.goto (-72), 3) := by decide +kernel
theorem d_Pr_quarrels_101 : decode (am_c m_Pr_quarrels) 101 = .ok (.aload_n 0, 1) := by decide +kernel
theorem d_Pr_quarrels_102 : decode (am_c m_Pr_quarrels) 102 = .ok (.getfield 75, 3) := by decide +kernel
theorem d_Pr_quarrels_105 : decode (am_c m_Pr_quarrels) 105 = .ok (.ireturn, 1) := by decide +kernel
theorem d_Pr_narrow_0 : decode (am_c m_Pr_narrow) 0 = .ok (.aload_n 0, 1) := by decide +kernel
theorem d_Pr_narrow_1 : decode (am_c m_Pr_narrow) 1 = .ok (.getfield 24, 3) := by decide +kernel
theorem d_Pr_narrow_4 : decode (am_c m_Pr_narrow) 4 = .ok (.getfield 82, 3) := by decide +kernel
theorem d_Pr_narrow_7 : decode (am_c m_Pr_narrow) 7 = .ok (.iload_n 1, 1) := by decide +kernel
theorem d_Pr_narrow_8 : decode (am_c m_Pr_narrow) 8 = .ok (.aaload, 1) := by decide +kernel
theorem d_Pr_narrow_9 : decode (am_c m_Pr_narrow) 9 = .ok (.astore_n 2, 1) := by decide +kernel
theorem d_Pr_narrow_10 : decode (am_c m_Pr_narrow) 10 = .ok (.aload_n 2, 1) := by decide +kernel
theorem d_Pr_narrow_11 : decode (am_c m_Pr_narrow) 11 = .ok (.aload_n 0, 1) := by decide +kernel
theorem d_Pr_narrow_12 : decode (am_c m_Pr_narrow) 12 = .ok (.getfield 18, 3) := by decide +kernel
theorem d_Pr_narrow_15 : decode (am_c m_Pr_narrow) 15 = .ok (.invokestatic 86, 3) := by decide +kernel
theorem d_Pr_narrow_18 : decode (am_c m_Pr_narrow) 18 = .ok (.istore_n 3, 1) := by decide +kernel
theorem d_Pr_narrow_19 : decode (am_c m_Pr_narrow) 19 = .ok (.aload_n 2, 1) := by decide +kernel
theorem d_Pr_narrow_20 : decode (am_c m_Pr_narrow) 20 = .ok (.aload_n 0, 1) := by decide +kernel
theorem d_Pr_narrow_21 : decode (am_c m_Pr_narrow) 21 = .ok (.getfield 21, 3) := by decide +kernel
theorem d_Pr_narrow_24 : decode (am_c m_Pr_narrow) 24 = .ok (.invokestatic 86, 3) := by decide +kernel
theorem d_Pr_narrow_27 : decode (am_c m_Pr_narrow) 27 = .ok (.istore 4, 2) := by decide +kernel
theorem d_Pr_narrow_29 : decode (am_c m_Pr_narrow) 29 = .ok (.iconst 0, 1) := by decide +kernel
theorem d_Pr_narrow_30 : decode (am_c m_Pr_narrow) 30 = .ok (.istore 5, 2) := by decide +kernel
theorem d_Pr_narrow_32 : decode (am_c m_Pr_narrow) 32 = .ok (.iconst 0, 1) := by decide +kernel
theorem d_Pr_narrow_33 : decode (am_c m_Pr_narrow) 33 = .ok (.istore 6, 2) := by decide +kernel
theorem d_Pr_narrow_35 : decode (am_c m_Pr_narrow) 35 = .ok (.iload 6, 2) := by decide +kernel
theorem d_Pr_narrow_37 : decode (am_c m_Pr_narrow) 37 = .ok (.bipush 8, 2) := by decide +kernel
theorem d_Pr_narrow_39 : decode (am_c m_Pr_narrow) 39 = .ok (.if_icmp .ge 189, 3) := by decide +kernel
theorem d_Pr_narrow_42 : decode (am_c m_Pr_narrow) 42 = .ok (.aload_n 0, 1) := by decide +kernel
theorem d_Pr_narrow_43 : decode (am_c m_Pr_narrow) 43 = .ok (.getfield 75, 3) := by decide +kernel
theorem d_Pr_narrow_46 : decode (am_c m_Pr_narrow) 46 = .ok (.ifCond .ne 182, 3) := by decide +kernel
theorem d_Pr_narrow_49 : decode (am_c m_Pr_narrow) 49 = .ok (.aload_n 2, 1) := by decide +kernel
theorem d_Pr_narrow_50 : decode (am_c m_Pr_narrow) 50 = .ok (.iload 6, 2) := by decide +kernel
theorem d_Pr_narrow_52 : decode (am_c m_Pr_narrow) 52 = .ok (.iaload, 1) := by decide +kernel
theorem d_Pr_narrow_53 : decode (am_c m_Pr_narrow) 53 = .ok (.istore 7, 2) := by decide +kernel
theorem d_Pr_narrow_55 : decode (am_c m_Pr_narrow) 55 = .ok (.iload 7, 2) := by decide +kernel
theorem d_Pr_narrow_57 : decode (am_c m_Pr_narrow) 57 = .ok (.ifCond .le 165, 3) := by decide +kernel
theorem d_Pr_narrow_60 : decode (am_c m_Pr_narrow) 60 = .ok (.aload_n 0, 1) := by decide +kernel
theorem d_Pr_narrow_61 : decode (am_c m_Pr_narrow) 61 = .ok (.getfield 15, 3) := by decide +kernel
theorem d_Pr_narrow_64 : decode (am_c m_Pr_narrow) 64 = .ok (.iload_n 1, 1) := by decide +kernel
theorem d_Pr_narrow_65 : decode (am_c m_Pr_narrow) 65 = .ok (.iaload, 1) := by decide +kernel
theorem d_Pr_narrow_66 : decode (am_c m_Pr_narrow) 66 = .ok (.iload_n 3, 1) := by decide +kernel
theorem d_Pr_narrow_67 : decode (am_c m_Pr_narrow) 67 = .ok (.iload 7, 2) := by decide +kernel
theorem d_Pr_narrow_69 : decode (am_c m_Pr_narrow) 69 = .ok (.aload_n 0, 1) := by decide +kernel
theorem d_Pr_narrow_70 : decode (am_c m_Pr_narrow) 70 = .ok (.getfield 18, 3) := by decide +kernel
theorem d_Pr_narrow_73 : decode (am_c m_Pr_narrow) 73 = .ok (.iload 6, 2) := by decide +kernel
theorem d_Pr_narrow_75 : decode (am_c m_Pr_narrow) 75 = .ok (.iaload, 1) := by decide +kernel
theorem d_Pr_narrow_76 : decode (am_c m_Pr_narrow) 76 = .ok (.imul, 1) := by decide +kernel
theorem d_Pr_narrow_77 : decode (am_c m_Pr_narrow) 77 = .ok (.isub, 1) := by decide +kernel
theorem d_Pr_narrow_78 : decode (am_c m_Pr_narrow) 78 = .ok (.isub, 1) := by decide +kernel
theorem d_Pr_narrow_79 : decode (am_c m_Pr_narrow) 79 = .ok (.iload 7, 2) := by decide +kernel
theorem d_Pr_narrow_81 : decode (am_c m_Pr_narrow) 81 = .ok (.invokestatic 90, 3) := by decide +kernel
theorem d_Pr_narrow_84 : decode (am_c m_Pr_narrow) 84 = .ok (.istore 8, 2) := by decide +kernel
theorem d_Pr_narrow_86 : decode (am_c m_Pr_narrow) 86 = .ok (.iload 8, 2) := by decide +kernel
theorem d_Pr_narrow_88 : decode (am_c m_Pr_narrow) 88 = .ok (.aload_n 0, 1) := by decide +kernel
theorem d_Pr_narrow_89 : decode (am_c m_Pr_narrow) 89 = .ok (.getfield 21, 3) := by decide +kernel
theorem d_Pr_narrow_92 : decode (am_c m_Pr_narrow) 92 = .ok (.iload 6, 2) := by decide +kernel
theorem d_Pr_narrow_94 : decode (am_c m_Pr_narrow) 94 = .ok (.iaload, 1) := by decide +kernel
theorem d_Pr_narrow_95 : decode (am_c m_Pr_narrow) 95 = .ok (.if_icmp .ge 33, 3) := by decide +kernel
theorem d_Pr_narrow_98 : decode (am_c m_Pr_narrow) 98 = .ok (.iload 4, 2) := by decide +kernel
theorem d_Pr_narrow_100 : decode (am_c m_Pr_narrow) 100 = .ok (.iload 7, 2) := by decide +kernel
theorem d_Pr_narrow_102 : decode (am_c m_Pr_narrow) 102 = .ok (.aload_n 0, 1) := by decide +kernel
theorem d_Pr_narrow_103 : decode (am_c m_Pr_narrow) 103 = .ok (.getfield 21, 3) := by decide +kernel
theorem d_Pr_narrow_106 : decode (am_c m_Pr_narrow) 106 = .ok (.iload 6, 2) := by decide +kernel
theorem d_Pr_narrow_108 : decode (am_c m_Pr_narrow) 108 = .ok (.iaload, 1) := by decide +kernel
theorem d_Pr_narrow_109 : decode (am_c m_Pr_narrow) 109 = .ok (.iload 8, 2) := by decide +kernel
theorem d_Pr_narrow_111 : decode (am_c m_Pr_narrow) 111 = .ok (.isub, 1) := by decide +kernel
theorem d_Pr_narrow_112 : decode (am_c m_Pr_narrow) 112 = .ok (.imul, 1) := by decide +kernel
theorem d_Pr_narrow_113 : decode (am_c m_Pr_narrow) 113 = .ok (.isub, 1) := by decide +kernel
theorem d_Pr_narrow_114 : decode (am_c m_Pr_narrow) 114 = .ok (.istore 4, 2) := by decide +kernel
theorem d_Pr_narrow_116 : decode (am_c m_Pr_narrow) 116 = .ok (.aload_n 0, 1) := by decide +kernel
theorem d_Pr_narrow_117 : decode (am_c m_Pr_narrow) 117 = .ok (.getfield 21, 3) := by decide +kernel
theorem d_Pr_narrow_120 : decode (am_c m_Pr_narrow) 120 = .ok (.iload 6, 2) := by decide +kernel
theorem d_Pr_narrow_122 : decode (am_c m_Pr_narrow) 122 = .ok (.iload 8, 2) := by decide +kernel
theorem d_Pr_narrow_124 : decode (am_c m_Pr_narrow) 124 = .ok (.iastore, 1) := by decide +kernel
theorem d_Pr_narrow_125 : decode (am_c m_Pr_narrow) 125 = .ok (.iconst 1, 1) := by decide +kernel
theorem d_Pr_narrow_126 : decode (am_c m_Pr_narrow) 126 = .ok (.istore 5, 2) := by decide +kernel
theorem d_Pr_narrow_128 : decode (am_c m_Pr_narrow) 128 = .ok (.iload 4, 2) := by decide +kernel
theorem d_Pr_narrow_130 : decode (am_c m_Pr_narrow) 130 = .ok (.iload 7, 2) := by decide +kernel
theorem d_Pr_narrow_132 : decode (am_c m_Pr_narrow) 132 = .ok (.aload_n 0, 1) := by decide +kernel
theorem d_Pr_narrow_133 : decode (am_c m_Pr_narrow) 133 = .ok (.getfield 21, 3) := by decide +kernel
theorem d_Pr_narrow_136 : decode (am_c m_Pr_narrow) 136 = .ok (.iload 6, 2) := by decide +kernel
theorem d_Pr_narrow_138 : decode (am_c m_Pr_narrow) 138 = .ok (.iaload, 1) := by decide +kernel
theorem d_Pr_narrow_139 : decode (am_c m_Pr_narrow) 139 = .ok (.imul, 1) := by decide +kernel
theorem d_Pr_narrow_140 : decode (am_c m_Pr_narrow) 140 = .ok (.isub, 1) := by decide +kernel
theorem d_Pr_narrow_141 : decode (am_c m_Pr_narrow) 141 = .ok (.aload_n 0, 1) := by decide +kernel
theorem d_Pr_narrow_142 : decode (am_c m_Pr_narrow) 142 = .ok (.getfield 9, 3) := by decide +kernel
theorem d_Pr_narrow_145 : decode (am_c m_Pr_narrow) 145 = .ok (.iload_n 1, 1) := by decide +kernel
theorem d_Pr_narrow_146 : decode (am_c m_Pr_narrow) 146 = .ok (.iaload, 1) := by decide +kernel
theorem d_Pr_narrow_147 : decode (am_c m_Pr_narrow) 147 = .ok (.isub, 1) := by decide +kernel
theorem d_Pr_narrow_148 : decode (am_c m_Pr_narrow) 148 = .ok (.iload 7, 2) := by decide +kernel
theorem d_Pr_narrow_150 : decode (am_c m_Pr_narrow) 150 = .ok (.invokestatic 90, 3) := by decide +kernel
theorem d_Pr_narrow_153 : decode (am_c m_Pr_narrow) 153 = .ok (.ineg, 1) := by decide +kernel
theorem d_Pr_narrow_154 : decode (am_c m_Pr_narrow) 154 = .ok (.istore 9, 2) := by decide +kernel
theorem d_Pr_narrow_156 : decode (am_c m_Pr_narrow) 156 = .ok (.iload 9, 2) := by decide +kernel
theorem d_Pr_narrow_158 : decode (am_c m_Pr_narrow) 158 = .ok (.aload_n 0, 1) := by decide +kernel
theorem d_Pr_narrow_159 : decode (am_c m_Pr_narrow) 159 = .ok (.getfield 18, 3) := by decide +kernel
theorem d_Pr_narrow_162 : decode (am_c m_Pr_narrow) 162 = .ok (.iload 6, 2) := by decide +kernel
theorem d_Pr_narrow_164 : decode (am_c m_Pr_narrow) 164 = .ok (.iaload, 1) := by decide +kernel
theorem d_Pr_narrow_165 : decode (am_c m_Pr_narrow) 165 = .ok (.if_icmp .le 31, 3) := by decide +kernel
theorem d_Pr_narrow_168 : decode (am_c m_Pr_narrow) 168 = .ok (.iload_n 3, 1) := by decide +kernel
theorem d_Pr_narrow_169 : decode (am_c m_Pr_narrow) 169 = .ok (.iload 7, 2) := by decide +kernel
theorem d_Pr_narrow_171 : decode (am_c m_Pr_narrow) 171 = .ok (.iload 9, 2) := by decide +kernel
theorem d_Pr_narrow_173 : decode (am_c m_Pr_narrow) 173 = .ok (.aload_n 0, 1) := by decide +kernel
theorem d_Pr_narrow_174 : decode (am_c m_Pr_narrow) 174 = .ok (.getfield 18, 3) := by decide +kernel
theorem d_Pr_narrow_177 : decode (am_c m_Pr_narrow) 177 = .ok (.iload 6, 2) := by decide +kernel
theorem d_Pr_narrow_179 : decode (am_c m_Pr_narrow) 179 = .ok (.iaload, 1) := by decide +kernel
theorem d_Pr_narrow_180 : decode (am_c m_Pr_narrow) 180 = .ok (.isub, 1) := by decide +kernel
theorem d_Pr_narrow_181 : decode (am_c m_Pr_narrow) 181 = .ok (.imul, 1) := by decide +kernel
theorem d_Pr_narrow_182 : decode (am_c m_Pr_narrow) 182 = .ok (.iadd, 1) := by decide +kernel
theorem d_Pr_narrow_183 : decode (am_c m_Pr_narrow) 183 = .ok (.istore_n 3, 1) := by decide +kernel
theorem d_Pr_narrow_184 : decode (am_c m_Pr_narrow) 184 = .ok (.aload_n 0, 1) := by decide +kernel
theorem d_Pr_narrow_185 : decode (am_c m_Pr_narrow) 185 = .ok (.getfield 18, 3) := by decide +kernel
theorem d_Pr_narrow_188 : decode (am_c m_Pr_narrow) 188 = .ok (.iload 6, 2) := by decide +kernel
theorem d_Pr_narrow_190 : decode (am_c m_Pr_narrow) 190 = .ok (.iload 9, 2) := by decide +kernel
theorem d_Pr_narrow_192 : decode (am_c m_Pr_narrow) 192 = .ok (.iastore, 1) := by decide +kernel
theorem d_Pr_narrow_193 : decode (am_c m_Pr_narrow) 193 = .ok (.iconst 1, 1) := by decide +kernel
theorem d_Pr_narrow_194 : decode (am_c m_Pr_narrow) 194 = .ok (.istore 5, 2) := by decide +kernel
theorem d_Pr_narrow_196 : decode (am_c m_Pr_narrow) 196 = .ok (.aload_n 0, 1) := by decide +kernel
theorem d_Pr_narrow_197 : decode (am_c m_Pr_narrow) 197 = .ok (.aload_n 0, 1) := by decide +kernel
theorem d_Pr_narrow_198 : decode (am_c m_Pr_narrow) 198 = .ok (.getfield 18, 3) := by decide +kernel
theorem d_Pr_narrow_201 : decode (am_c m_Pr_narrow) 201 = .ok (.iload 6, 2) := by decide +kernel
theorem d_Pr_narrow_203 : decode (am_c m_Pr_narrow) 203 = .ok (.iaload, 1) := by decide +kernel
theorem d_Pr_narrow_204 : decode (am_c m_Pr_narrow) 204 = .ok (.aload_n 0, 1) := by decide +kernel
theorem d_Pr_narrow_205 : decode (am_c m_Pr_narrow) 205 = .ok (.getfield 21, 3) := by decide +kernel
theorem d_Pr_narrow_208 : decode (am_c m_Pr_narrow) 208 = .ok (.iload 6, 2) := by decide +kernel
theorem d_Pr_narrow_210 : decode (am_c m_Pr_narrow) 210 = .ok (.iaload, 1) := by decide +kernel
theorem d_Pr_narrow_211 : decode (am_c m_Pr_narrow) 211 = .ok (.if_icmp .le 7, 3) := by decide +kernel
theorem d_Pr_narrow_214 : decode (am_c m_Pr_narrow) 214 = .ok (.iconst 1, 1) := by decide +kernel
theorem d_Pr_narrow_215 : decode (am_c m_Pr_narrow) 215 = .ok (.goto 4, 3) := by decide +kernel
theorem d_Pr_narrow_218 : decode (am_c m_Pr_narrow) 218 = .ok (.iconst 0, 1) := by decide +kernel
theorem d_Pr_narrow_219 : decode (am_c m_Pr_narrow) 219 = .ok (.putfield 75, 3) := by decide +kernel
theorem d_Pr_narrow_222 : decode (am_c m_Pr_narrow) 222 = .ok (.iinc 6 1, 3) := by decide +kernel
theorem d_Pr_narrow_225 : decode (am_c m_Pr_narrow) 225 = .ok (.goto (-190), 3) := by decide +kernel
theorem d_Pr_narrow_228 : decode (am_c m_Pr_narrow) 228 = .ok (.iload 5, 2) := by decide +kernel
theorem d_Pr_narrow_230 : decode (am_c m_Pr_narrow) 230 = .ok (.ireturn, 1) := by decide +kernel
theorem d_Pr_weigh_0 : decode (am_c m_Pr_weigh) 0 = .ok (.iconst 0, 1) := by decide +kernel
theorem d_Pr_weigh_1 : decode (am_c m_Pr_weigh) 1 = .ok (.istore_n 2, 1) := by decide +kernel
theorem d_Pr_weigh_2 : decode (am_c m_Pr_weigh) 2 = .ok (.iconst 0, 1) := by decide +kernel
theorem d_Pr_weigh_3 : decode (am_c m_Pr_weigh) 3 = .ok (.istore_n 3, 1) := by decide +kernel
theorem d_Pr_weigh_4 : decode (am_c m_Pr_weigh) 4 = .ok (.iload_n 3, 1) := by decide +kernel
theorem d_Pr_weigh_5 : decode (am_c m_Pr_weigh) 5 = .ok (.bipush 8, 2) := by decide +kernel
theorem d_Pr_weigh_7 : decode (am_c m_Pr_weigh) 7 = .ok (.if_icmp .ge 19, 3) := by decide +kernel
theorem d_Pr_weigh_10 : decode (am_c m_Pr_weigh) 10 = .ok (.iload_n 2, 1) := by decide +kernel
theorem d_Pr_weigh_11 : decode (am_c m_Pr_weigh) 11 = .ok (.aload_n 0, 1) := by decide +kernel
theorem d_Pr_weigh_12 : decode (am_c m_Pr_weigh) 12 = .ok (.iload_n 3, 1) := by decide +kernel
theorem d_Pr_weigh_13 : decode (am_c m_Pr_weigh) 13 = .ok (.iaload, 1) := by decide +kernel
theorem d_Pr_weigh_14 : decode (am_c m_Pr_weigh) 14 = .ok (.aload_n 1, 1) := by decide +kernel
theorem d_Pr_weigh_15 : decode (am_c m_Pr_weigh) 15 = .ok (.iload_n 3, 1) := by decide +kernel
theorem d_Pr_weigh_16 : decode (am_c m_Pr_weigh) 16 = .ok (.iaload, 1) := by decide +kernel
theorem d_Pr_weigh_17 : decode (am_c m_Pr_weigh) 17 = .ok (.imul, 1) := by decide +kernel
theorem d_Pr_weigh_18 : decode (am_c m_Pr_weigh) 18 = .ok (.iadd, 1) := by decide +kernel
theorem d_Pr_weigh_19 : decode (am_c m_Pr_weigh) 19 = .ok (.istore_n 2, 1) := by decide +kernel
theorem d_Pr_weigh_20 : decode (am_c m_Pr_weigh) 20 = .ok (.iinc 3 1, 3) := by decide +kernel
theorem d_Pr_weigh_23 : decode (am_c m_Pr_weigh) 23 = .ok (.goto (-19), 3) := by decide +kernel
theorem d_Pr_weigh_26 : decode (am_c m_Pr_weigh) 26 = .ok (.iload_n 2, 1) := by decide +kernel
theorem d_Pr_weigh_27 : decode (am_c m_Pr_weigh) 27 = .ok (.ireturn, 1) := by decide +kernel
theorem d_Ma_floorDiv_0 : decode (am_c m_Ma_floorDiv) 0 = .ok (.iload_n 0, 1) := by decide +kernel
theorem d_Ma_floorDiv_1 : decode (am_c m_Ma_floorDiv) 1 = .ok (.iload_n 1, 1) := by decide +kernel
theorem d_Ma_floorDiv_2 : decode (am_c m_Ma_floorDiv) 2 = .ok (.idiv, 1) := by decide +kernel
theorem d_Ma_floorDiv_3 : decode (am_c m_Ma_floorDiv) 3 = .ok (.istore_n 2, 1) := by decide +kernel
theorem d_Ma_floorDiv_4 : decode (am_c m_Ma_floorDiv) 4 = .ok (.iload_n 0, 1) := by decide +kernel
theorem d_Ma_floorDiv_5 : decode (am_c m_Ma_floorDiv) 5 = .ok (.iload_n 1, 1) := by decide +kernel
theorem d_Ma_floorDiv_6 : decode (am_c m_Ma_floorDiv) 6 = .ok (.ixor, 1) := by decide +kernel
theorem d_Ma_floorDiv_7 : decode (am_c m_Ma_floorDiv) 7 = .ok (.ifCond .ge 14, 3) := by decide +kernel
theorem d_Ma_floorDiv_10 : decode (am_c m_Ma_floorDiv) 10 = .ok (.iload_n 2, 1) := by decide +kernel
theorem d_Ma_floorDiv_11 : decode (am_c m_Ma_floorDiv) 11 = .ok (.iload_n 1, 1) := by decide +kernel
theorem d_Ma_floorDiv_12 : decode (am_c m_Ma_floorDiv) 12 = .ok (.imul, 1) := by decide +kernel
theorem d_Ma_floorDiv_13 : decode (am_c m_Ma_floorDiv) 13 = .ok (.iload_n 0, 1) := by decide +kernel
theorem d_Ma_floorDiv_14 : decode (am_c m_Ma_floorDiv) 14 = .ok (.if_icmp .eq 7, 3) := by decide +kernel
theorem d_Ma_floorDiv_17 : decode (am_c m_Ma_floorDiv) 17 = .ok (.iload_n 2, 1) := by decide +kernel
theorem d_Ma_floorDiv_18 : decode (am_c m_Ma_floorDiv) 18 = .ok (.iconst 1, 1) := by decide +kernel
theorem d_Ma_floorDiv_19 : decode (am_c m_Ma_floorDiv) 19 = .ok (.isub, 1) := by decide +kernel
theorem d_Ma_floorDiv_20 : decode (am_c m_Ma_floorDiv) 20 = .ok (.ireturn, 1) := by decide +kernel
theorem d_Ma_floorDiv_21 : decode (am_c m_Ma_floorDiv) 21 = .ok (.iload_n 2, 1) := by decide +kernel
theorem d_Ma_floorDiv_22 : decode (am_c m_Ma_floorDiv) 22 = .ok (.ireturn, 1) := by decide +kernel
theorem d_Pr_leastQuarrel_0 : decode (am_c m_Pr_leastQuarrel) 0 = .ok (.aload_n 0, 1) := by decide +kernel
theorem d_Pr_leastQuarrel_1 : decode (am_c m_Pr_leastQuarrel) 1 = .ok (.getfield 24, 3) := by decide +kernel
theorem d_Pr_leastQuarrel_4 : decode (am_c m_Pr_leastQuarrel) 4 = .ok (.invokevirtual 56, 3) := by decide +kernel
theorem d_Pr_leastQuarrel_7 : decode (am_c m_Pr_leastQuarrel) 7 = .ok (.istore_n 1, 1) := by decide +kernel
theorem d_Pr_leastQuarrel_8 : decode (am_c m_Pr_leastQuarrel) 8 = .ok (.aload_n 0, 1) := by decide +kernel
theorem d_Pr_leastQuarrel_9 : decode (am_c m_Pr_leastQuarrel) 9 = .ok (.iload_n 1, 1) := by decide +kernel
theorem d_Pr_leastQuarrel_10 : decode (am_c m_Pr_leastQuarrel) 10 = .ok (.invokevirtual 60, 3) := by decide +kernel
theorem d_Pr_leastQuarrel_13 : decode (am_c m_Pr_leastQuarrel) 13 = .ok (.ifCond .ne 5, 3) := by decide +kernel
theorem d_Pr_leastQuarrel_16 : decode (am_c m_Pr_leastQuarrel) 16 = .ok (.iconst 0, 1) := by decide +kernel
theorem d_Pr_leastQuarrel_17 : decode (am_c m_Pr_leastQuarrel) 17 = .ok (.ireturn, 1) := by decide +kernel
theorem d_Pr_leastQuarrel_18 : decode (am_c m_Pr_leastQuarrel) 18 = .ok (.iconst 1, 1) := by decide +kernel
theorem d_Pr_leastQuarrel_19 : decode (am_c m_Pr_leastQuarrel) 19 = .ok (.istore_n 2, 1) := by decide +kernel
theorem d_Pr_leastQuarrel_20 : decode (am_c m_Pr_leastQuarrel) 20 = .ok (.iload_n 2, 1) := by decide +kernel
theorem d_Pr_leastQuarrel_21 : decode (am_c m_Pr_leastQuarrel) 21 = .ok (.aload_n 0, 1) := by decide +kernel
theorem d_Pr_leastQuarrel_22 : decode (am_c m_Pr_leastQuarrel) 22 = .ok (.getfield 24, 3) := by decide +kernel
theorem d_Pr_leastQuarrel_25 : decode (am_c m_Pr_leastQuarrel) 25 = .ok (.getfield 32, 3) := by decide +kernel
theorem d_Pr_leastQuarrel_28 : decode (am_c m_Pr_leastQuarrel) 28 = .ok (.if_icmp .ge 40, 3) := by decide +kernel
theorem d_Pr_leastQuarrel_31 : decode (am_c m_Pr_leastQuarrel) 31 = .ok (.iconst 1, 1) := by decide +kernel
theorem d_Pr_leastQuarrel_32 : decode (am_c m_Pr_leastQuarrel) 32 = .ok (.istore_n 3, 1) := by decide +kernel
theorem d_Pr_leastQuarrel_33 : decode (am_c m_Pr_leastQuarrel) 33 = .ok (.iload_n 3, 1) := by decide +kernel
theorem d_Pr_leastQuarrel_34 : decode (am_c m_Pr_leastQuarrel) 34 = .ok (.iload_n 1, 1) := by decide +kernel
theorem d_Pr_leastQuarrel_35 : decode (am_c m_Pr_leastQuarrel) 35 = .ok (.if_icmp .ge 27, 3) := by decide +kernel
theorem d_Pr_leastQuarrel_38 : decode (am_c m_Pr_leastQuarrel) 38 = .ok (.iload_n 3, 1) := by decide +kernel
theorem d_Pr_leastQuarrel_39 : decode (am_c m_Pr_leastQuarrel) 39 = .ok (.invokestatic 64, 3) := by decide +kernel
theorem d_Pr_leastQuarrel_42 : decode (am_c m_Pr_leastQuarrel) 42 = .ok (.iload_n 2, 1) := by decide +kernel
theorem d_Pr_leastQuarrel_43 : decode (am_c m_Pr_leastQuarrel) 43 = .ok (.if_icmp .ne 13, 3) := by decide +kernel
theorem d_Pr_leastQuarrel_46 : decode (am_c m_Pr_leastQuarrel) 46 = .ok (.aload_n 0, 1) := by decide +kernel
theorem d_Pr_leastQuarrel_47 : decode (am_c m_Pr_leastQuarrel) 47 = .ok (.iload_n 3, 1) := by decide +kernel
theorem d_Pr_leastQuarrel_48 : decode (am_c m_Pr_leastQuarrel) 48 = .ok (.invokevirtual 60, 3) := by decide +kernel
theorem d_Pr_leastQuarrel_51 : decode (am_c m_Pr_leastQuarrel) 51 = .ok (.ifCond .eq 5, 3) := by decide +kernel
theorem d_Pr_leastQuarrel_54 : decode (am_c m_Pr_leastQuarrel) 54 = .ok (.iload_n 3, 1) := by decide +kernel
theorem d_Pr_leastQuarrel_55 : decode (am_c m_Pr_leastQuarrel) 55 = .ok (.ireturn, 1) := by decide +kernel
theorem d_Pr_leastQuarrel_56 : decode (am_c m_Pr_leastQuarrel) 56 = .ok (.iinc 3 1, 3) := by decide +kernel
theorem d_Pr_leastQuarrel_59 : decode (am_c m_Pr_leastQuarrel) 59 = .ok (.goto (-26), 3) := by decide +kernel
theorem d_Pr_leastQuarrel_62 : decode (am_c m_Pr_leastQuarrel) 62 = .ok (.iinc 2 1, 3) := by decide +kernel
theorem d_Pr_leastQuarrel_65 : decode (am_c m_Pr_leastQuarrel) 65 = .ok (.goto (-45), 3) := by decide +kernel
theorem d_Pr_leastQuarrel_68 : decode (am_c m_Pr_leastQuarrel) 68 = .ok (.iload_n 1, 1) := by decide +kernel
theorem d_Pr_leastQuarrel_69 : decode (am_c m_Pr_leastQuarrel) 69 = .ok (.ireturn, 1) := by decide +kernel
theorem d_Re_takePicks_0 : decode (am_c m_Re_takePicks) 0 = .ok (.aload_n 0, 1) := by decide +kernel
theorem d_Re_takePicks_1 : decode (am_c m_Re_takePicks) 1 = .ok (.getfield 12, 3) := by decide +kernel
theorem d_Re_takePicks_4 : decode (am_c m_Re_takePicks) 4 = .ok (.invokevirtual 37, 3) := by decide +kernel
theorem d_Re_takePicks_7 : decode (am_c m_Re_takePicks) 7 = .ok (.iconst 0, 1) := by decide +kernel
theorem d_Re_takePicks_8 : decode (am_c m_Re_takePicks) 8 = .ok (.istore_n 1, 1) := by decide +kernel
theorem d_Re_takePicks_9 : decode (am_c m_Re_takePicks) 9 = .ok (.iload_n 1, 1) := by decide +kernel
theorem d_Re_takePicks_10 : decode (am_c m_Re_takePicks) 10 = .ok (.aload_n 0, 1) := by decide +kernel
theorem d_Re_takePicks_11 : decode (am_c m_Re_takePicks) 11 = .ok (.getfield 33, 3) := by decide +kernel
theorem d_Re_takePicks_14 : decode (am_c m_Re_takePicks) 14 = .ok (.getfield 40, 3) := by decide +kernel
theorem d_Re_takePicks_17 : decode (am_c m_Re_takePicks) 17 = .ok (.if_icmp .ge 25, 3) := by decide +kernel
theorem d_Re_takePicks_20 : decode (am_c m_Re_takePicks) 20 = .ok (.aload_n 0, 1) := by decide +kernel
theorem d_Re_takePicks_21 : decode (am_c m_Re_takePicks) 21 = .ok (.getfield 12, 3) := by decide +kernel
theorem d_Re_takePicks_24 : decode (am_c m_Re_takePicks) 24 = .ok (.aload_n 0, 1) := by decide +kernel
theorem d_Re_takePicks_25 : decode (am_c m_Re_takePicks) 25 = .ok (.getfield 33, 3) := by decide +kernel
theorem d_Re_takePicks_28 : decode (am_c m_Re_takePicks) 28 = .ok (.getfield 46, 3) := by decide +kernel
theorem d_Re_takePicks_31 : decode (am_c m_Re_takePicks) 31 = .ok (.iload_n 1, 1) := by decide +kernel
theorem d_Re_takePicks_32 : decode (am_c m_Re_takePicks) 32 = .ok (.aaload, 1) := by decide +kernel
theorem d_Re_takePicks_33 : decode (am_c m_Re_takePicks) 33 = .ok (.invokevirtual 49, 3) := by decide +kernel
theorem d_Re_takePicks_36 : decode (am_c m_Re_takePicks) 36 = .ok (.iinc 1 1, 3) := by decide +kernel
theorem d_Re_takePicks_39 : decode (am_c m_Re_takePicks) 39 = .ok (.goto (-30), 3) := by decide +kernel
theorem d_Re_takePicks_42 : decode (am_c m_Re_takePicks) 42 = .ok (.return_, 1) := by decide +kernel
theorem d_Ba_clear_0 : decode (am_c m_Ba_clear) 0 = .ok (.aload_n 0, 1) := by decide +kernel
theorem d_Ba_clear_1 : decode (am_c m_Ba_clear) 1 = .ok (.iconst 0, 1) := by decide +kernel
theorem d_Ba_clear_2 : decode (am_c m_Ba_clear) 2 = .ok (.putfield 24, 3) := by decide +kernel
theorem d_Ba_clear_5 : decode (am_c m_Ba_clear) 5 = .ok (.iconst 0, 1) := by decide +kernel
theorem d_Ba_clear_6 : decode (am_c m_Ba_clear) 6 = .ok (.istore_n 1, 1) := by decide +kernel
theorem d_Ba_clear_7 : decode (am_c m_Ba_clear) 7 = .ok (.iload_n 1, 1) := by decide +kernel
theorem d_Ba_clear_8 : decode (am_c m_Ba_clear) 8 = .ok (.bipush 8, 2) := by decide +kernel
theorem d_Ba_clear_10 : decode (am_c m_Ba_clear) 10 = .ok (.if_icmp .ge 16, 3) := by decide +kernel
theorem d_Ba_clear_13 : decode (am_c m_Ba_clear) 13 = .ok (.aload_n 0, 1) := by decide +kernel
theorem d_Ba_clear_14 : decode (am_c m_Ba_clear) 14 = .ok (.getfield 9, 3) := by decide +kernel
theorem d_Ba_clear_17 : decode (am_c m_Ba_clear) 17 = .ok (.iload_n 1, 1) := by decide +kernel
theorem d_Ba_clear_18 : decode (am_c m_Ba_clear) 18 = .ok (.iconst 0, 1) := by decide +kernel
theorem d_Ba_clear_19 : decode (am_c m_Ba_clear) 19 = .ok (.bastore, 1) := by decide +kernel
theorem d_Ba_clear_20 : decode (am_c m_Ba_clear) 20 = .ok (.iinc 1 1, 3) := by decide +kernel
theorem d_Ba_clear_23 : decode (am_c m_Ba_clear) 23 = .ok (.goto (-16), 3) := by decide +kernel
theorem d_Ba_clear_26 : decode (am_c m_Ba_clear) 26 = .ok (.return_, 1) := by decide +kernel
theorem d_Ba_add_0 : decode (am_c m_Ba_add) 0 = .ok (.iconst 0, 1) := by decide +kernel
theorem d_Ba_add_1 : decode (am_c m_Ba_add) 1 = .ok (.istore_n 2, 1) := by decide +kernel
theorem d_Ba_add_2 : decode (am_c m_Ba_add) 2 = .ok (.iload_n 2, 1) := by decide +kernel
theorem d_Ba_add_3 : decode (am_c m_Ba_add) 3 = .ok (.bipush 8, 2) := by decide +kernel
theorem d_Ba_add_5 : decode (am_c m_Ba_add) 5 = .ok (.if_icmp .ge 19, 3) := by decide +kernel
theorem d_Ba_add_8 : decode (am_c m_Ba_add) 8 = .ok (.aload_n 0, 1) := by decide +kernel
theorem d_Ba_add_9 : decode (am_c m_Ba_add) 9 = .ok (.getfield 20, 3) := by decide +kernel
theorem d_Ba_add_12 : decode (am_c m_Ba_add) 12 = .ok (.iload_n 2, 1) := by decide +kernel
theorem d_Ba_add_13 : decode (am_c m_Ba_add) 13 = .ok (.aload_n 1, 1) := by decide +kernel
theorem d_Ba_add_14 : decode (am_c m_Ba_add) 14 = .ok (.iload_n 2, 1) := by decide +kernel
theorem d_Ba_add_15 : decode (am_c m_Ba_add) 15 = .ok (.iaload, 1) := by decide +kernel
theorem d_Ba_add_16 : decode (am_c m_Ba_add) 16 = .ok (.i2l, 1) := by decide +kernel
theorem d_Ba_add_17 : decode (am_c m_Ba_add) 17 = .ok (.lastore, 1) := by decide +kernel
theorem d_Ba_add_18 : decode (am_c m_Ba_add) 18 = .ok (.iinc 2 1, 3) := by decide +kernel
theorem d_Ba_add_21 : decode (am_c m_Ba_add) 21 = .ok (.goto (-19), 3) := by decide +kernel
theorem d_Ba_add_24 : decode (am_c m_Ba_add) 24 = .ok (.iconst 0, 1) := by decide +kernel
theorem d_Ba_add_25 : decode (am_c m_Ba_add) 25 = .ok (.istore_n 2, 1) := by decide +kernel
theorem d_Ba_add_26 : decode (am_c m_Ba_add) 26 = .ok (.iload_n 2, 1) := by decide +kernel
theorem d_Ba_add_27 : decode (am_c m_Ba_add) 27 = .ok (.bipush 8, 2) := by decide +kernel
theorem d_Ba_add_29 : decode (am_c m_Ba_add) 29 = .ok (.if_icmp .ge 32, 3) := by decide +kernel
theorem d_Ba_add_32 : decode (am_c m_Ba_add) 32 = .ok (.aload_n 0, 1) := by decide +kernel
theorem d_Ba_add_33 : decode (am_c m_Ba_add) 33 = .ok (.getfield 9, 3) := by decide +kernel
theorem d_Ba_add_36 : decode (am_c m_Ba_add) 36 = .ok (.iload_n 2, 1) := by decide +kernel
theorem d_Ba_add_37 : decode (am_c m_Ba_add) 37 = .ok (.baload, 1) := by decide +kernel
theorem d_Ba_add_38 : decode (am_c m_Ba_add) 38 = .ok (.ifCond .eq 17, 3) := by decide +kernel
theorem d_Ba_add_41 : decode (am_c m_Ba_add) 41 = .ok (.aload_n 0, 1) := by decide +kernel
theorem d_Ba_add_42 : decode (am_c m_Ba_add) 42 = .ok (.getfield 20, 3) := by decide +kernel
theorem d_Ba_add_45 : decode (am_c m_Ba_add) 45 = .ok (.aload_n 0, 1) := by decide +kernel
theorem d_Ba_add_46 : decode (am_c m_Ba_add) 46 = .ok (.getfield 17, 3) := by decide +kernel
theorem d_Ba_add_49 : decode (am_c m_Ba_add) 49 = .ok (.iload_n 2, 1) := by decide +kernel
theorem d_Ba_add_50 : decode (am_c m_Ba_add) 50 = .ok (.aaload, 1) := by decide +kernel
theorem d_Ba_add_51 : decode (am_c m_Ba_add) 51 = .ok (.iload_n 2, 1) := by decide +kernel
theorem d_Ba_add_52 : decode (am_c m_Ba_add) 52 = .ok (.invokestatic 34, 3) := by decide +kernel
theorem d_Ba_add_55 : decode (am_c m_Ba_add) 55 = .ok (.iinc 2 1, 3) := by decide +kernel
theorem d_Ba_add_58 : decode (am_c m_Ba_add) 58 = .ok (.goto (-32), 3) := by decide +kernel
theorem d_Ba_add_61 : decode (am_c m_Ba_add) 61 = .ok (.aload_n 0, 1) := by decide +kernel
theorem d_Ba_add_62 : decode (am_c m_Ba_add) 62 = .ok (.invokevirtual 38, 3) := by decide +kernel
theorem d_Ba_add_65 : decode (am_c m_Ba_add) 65 = .ok (.istore_n 2, 1) := by decide +kernel
theorem d_Ba_add_66 : decode (am_c m_Ba_add) 66 = .ok (.iload_n 2, 1) := by decide +kernel
theorem d_Ba_add_67 : decode (am_c m_Ba_add) 67 = .ok (.ifCond .ge 4, 3) := by decide +kernel
theorem d_Ba_add_70 : decode (am_c m_Ba_add) 70 = .ok (.return_, 1) := by decide +kernel
theorem d_Ba_add_71 : decode (am_c m_Ba_add) 71 = .ok (.iconst 0, 1) := by decide +kernel
theorem d_Ba_add_72 : decode (am_c m_Ba_add) 72 = .ok (.istore_n 3, 1) := by decide +kernel
theorem d_Ba_add_73 : decode (am_c m_Ba_add) 73 = .ok (.iload_n 3, 1) := by decide +kernel
theorem d_Ba_add_74 : decode (am_c m_Ba_add) 74 = .ok (.bipush 8, 2) := by decide +kernel
theorem d_Ba_add_76 : decode (am_c m_Ba_add) 76 = .ok (.if_icmp .ge 32, 3) := by decide +kernel
theorem d_Ba_add_79 : decode (am_c m_Ba_add) 79 = .ok (.aload_n 0, 1) := by decide +kernel
theorem d_Ba_add_80 : decode (am_c m_Ba_add) 80 = .ok (.getfield 9, 3) := by decide +kernel
theorem d_Ba_add_83 : decode (am_c m_Ba_add) 83 = .ok (.iload_n 3, 1) := by decide +kernel
theorem d_Ba_add_84 : decode (am_c m_Ba_add) 84 = .ok (.baload, 1) := by decide +kernel
theorem d_Ba_add_85 : decode (am_c m_Ba_add) 85 = .ok (.ifCond .eq 17, 3) := by decide +kernel
theorem d_Ba_add_88 : decode (am_c m_Ba_add) 88 = .ok (.aload_n 0, 1) := by decide +kernel
theorem d_Ba_add_89 : decode (am_c m_Ba_add) 89 = .ok (.getfield 17, 3) := by decide +kernel
theorem d_Ba_add_92 : decode (am_c m_Ba_add) 92 = .ok (.iload_n 3, 1) := by decide +kernel
theorem d_Ba_add_93 : decode (am_c m_Ba_add) 93 = .ok (.aaload, 1) := by decide +kernel
theorem d_Ba_add_94 : decode (am_c m_Ba_add) 94 = .ok (.aload_n 0, 1) := by decide +kernel
theorem d_Ba_add_95 : decode (am_c m_Ba_add) 95 = .ok (.getfield 20, 3) := by decide +kernel
theorem d_Ba_add_98 : decode (am_c m_Ba_add) 98 = .ok (.iload_n 2, 1) := by decide +kernel
theorem d_Ba_add_99 : decode (am_c m_Ba_add) 99 = .ok (.invokestatic 34, 3) := by decide +kernel
theorem d_Ba_add_102 : decode (am_c m_Ba_add) 102 = .ok (.iinc 3 1, 3) := by decide +kernel
theorem d_Ba_add_105 : decode (am_c m_Ba_add) 105 = .ok (.goto (-32), 3) := by decide +kernel
theorem d_Ba_add_108 : decode (am_c m_Ba_add) 108 = .ok (.aload_n 0, 1) := by decide +kernel
theorem d_Ba_add_109 : decode (am_c m_Ba_add) 109 = .ok (.getfield 20, 3) := by decide +kernel
theorem d_Ba_add_112 : decode (am_c m_Ba_add) 112 = .ok (.iconst 0, 1) := by decide +kernel
theorem d_Ba_add_113 : decode (am_c m_Ba_add) 113 = .ok (.aload_n 0, 1) := by decide +kernel
theorem d_Ba_add_114 : decode (am_c m_Ba_add) 114 = .ok (.getfield 17, 3) := by decide +kernel
theorem d_Ba_add_117 : decode (am_c m_Ba_add) 117 = .ok (.iload_n 2, 1) := by decide +kernel
theorem d_Ba_add_118 : decode (am_c m_Ba_add) 118 = .ok (.aaload, 1) := by decide +kernel
theorem d_Ba_add_119 : decode (am_c m_Ba_add) 119 = .ok (.iconst 0, 1) := by decide +kernel
theorem d_Ba_add_120 : decode (am_c m_Ba_add) 120 = .ok (.bipush 8, 2) := by decide +kernel
theorem d_Ba_add_122 : decode (am_c m_Ba_add) 122 = .ok (.invokestatic 28, 3) := by decide +kernel
theorem d_Ba_add_125 : decode (am_c m_Ba_add) 125 = .ok (.aload_n 0, 1) := by decide +kernel
theorem d_Ba_add_126 : decode (am_c m_Ba_add) 126 = .ok (.getfield 9, 3) := by decide +kernel
theorem d_Ba_add_129 : decode (am_c m_Ba_add) 129 = .ok (.iload_n 2, 1) := by decide +kernel
theorem d_Ba_add_130 : decode (am_c m_Ba_add) 130 = .ok (.iconst 1, 1) := by decide +kernel
theorem d_Ba_add_131 : decode (am_c m_Ba_add) 131 = .ok (.bastore, 1) := by decide +kernel
theorem d_Ba_add_132 : decode (am_c m_Ba_add) 132 = .ok (.aload_n 0, 1) := by decide +kernel
theorem d_Ba_add_133 : decode (am_c m_Ba_add) 133 = .ok (.dup, 1) := by decide +kernel
theorem d_Ba_add_134 : decode (am_c m_Ba_add) 134 = .ok (.getfield 24, 3) := by decide +kernel
theorem d_Ba_add_137 : decode (am_c m_Ba_add) 137 = .ok (.iconst 1, 1) := by decide +kernel
theorem d_Ba_add_138 : decode (am_c m_Ba_add) 138 = .ok (.iadd, 1) := by decide +kernel
theorem d_Ba_add_139 : decode (am_c m_Ba_add) 139 = .ok (.putfield 24, 3) := by decide +kernel
theorem d_Ba_add_142 : decode (am_c m_Ba_add) 142 = .ok (.return_, 1) := by decide +kernel
theorem d_Ba_clearColumn_0 : decode (am_c m_Ba_clearColumn) 0 = .ok (.aload_n 0, 1) := by decide +kernel
theorem d_Ba_clearColumn_1 : decode (am_c m_Ba_clearColumn) 1 = .ok (.iload_n 2, 1) := by decide +kernel
theorem d_Ba_clearColumn_2 : decode (am_c m_Ba_clearColumn) 2 = .ok (.laload, 1) := by decide +kernel
theorem d_Ba_clearColumn_3 : decode (am_c m_Ba_clearColumn) 3 = .ok (.lstore_n 3, 1) := by decide +kernel
theorem d_Ba_clearColumn_4 : decode (am_c m_Ba_clearColumn) 4 = .ok (.aload_n 1, 1) := by decide +kernel
theorem d_Ba_clearColumn_5 : decode (am_c m_Ba_clearColumn) 5 = .ok (.iload_n 2, 1) := by decide +kernel
theorem d_Ba_clearColumn_6 : decode (am_c m_Ba_clearColumn) 6 = .ok (.laload, 1) := by decide +kernel
theorem d_Ba_clearColumn_7 : decode (am_c m_Ba_clearColumn) 7 = .ok (.lstore 5, 2) := by decide +kernel
theorem d_Ba_clearColumn_9 : decode (am_c m_Ba_clearColumn) 9 = .ok (.lload_n 3, 1) := by decide +kernel
theorem d_Ba_clearColumn_10 : decode (am_c m_Ba_clearColumn) 10 = .ok (.lconst 0, 1) := by decide +kernel
theorem d_Ba_clearColumn_11 : decode (am_c m_Ba_clearColumn) 11 = .ok (.lcmp, 1) := by decide +kernel
theorem d_Ba_clearColumn_12 : decode (am_c m_Ba_clearColumn) 12 = .ok (.ifCond .ne 4, 3) := by decide +kernel
theorem d_Ba_clearColumn_15 : decode (am_c m_Ba_clearColumn) 15 = .ok (.return_, 1) := by decide +kernel
theorem d_Ba_clearColumn_16 : decode (am_c m_Ba_clearColumn) 16 = .ok (.iconst 0, 1) := by decide +kernel
theorem d_Ba_clearColumn_17 : decode (am_c m_Ba_clearColumn) 17 = .ok (.istore 7, 2) := by decide +kernel
theorem d_Ba_clearColumn_19 : decode (am_c m_Ba_clearColumn) 19 = .ok (.iload 7, 2) := by decide +kernel
theorem d_Ba_clearColumn_21 : decode (am_c m_Ba_clearColumn) 21 = .ok (.bipush 8, 2) := by decide +kernel
theorem d_Ba_clearColumn_23 : decode (am_c m_Ba_clearColumn) 23 = .ok (.if_icmp .ge 41, 3) := by decide +kernel
theorem d_Ba_clearColumn_26 : decode (am_c m_Ba_clearColumn) 26 = .ok (.aload_n 0, 1) := by decide +kernel
theorem d_Ba_clearColumn_27 : decode (am_c m_Ba_clearColumn) 27 = .ok (.iload 7, 2) := by decide +kernel
theorem d_Ba_clearColumn_29 : decode (am_c m_Ba_clearColumn) 29 = .ok (.aload_n 0, 1) := by decide +kernel
theorem d_Ba_clearColumn_30 : decode (am_c m_Ba_clearColumn) 30 = .ok (.iload 7, 2) := by decide +kernel
theorem d_Ba_clearColumn_32 : decode (am_c m_Ba_clearColumn) 32 = .ok (.laload, 1) := by decide +kernel
theorem d_Ba_clearColumn_33 : decode (am_c m_Ba_clearColumn) 33 = .ok (.lload 5, 2) := by decide +kernel
theorem d_Ba_clearColumn_35 : decode (am_c m_Ba_clearColumn) 35 = .ok (.lmul, 1) := by decide +kernel
theorem d_Ba_clearColumn_36 : decode (am_c m_Ba_clearColumn) 36 = .ok (.ldc2_w 42, 3) := by decide +kernel
theorem d_Ba_clearColumn_39 : decode (am_c m_Ba_clearColumn) 39 = .ok (.lrem, 1) := by decide +kernel
theorem d_Ba_clearColumn_40 : decode (am_c m_Ba_clearColumn) 40 = .ok (.aload_n 1, 1) := by decide +kernel
theorem d_Ba_clearColumn_41 : decode (am_c m_Ba_clearColumn) 41 = .ok (.iload 7, 2) := by decide +kernel
theorem d_Ba_clearColumn_43 : decode (am_c m_Ba_clearColumn) 43 = .ok (.laload, 1) := by decide +kernel
theorem d_Ba_clearColumn_44 : decode (am_c m_Ba_clearColumn) 44 = .ok (.lload_n 3, 1) := by decide +kernel
theorem d_Ba_clearColumn_45 : decode (am_c m_Ba_clearColumn) 45 = .ok (.lmul, 1) := by decide +kernel
theorem d_Ba_clearColumn_46 : decode (am_c m_Ba_clearColumn) 46 = .ok (.ldc2_w 42, 3) := by decide +kernel
theorem d_Ba_clearColumn_49 : decode (am_c m_Ba_clearColumn) 49 = .ok (.lrem, 1) := by decide +kernel
theorem d_Ba_clearColumn_50 : decode (am_c m_Ba_clearColumn) 50 = .ok (.lsub, 1) := by decide +kernel
theorem d_Ba_clearColumn_51 : decode (am_c m_Ba_clearColumn) 51 = .ok (.ldc2_w 42, 3) := by decide +kernel
theorem d_Ba_clearColumn_54 : decode (am_c m_Ba_clearColumn) 54 = .ok (.invokestatic 44, 3) := by decide +kernel
theorem d_Ba_clearColumn_57 : decode (am_c m_Ba_clearColumn) 57 = .ok (.lastore, 1) := by decide +kernel
theorem d_Ba_clearColumn_58 : decode (am_c m_Ba_clearColumn) 58 = .ok (.iinc 7 1, 3) := by decide +kernel
theorem d_Ba_clearColumn_61 : decode (am_c m_Ba_clearColumn) 61 = .ok (.goto (-42), 3) := by decide +kernel
theorem d_Ba_clearColumn_64 : decode (am_c m_Ba_clearColumn) 64 = .ok (.return_, 1) := by decide +kernel
theorem d_Ma_floorMod_0 : decode (am_c m_Ma_floorMod) 0 = .ok (.lload_n 0, 1) := by decide +kernel
theorem d_Ma_floorMod_1 : decode (am_c m_Ma_floorMod) 1 = .ok (.lload_n 2, 1) := by decide +kernel
theorem d_Ma_floorMod_2 : decode (am_c m_Ma_floorMod) 2 = .ok (.lrem, 1) := by decide +kernel
theorem d_Ma_floorMod_3 : decode (am_c m_Ma_floorMod) 3 = .ok (.lstore 4, 2) := by decide +kernel
theorem d_Ma_floorMod_5 : decode (am_c m_Ma_floorMod) 5 = .ok (.lload_n 0, 1) := by decide +kernel
theorem d_Ma_floorMod_6 : decode (am_c m_Ma_floorMod) 6 = .ok (.lload_n 2, 1) := by decide +kernel
theorem d_Ma_floorMod_7 : decode (am_c m_Ma_floorMod) 7 = .ok (.lxor, 1) := by decide +kernel
theorem d_Ma_floorMod_8 : decode (am_c m_Ma_floorMod) 8 = .ok (.lconst 0, 1) := by decide +kernel
theorem d_Ma_floorMod_9 : decode (am_c m_Ma_floorMod) 9 = .ok (.lcmp, 1) := by decide +kernel
theorem d_Ma_floorMod_10 : decode (am_c m_Ma_floorMod) 10 = .ok (.ifCond .ge 15, 3) := by decide +kernel
theorem d_Ma_floorMod_13 : decode (am_c m_Ma_floorMod) 13 = .ok (.lload 4, 2) := by decide +kernel
theorem d_Ma_floorMod_15 : decode (am_c m_Ma_floorMod) 15 = .ok (.lconst 0, 1) := by decide +kernel
theorem d_Ma_floorMod_16 : decode (am_c m_Ma_floorMod) 16 = .ok (.lcmp, 1) := by decide +kernel
theorem d_Ma_floorMod_17 : decode (am_c m_Ma_floorMod) 17 = .ok (.ifCond .eq 8, 3) := by decide +kernel
theorem d_Ma_floorMod_20 : decode (am_c m_Ma_floorMod) 20 = .ok (.lload 4, 2) := by decide +kernel
theorem d_Ma_floorMod_22 : decode (am_c m_Ma_floorMod) 22 = .ok (.lload_n 2, 1) := by decide +kernel
theorem d_Ma_floorMod_23 : decode (am_c m_Ma_floorMod) 23 = .ok (.ladd, 1) := by decide +kernel
theorem d_Ma_floorMod_24 : decode (am_c m_Ma_floorMod) 24 = .ok (.lreturn, 1) := by decide +kernel
theorem d_Ma_floorMod_25 : decode (am_c m_Ma_floorMod) 25 = .ok (.lload 4, 2) := by decide +kernel
theorem d_Ma_floorMod_27 : decode (am_c m_Ma_floorMod) 27 = .ok (.lreturn, 1) := by decide +kernel
theorem d_Ba_firstColumn_0 : decode (am_c m_Ba_firstColumn) 0 = .ok (.iconst 0, 1) := by decide +kernel
theorem d_Ba_firstColumn_1 : decode (am_c m_Ba_firstColumn) 1 = .ok (.istore_n 1, 1) := by decide +kernel
theorem d_Ba_firstColumn_2 : decode (am_c m_Ba_firstColumn) 2 = .ok (.iload_n 1, 1) := by decide +kernel
theorem d_Ba_firstColumn_3 : decode (am_c m_Ba_firstColumn) 3 = .ok (.bipush 8, 2) := by decide +kernel
theorem d_Ba_firstColumn_5 : decode (am_c m_Ba_firstColumn) 5 = .ok (.if_icmp .ge 22, 3) := by decide +kernel
theorem d_Ba_firstColumn_8 : decode (am_c m_Ba_firstColumn) 8 = .ok (.aload_n 0, 1) := by decide +kernel
theorem d_Ba_firstColumn_9 : decode (am_c m_Ba_firstColumn) 9 = .ok (.getfield 20, 3) := by decide +kernel
theorem d_Ba_firstColumn_12 : decode (am_c m_Ba_firstColumn) 12 = .ok (.iload_n 1, 1) := by decide +kernel
theorem d_Ba_firstColumn_13 : decode (am_c m_Ba_firstColumn) 13 = .ok (.laload, 1) := by decide +kernel
theorem d_Ba_firstColumn_14 : decode (am_c m_Ba_firstColumn) 14 = .ok (.lconst 0, 1) := by decide +kernel
theorem d_Ba_firstColumn_15 : decode (am_c m_Ba_firstColumn) 15 = .ok (.lcmp, 1) := by decide +kernel
theorem d_Ba_firstColumn_16 : decode (am_c m_Ba_firstColumn) 16 = .ok (.ifCond .eq 5, 3) := by decide +kernel
theorem d_Ba_firstColumn_19 : decode (am_c m_Ba_firstColumn) 19 = .ok (.iload_n 1, 1) := by decide +kernel
theorem d_Ba_firstColumn_20 : decode (am_c m_Ba_firstColumn) 20 = .ok (.ireturn, 1) := by decide +kernel
theorem d_Ba_firstColumn_21 : decode (am_c m_Ba_firstColumn) 21 = .ok (.iinc 1 1, 3) := by decide +kernel
theorem d_Ba_firstColumn_24 : decode (am_c m_Ba_firstColumn) 24 = .ok (.goto (-22), 3) := by decide +kernel
theorem d_Ba_firstColumn_27 : decode (am_c m_Ba_firstColumn) 27 = .ok (.iconst (-1), 1) := by decide +kernel
theorem d_Ba_firstColumn_28 : decode (am_c m_Ba_firstColumn) 28 = .ok (.ireturn, 1) := by decide +kernel
theorem d_Ba_isResolved_0 : decode (am_c m_Ba_isResolved) 0 = .ok (.aload_n 0, 1) := by decide +kernel
theorem d_Ba_isResolved_1 : decode (am_c m_Ba_isResolved) 1 = .ok (.getfield 9, 3) := by decide +kernel
theorem d_Ba_isResolved_4 : decode (am_c m_Ba_isResolved) 4 = .ok (.iload_n 1, 1) := by decide +kernel
theorem d_Ba_isResolved_5 : decode (am_c m_Ba_isResolved) 5 = .ok (.baload, 1) := by decide +kernel
theorem d_Ba_isResolved_6 : decode (am_c m_Ba_isResolved) 6 = .ok (.ifCond .ne 5, 3) := by decide +kernel
theorem d_Ba_isResolved_9 : decode (am_c m_Ba_isResolved) 9 = .ok (.iconst 0, 1) := by decide +kernel
theorem d_Ba_isResolved_10 : decode (am_c m_Ba_isResolved) 10 = .ok (.ireturn, 1) := by decide +kernel
theorem d_Ba_isResolved_11 : decode (am_c m_Ba_isResolved) 11 = .ok (.iconst 0, 1) := by decide +kernel
theorem d_Ba_isResolved_12 : decode (am_c m_Ba_isResolved) 12 = .ok (.istore_n 2, 1) := by decide +kernel
theorem d_Ba_isResolved_13 : decode (am_c m_Ba_isResolved) 13 = .ok (.iload_n 2, 1) := by decide +kernel
theorem d_Ba_isResolved_14 : decode (am_c m_Ba_isResolved) 14 = .ok (.bipush 8, 2) := by decide +kernel
theorem d_Ba_isResolved_16 : decode (am_c m_Ba_isResolved) 16 = .ok (.if_icmp .ge 29, 3) := by decide +kernel
theorem d_Ba_isResolved_19 : decode (am_c m_Ba_isResolved) 19 = .ok (.iload_n 2, 1) := by decide +kernel
theorem d_Ba_isResolved_20 : decode (am_c m_Ba_isResolved) 20 = .ok (.iload_n 1, 1) := by decide +kernel
theorem d_Ba_isResolved_21 : decode (am_c m_Ba_isResolved) 21 = .ok (.if_icmp .eq 18, 3) := by decide +kernel
theorem d_Ba_isResolved_24 : decode (am_c m_Ba_isResolved) 24 = .ok (.aload_n 0, 1) := by decide +kernel
theorem d_Ba_isResolved_25 : decode (am_c m_Ba_isResolved) 25 = .ok (.getfield 17, 3) := by decide +kernel
theorem d_Ba_isResolved_28 : decode (am_c m_Ba_isResolved) 28 = .ok (.iload_n 1, 1) := by decide +kernel
theorem d_Ba_isResolved_29 : decode (am_c m_Ba_isResolved) 29 = .ok (.aaload, 1) := by decide +kernel
theorem d_Ba_isResolved_30 : decode (am_c m_Ba_isResolved) 30 = .ok (.iload_n 2, 1) := by decide +kernel
theorem d_Ba_isResolved_31 : decode (am_c m_Ba_isResolved) 31 = .ok (.laload, 1) := by decide +kernel
theorem d_Ba_isResolved_32 : decode (am_c m_Ba_isResolved) 32 = .ok (.lconst 0, 1) := by decide +kernel
theorem d_Ba_isResolved_33 : decode (am_c m_Ba_isResolved) 33 = .ok (.lcmp, 1) := by decide +kernel
theorem d_Ba_isResolved_34 : decode (am_c m_Ba_isResolved) 34 = .ok (.ifCond .eq 5, 3) := by decide +kernel
theorem d_Ba_isResolved_37 : decode (am_c m_Ba_isResolved) 37 = .ok (.iconst 0, 1) := by decide +kernel
theorem d_Ba_isResolved_38 : decode (am_c m_Ba_isResolved) 38 = .ok (.ireturn, 1) := by decide +kernel
theorem d_Ba_isResolved_39 : decode (am_c m_Ba_isResolved) 39 = .ok (.iinc 2 1, 3) := by decide +kernel
theorem d_Ba_isResolved_42 : decode (am_c m_Ba_isResolved) 42 = .ok (.goto (-29), 3) := by decide +kernel
theorem d_Ba_isResolved_45 : decode (am_c m_Ba_isResolved) 45 = .ok (.iconst 1, 1) := by decide +kernel
theorem d_Ba_isResolved_46 : decode (am_c m_Ba_isResolved) 46 = .ok (.ireturn, 1) := by decide +kernel
theorem d_Re_findBestEar_0 : decode (am_c m_Re_findBestEar) 0 = .ok (.aload_n 0, 1) := by decide +kernel
theorem d_Re_findBestEar_1 : decode (am_c m_Re_findBestEar) 1 = .ok (.iconst 0, 1) := by decide +kernel
theorem d_Re_findBestEar_2 : decode (am_c m_Re_findBestEar) 2 = .ok (.putfield 53, 3) := by decide +kernel
theorem d_Re_findBestEar_5 : decode (am_c m_Re_findBestEar) 5 = .ok (.aload_n 0, 1) := by decide +kernel
theorem d_Re_findBestEar_6 : decode (am_c m_Re_findBestEar) 6 = .ok (.iconst (-1), 1) := by decide +kernel
theorem d_Re_findBestEar_7 : decode (am_c m_Re_findBestEar) 7 = .ok (.putfield 56, 3) := by decide +kernel
theorem d_Re_findBestEar_10 : decode (am_c m_Re_findBestEar) 10 = .ok (.iconst 0, 1) := by decide +kernel
theorem d_Re_findBestEar_11 : decode (am_c m_Re_findBestEar) 11 = .ok (.istore_n 1, 1) := by decide +kernel
theorem d_Re_findBestEar_12 : decode (am_c m_Re_findBestEar) 12 = .ok (.iload_n 1, 1) := by decide +kernel
theorem d_Re_findBestEar_13 : decode (am_c m_Re_findBestEar) 13 = .ok (.aload_n 0, 1) := by decide +kernel
theorem d_Re_findBestEar_14 : decode (am_c m_Re_findBestEar) 14 = .ok (.getfield 25, 3) := by decide +kernel
theorem d_Re_findBestEar_17 : decode (am_c m_Re_findBestEar) 17 = .ok (.getfield 59, 3) := by decide +kernel
theorem d_Re_findBestEar_20 : decode (am_c m_Re_findBestEar) 20 = .ok (.if_icmp .ge 33, 3) := by decide +kernel
theorem d_Re_findBestEar_23 : decode (am_c m_Re_findBestEar) 23 = .ok (.aload_n 0, 1) := by decide +kernel
theorem d_Re_findBestEar_24 : decode (am_c m_Re_findBestEar) 24 = .ok (.iload_n 1, 1) := by decide +kernel
theorem d_Re_findBestEar_25 : decode (am_c m_Re_findBestEar) 25 = .ok (.invokevirtual 64, 3) := by decide +kernel
theorem d_Re_findBestEar_28 : decode (am_c m_Re_findBestEar) 28 = .ok (.istore_n 2, 1) := by decide +kernel
theorem d_Re_findBestEar_29 : decode (am_c m_Re_findBestEar) 29 = .ok (.iload_n 2, 1) := by decide +kernel
theorem d_Re_findBestEar_30 : decode (am_c m_Re_findBestEar) 30 = .ok (.aload_n 0, 1) := by decide +kernel
theorem d_Re_findBestEar_31 : decode (am_c m_Re_findBestEar) 31 = .ok (.getfield 56, 3) := by decide +kernel
theorem d_Re_findBestEar_34 : decode (am_c m_Re_findBestEar) 34 = .ok (.if_icmp .le 13, 3) := by decide +kernel
theorem d_Re_findBestEar_37 : decode (am_c m_Re_findBestEar) 37 = .ok (.aload_n 0, 1) := by decide +kernel
theorem d_Re_findBestEar_38 : decode (am_c m_Re_findBestEar) 38 = .ok (.iload_n 2, 1) := by decide +kernel
theorem d_Re_findBestEar_39 : decode (am_c m_Re_findBestEar) 39 = .ok (.putfield 56, 3) := by decide +kernel
theorem d_Re_findBestEar_42 : decode (am_c m_Re_findBestEar) 42 = .ok (.aload_n 0, 1) := by decide +kernel
theorem d_Re_findBestEar_43 : decode (am_c m_Re_findBestEar) 43 = .ok (.iload_n 1, 1) := by decide +kernel
theorem d_Re_findBestEar_44 : decode (am_c m_Re_findBestEar) 44 = .ok (.putfield 53, 3) := by decide +kernel
theorem d_Re_findBestEar_47 : decode (am_c m_Re_findBestEar) 47 = .ok (.iinc 1 1, 3) := by decide +kernel
theorem d_Re_findBestEar_50 : decode (am_c m_Re_findBestEar) 50 = .ok (.goto (-38), 3) := by decide +kernel
theorem d_Re_findBestEar_53 : decode (am_c m_Re_findBestEar) 53 = .ok (.return_, 1) := by decide +kernel
theorem d_Re_resolvedWith_0 : decode (am_c m_Re_resolvedWith) 0 = .ok (.aload_n 0, 1) := by decide +kernel
theorem d_Re_resolvedWith_1 : decode (am_c m_Re_resolvedWith) 1 = .ok (.getfield 18, 3) := by decide +kernel
theorem d_Re_resolvedWith_4 : decode (am_c m_Re_resolvedWith) 4 = .ok (.aload_n 0, 1) := by decide +kernel
theorem d_Re_resolvedWith_5 : decode (am_c m_Re_resolvedWith) 5 = .ok (.getfield 12, 3) := by decide +kernel
theorem d_Re_resolvedWith_8 : decode (am_c m_Re_resolvedWith) 8 = .ok (.invokevirtual 68, 3) := by decide +kernel
theorem d_Re_resolvedWith_11 : decode (am_c m_Re_resolvedWith) 11 = .ok (.aload_n 0, 1) := by decide +kernel
theorem d_Re_resolvedWith_12 : decode (am_c m_Re_resolvedWith) 12 = .ok (.getfield 25, 3) := by decide +kernel
theorem d_Re_resolvedWith_15 : decode (am_c m_Re_resolvedWith) 15 = .ok (.iload_n 1, 1) := by decide +kernel
theorem d_Re_resolvedWith_16 : decode (am_c m_Re_resolvedWith) 16 = .ok (.iconst 0, 1) := by decide +kernel
theorem d_Re_resolvedWith_17 : decode (am_c m_Re_resolvedWith) 17 = .ok (.invokevirtual 72, 3) := by decide +kernel
theorem d_Re_resolvedWith_20 : decode (am_c m_Re_resolvedWith) 20 = .ok (.iconst 0, 1) := by decide +kernel
theorem d_Re_resolvedWith_21 : decode (am_c m_Re_resolvedWith) 21 = .ok (.istore_n 2, 1) := by decide +kernel
theorem d_Re_resolvedWith_22 : decode (am_c m_Re_resolvedWith) 22 = .ok (.iload_n 2, 1) := by decide +kernel
theorem d_Re_resolvedWith_23 : decode (am_c m_Re_resolvedWith) 23 = .ok (.aload_n 0, 1) := by decide +kernel
theorem d_Re_resolvedWith_24 : decode (am_c m_Re_resolvedWith) 24 = .ok (.getfield 29, 3) := by decide +kernel
theorem d_Re_resolvedWith_27 : decode (am_c m_Re_resolvedWith) 27 = .ok (.getfield 76, 3) := by decide +kernel
theorem d_Re_resolvedWith_30 : decode (am_c m_Re_resolvedWith) 30 = .ok (.if_icmp .ge 47, 3) := by decide +kernel
theorem d_Re_resolvedWith_33 : decode (am_c m_Re_resolvedWith) 33 = .ok (.aload_n 0, 1) := by decide +kernel
theorem d_Re_resolvedWith_34 : decode (am_c m_Re_resolvedWith) 34 = .ok (.getfield 25, 3) := by decide +kernel
theorem d_Re_resolvedWith_37 : decode (am_c m_Re_resolvedWith) 37 = .ok (.aload_n 0, 1) := by decide +kernel
theorem d_Re_resolvedWith_38 : decode (am_c m_Re_resolvedWith) 38 = .ok (.getfield 29, 3) := by decide +kernel
theorem d_Re_resolvedWith_41 : decode (am_c m_Re_resolvedWith) 41 = .ok (.getfield 81, 3) := by decide +kernel
theorem d_Re_resolvedWith_44 : decode (am_c m_Re_resolvedWith) 44 = .ok (.iload_n 2, 1) := by decide +kernel
theorem d_Re_resolvedWith_45 : decode (am_c m_Re_resolvedWith) 45 = .ok (.iaload, 1) := by decide +kernel
theorem d_Re_resolvedWith_46 : decode (am_c m_Re_resolvedWith) 46 = .ok (.invokevirtual 84, 3) := by decide +kernel
theorem d_Re_resolvedWith_49 : decode (am_c m_Re_resolvedWith) 49 = .ok (.aload_n 0, 1) := by decide +kernel
theorem d_Re_resolvedWith_50 : decode (am_c m_Re_resolvedWith) 50 = .ok (.getfield 25, 3) := by decide +kernel
theorem d_Re_resolvedWith_53 : decode (am_c m_Re_resolvedWith) 53 = .ok (.aload_n 0, 1) := by decide +kernel
theorem d_Re_resolvedWith_54 : decode (am_c m_Re_resolvedWith) 54 = .ok (.getfield 21, 3) := by decide +kernel
theorem d_Re_resolvedWith_57 : decode (am_c m_Re_resolvedWith) 57 = .ok (.invokevirtual 88, 3) := by decide +kernel
theorem d_Re_resolvedWith_60 : decode (am_c m_Re_resolvedWith) 60 = .ok (.aload_n 0, 1) := by decide +kernel
theorem d_Re_resolvedWith_61 : decode (am_c m_Re_resolvedWith) 61 = .ok (.getfield 18, 3) := by decide +kernel
theorem d_Re_resolvedWith_64 : decode (am_c m_Re_resolvedWith) 64 = .ok (.aload_n 0, 1) := by decide +kernel
theorem d_Re_resolvedWith_65 : decode (am_c m_Re_resolvedWith) 65 = .ok (.getfield 21, 3) := by decide +kernel
theorem d_Re_resolvedWith_68 : decode (am_c m_Re_resolvedWith) 68 = .ok (.invokevirtual 49, 3) := by decide +kernel
theorem d_Re_resolvedWith_71 : decode (am_c m_Re_resolvedWith) 71 = .ok (.iinc 2 1, 3) := by decide +kernel
theorem d_Re_resolvedWith_74 : decode (am_c m_Re_resolvedWith) 74 = .ok (.goto (-52), 3) := by decide +kernel
theorem d_Re_resolvedWith_77 : decode (am_c m_Re_resolvedWith) 77 = .ok (.aload_n 0, 1) := by decide +kernel
theorem d_Re_resolvedWith_78 : decode (am_c m_Re_resolvedWith) 78 = .ok (.getfield 18, 3) := by decide +kernel
theorem d_Re_resolvedWith_81 : decode (am_c m_Re_resolvedWith) 81 = .ok (.invokevirtual 91, 3) := by decide +kernel
theorem d_Re_resolvedWith_84 : decode (am_c m_Re_resolvedWith) 84 = .ok (.ireturn, 1) := by decide +kernel
theorem d_Ba_copyFrom_0 : decode (am_c m_Ba_copyFrom) 0 = .ok (.aload_n 0, 1) := by decide +kernel
theorem d_Ba_copyFrom_1 : decode (am_c m_Ba_copyFrom) 1 = .ok (.aload_n 1, 1) := by decide +kernel
theorem d_Ba_copyFrom_2 : decode (am_c m_Ba_copyFrom) 2 = .ok (.getfield 24, 3) := by decide +kernel
theorem d_Ba_copyFrom_5 : decode (am_c m_Ba_copyFrom) 5 = .ok (.putfield 24, 3) := by decide +kernel
theorem d_Ba_copyFrom_8 : decode (am_c m_Ba_copyFrom) 8 = .ok (.iconst 0, 1) := by decide +kernel
theorem d_Ba_copyFrom_9 : decode (am_c m_Ba_copyFrom) 9 = .ok (.istore_n 2, 1) := by decide +kernel
theorem d_Ba_copyFrom_10 : decode (am_c m_Ba_copyFrom) 10 = .ok (.iload_n 2, 1) := by decide +kernel
theorem d_Ba_copyFrom_11 : decode (am_c m_Ba_copyFrom) 11 = .ok (.bipush 8, 2) := by decide +kernel
theorem d_Ba_copyFrom_13 : decode (am_c m_Ba_copyFrom) 13 = .ok (.if_icmp .ge 40, 3) := by decide +kernel
theorem d_Ba_copyFrom_16 : decode (am_c m_Ba_copyFrom) 16 = .ok (.aload_n 0, 1) := by decide +kernel
theorem d_Ba_copyFrom_17 : decode (am_c m_Ba_copyFrom) 17 = .ok (.getfield 9, 3) := by decide +kernel
theorem d_Ba_copyFrom_20 : decode (am_c m_Ba_copyFrom) 20 = .ok (.iload_n 2, 1) := by decide +kernel
theorem d_Ba_copyFrom_21 : decode (am_c m_Ba_copyFrom) 21 = .ok (.aload_n 1, 1) := by decide +kernel
theorem d_Ba_copyFrom_22 : decode (am_c m_Ba_copyFrom) 22 = .ok (.getfield 9, 3) := by decide +kernel
theorem d_Ba_copyFrom_25 : decode (am_c m_Ba_copyFrom) 25 = .ok (.iload_n 2, 1) := by decide +kernel
theorem d_Ba_copyFrom_26 : decode (am_c m_Ba_copyFrom) 26 = .ok (.baload, 1) := by decide +kernel
theorem d_Ba_copyFrom_27 : decode (am_c m_Ba_copyFrom) 27 = .ok (.bastore, 1) := by decide +kernel
theorem d_Ba_copyFrom_28 : decode (am_c m_Ba_copyFrom) 28 = .ok (.aload_n 1, 1) := by decide +kernel
theorem d_Ba_copyFrom_29 : decode (am_c m_Ba_copyFrom) 29 = .ok (.getfield 17, 3) := by decide +kernel
theorem d_Ba_copyFrom_32 : decode (am_c m_Ba_copyFrom) 32 = .ok (.iload_n 2, 1) := by decide +kernel
theorem d_Ba_copyFrom_33 : decode (am_c m_Ba_copyFrom) 33 = .ok (.aaload, 1) := by decide +kernel
theorem d_Ba_copyFrom_34 : decode (am_c m_Ba_copyFrom) 34 = .ok (.iconst 0, 1) := by decide +kernel
theorem d_Ba_copyFrom_35 : decode (am_c m_Ba_copyFrom) 35 = .ok (.aload_n 0, 1) := by decide +kernel
theorem d_Ba_copyFrom_36 : decode (am_c m_Ba_copyFrom) 36 = .ok (.getfield 17, 3) := by decide +kernel
theorem d_Ba_copyFrom_39 : decode (am_c m_Ba_copyFrom) 39 = .ok (.iload_n 2, 1) := by decide +kernel
theorem d_Ba_copyFrom_40 : decode (am_c m_Ba_copyFrom) 40 = .ok (.aaload, 1) := by decide +kernel
theorem d_Ba_copyFrom_41 : decode (am_c m_Ba_copyFrom) 41 = .ok (.iconst 0, 1) := by decide +kernel
theorem d_Ba_copyFrom_42 : decode (am_c m_Ba_copyFrom) 42 = .ok (.bipush 8, 2) := by decide +kernel
theorem d_Ba_copyFrom_44 : decode (am_c m_Ba_copyFrom) 44 = .ok (.invokestatic 28, 3) := by decide +kernel
theorem d_Ba_copyFrom_47 : decode (am_c m_Ba_copyFrom) 47 = .ok (.iinc 2 1, 3) := by decide +kernel
theorem d_Ba_copyFrom_50 : decode (am_c m_Ba_copyFrom) 50 = .ok (.goto (-40), 3) := by decide +kernel
theorem d_Ba_copyFrom_53 : decode (am_c m_Ba_copyFrom) 53 = .ok (.return_, 1) := by decide +kernel
theorem d_Ba_countResolved_0 : decode (am_c m_Ba_countResolved) 0 = .ok (.iconst 0, 1) := by decide +kernel
theorem d_Ba_countResolved_1 : decode (am_c m_Ba_countResolved) 1 = .ok (.istore_n 1, 1) := by decide +kernel
theorem d_Ba_countResolved_2 : decode (am_c m_Ba_countResolved) 2 = .ok (.iconst 0, 1) := by decide +kernel
theorem d_Ba_countResolved_3 : decode (am_c m_Ba_countResolved) 3 = .ok (.istore_n 2, 1) := by decide +kernel
theorem d_Ba_countResolved_4 : decode (am_c m_Ba_countResolved) 4 = .ok (.iload_n 2, 1) := by decide +kernel
theorem d_Ba_countResolved_5 : decode (am_c m_Ba_countResolved) 5 = .ok (.bipush 8, 2) := by decide +kernel
theorem d_Ba_countResolved_7 : decode (am_c m_Ba_countResolved) 7 = .ok (.if_icmp .ge 25, 3) := by decide +kernel
theorem d_Ba_countResolved_10 : decode (am_c m_Ba_countResolved) 10 = .ok (.iload_n 1, 1) := by decide +kernel
theorem d_Ba_countResolved_11 : decode (am_c m_Ba_countResolved) 11 = .ok (.aload_n 0, 1) := by decide +kernel
theorem d_Ba_countResolved_12 : decode (am_c m_Ba_countResolved) 12 = .ok (.iload_n 2, 1) := by decide +kernel
theorem d_Ba_countResolved_13 : decode (am_c m_Ba_countResolved) 13 = .ok (.invokevirtual 50, 3) := by decide +kernel
theorem d_Ba_countResolved_16 : decode (am_c m_Ba_countResolved) 16 = .ok (.ifCond .eq 7, 3) := by decide +kernel
theorem d_Ba_countResolved_19 : decode (am_c m_Ba_countResolved) 19 = .ok (.iconst 1, 1) := by decide +kernel
theorem d_Ba_countResolved_20 : decode (am_c m_Ba_countResolved) 20 = .ok (.goto 4, 3) := by decide +kernel
theorem d_Ba_countResolved_23 : decode (am_c m_Ba_countResolved) 23 = .ok (.iconst 0, 1) := by decide +kernel
theorem d_Ba_countResolved_24 : decode (am_c m_Ba_countResolved) 24 = .ok (.iadd, 1) := by decide +kernel
theorem d_Ba_countResolved_25 : decode (am_c m_Ba_countResolved) 25 = .ok (.istore_n 1, 1) := by decide +kernel
theorem d_Ba_countResolved_26 : decode (am_c m_Ba_countResolved) 26 = .ok (.iinc 2 1, 3) := by decide +kernel
theorem d_Ba_countResolved_29 : decode (am_c m_Ba_countResolved) 29 = .ok (.goto (-25), 3) := by decide +kernel
theorem d_Ba_countResolved_32 : decode (am_c m_Ba_countResolved) 32 = .ok (.iload_n 1, 1) := by decide +kernel
theorem d_Ba_countResolved_33 : decode (am_c m_Ba_countResolved) 33 = .ok (.ireturn, 1) := by decide +kernel
theorem d_Fi_heapUp_0 : decode (am_c m_Fi_heapUp) 0 = .ok (.aload_n 0, 1) := by decide +kernel
theorem d_Fi_heapUp_1 : decode (am_c m_Fi_heapUp) 1 = .ok (.iload_n 1, 1) := by decide +kernel
theorem d_Fi_heapUp_2 : decode (am_c m_Fi_heapUp) 2 = .ok (.iload_n 2, 1) := by decide +kernel
theorem d_Fi_heapUp_3 : decode (am_c m_Fi_heapUp) 3 = .ok (.invokevirtual 26, 3) := by decide +kernel
theorem d_Fi_heapUp_6 : decode (am_c m_Fi_heapUp) 6 = .ok (.aload_n 0, 1) := by decide +kernel
theorem d_Fi_heapUp_7 : decode (am_c m_Fi_heapUp) 7 = .ok (.iconst 0, 1) := by decide +kernel
theorem d_Fi_heapUp_8 : decode (am_c m_Fi_heapUp) 8 = .ok (.putfield 30, 3) := by decide +kernel
theorem d_Fi_heapUp_11 : decode (am_c m_Fi_heapUp) 11 = .ok (.aload_n 0, 1) := by decide +kernel
theorem d_Fi_heapUp_12 : decode (am_c m_Fi_heapUp) 12 = .ok (.aload_n 0, 1) := by decide +kernel
theorem d_Fi_heapUp_13 : decode (am_c m_Fi_heapUp) 13 = .ok (.iconst 0, 1) := by decide +kernel
theorem d_Fi_heapUp_14 : decode (am_c m_Fi_heapUp) 14 = .ok (.invokevirtual 34, 3) := by decide +kernel
theorem d_Fi_heapUp_17 : decode (am_c m_Fi_heapUp) 17 = .ok (.putfield 38, 3) := by decide +kernel
theorem d_Fi_heapUp_20 : decode (am_c m_Fi_heapUp) 20 = .ok (.iconst 0, 1) := by decide +kernel
theorem d_Fi_heapUp_21 : decode (am_c m_Fi_heapUp) 21 = .ok (.istore_n 3, 1) := by decide +kernel
theorem d_Fi_heapUp_22 : decode (am_c m_Fi_heapUp) 22 = .ok (.iload_n 3, 1) := by decide +kernel
theorem d_Fi_heapUp_23 : decode (am_c m_Fi_heapUp) 23 = .ok (.aload_n 0, 1) := by decide +kernel
theorem d_Fi_heapUp_24 : decode (am_c m_Fi_heapUp) 24 = .ok (.getfield 41, 3) := by decide +kernel
theorem d_Fi_heapUp_27 : decode (am_c m_Fi_heapUp) 27 = .ok (.if_icmp .ge 77, 3) := by decide +kernel
theorem d_Fi_heapUp_30 : decode (am_c m_Fi_heapUp) 30 = .ok (.aload_n 0, 1) := by decide +kernel
theorem d_Fi_heapUp_31 : decode (am_c m_Fi_heapUp) 31 = .ok (.getfield 9, 3) := by decide +kernel
theorem d_Fi_heapUp_34 : decode (am_c m_Fi_heapUp) 34 = .ok (.iload_n 3, 1) := by decide +kernel
theorem d_Fi_heapUp_35 : decode (am_c m_Fi_heapUp) 35 = .ok (.iaload, 1) := by decide +kernel
theorem d_Fi_heapUp_36 : decode (am_c m_Fi_heapUp) 36 = .ok (.istore 4, 2) := by decide +kernel
theorem d_Fi_heapUp_38 : decode (am_c m_Fi_heapUp) 38 = .ok (.iload 4, 2) := by decide +kernel
theorem d_Fi_heapUp_40 : decode (am_c m_Fi_heapUp) 40 = .ok (.ifCond .le 58, 3) := by decide +kernel
theorem d_Fi_heapUp_43 : decode (am_c m_Fi_heapUp) 43 = .ok (.iload 4, 2) := by decide +kernel
theorem d_Fi_heapUp_45 : decode (am_c m_Fi_heapUp) 45 = .ok (.sipush 1000, 3) := by decide +kernel
theorem d_Fi_heapUp_48 : decode (am_c m_Fi_heapUp) 48 = .ok (.if_icmp .gt 50, 3) := by decide +kernel
theorem d_Fi_heapUp_51 : decode (am_c m_Fi_heapUp) 51 = .ok (.aload_n 0, 1) := by decide +kernel
theorem d_Fi_heapUp_52 : decode (am_c m_Fi_heapUp) 52 = .ok (.iload 4, 2) := by decide +kernel
theorem d_Fi_heapUp_54 : decode (am_c m_Fi_heapUp) 54 = .ok (.invokevirtual 34, 3) := by decide +kernel
theorem d_Fi_heapUp_57 : decode (am_c m_Fi_heapUp) 57 = .ok (.istore 5, 2) := by decide +kernel
theorem d_Fi_heapUp_59 : decode (am_c m_Fi_heapUp) 59 = .ok (.iload 5, 2) := by decide +kernel
theorem d_Fi_heapUp_61 : decode (am_c m_Fi_heapUp) 61 = .ok (.aload_n 0, 1) := by decide +kernel
theorem d_Fi_heapUp_62 : decode (am_c m_Fi_heapUp) 62 = .ok (.getfield 38, 3) := by decide +kernel
theorem d_Fi_heapUp_65 : decode (am_c m_Fi_heapUp) 65 = .ok (.if_icmp .gt 21, 3) := by decide +kernel
theorem d_Fi_heapUp_68 : decode (am_c m_Fi_heapUp) 68 = .ok (.iload 5, 2) := by decide +kernel
theorem d_Fi_heapUp_70 : decode (am_c m_Fi_heapUp) 70 = .ok (.aload_n 0, 1) := by decide +kernel
theorem d_Fi_heapUp_71 : decode (am_c m_Fi_heapUp) 71 = .ok (.getfield 38, 3) := by decide +kernel
theorem d_Fi_heapUp_74 : decode (am_c m_Fi_heapUp) 74 = .ok (.if_icmp .ne 24, 3) := by decide +kernel
theorem d_Fi_heapUp_77 : decode (am_c m_Fi_heapUp) 77 = .ok (.iload 4, 2) := by decide +kernel
theorem d_Fi_heapUp_79 : decode (am_c m_Fi_heapUp) 79 = .ok (.aload_n 0, 1) := by decide +kernel
theorem d_Fi_heapUp_80 : decode (am_c m_Fi_heapUp) 80 = .ok (.getfield 30, 3) := by decide +kernel
theorem d_Fi_heapUp_83 : decode (am_c m_Fi_heapUp) 83 = .ok (.if_icmp .ge 15, 3) := by decide +kernel
theorem d_Fi_heapUp_86 : decode (am_c m_Fi_heapUp) 86 = .ok (.aload_n 0, 1) := by decide +kernel
theorem d_Fi_heapUp_87 : decode (am_c m_Fi_heapUp) 87 = .ok (.iload 5, 2) := by decide +kernel
theorem d_Fi_heapUp_89 : decode (am_c m_Fi_heapUp) 89 = .ok (.putfield 38, 3) := by decide +kernel
theorem d_Fi_heapUp_92 : decode (am_c m_Fi_heapUp) 92 = .ok (.aload_n 0, 1) := by decide +kernel
theorem d_Fi_heapUp_93 : decode (am_c m_Fi_heapUp) 93 = .ok (.iload 4, 2) := by decide +kernel
theorem d_Fi_heapUp_95 : decode (am_c m_Fi_heapUp) 95 = .ok (.putfield 30, 3) := by decide +kernel
theorem d_Fi_heapUp_98 : decode (am_c m_Fi_heapUp) 98 = .ok (.iinc 3 1, 3) := by decide +kernel
theorem d_Fi_heapUp_101 : decode (am_c m_Fi_heapUp) 101 = .ok (.goto (-79), 3) := by decide +kernel
theorem d_Fi_heapUp_104 : decode (am_c m_Fi_heapUp) 104 = .ok (.return_, 1) := by decide +kernel
theorem d_Fi_gatherBegun_0 : decode (am_c m_Fi_gatherBegun) 0 = .ok (.aload_n 0, 1) := by decide +kernel
theorem d_Fi_gatherBegun_1 : decode (am_c m_Fi_gatherBegun) 1 = .ok (.iconst 0, 1) := by decide +kernel
theorem d_Fi_gatherBegun_2 : decode (am_c m_Fi_gatherBegun) 2 = .ok (.putfield 41, 3) := by decide +kernel
theorem d_Fi_gatherBegun_5 : decode (am_c m_Fi_gatherBegun) 5 = .ok (.iconst 0, 1) := by decide +kernel
theorem d_Fi_gatherBegun_6 : decode (am_c m_Fi_gatherBegun) 6 = .ok (.istore_n 3, 1) := by decide +kernel
theorem d_Fi_gatherBegun_7 : decode (am_c m_Fi_gatherBegun) 7 = .ok (.iload_n 3, 1) := by decide +kernel
theorem d_Fi_gatherBegun_8 : decode (am_c m_Fi_gatherBegun) 8 = .ok (.iconst 2, 1) := by decide +kernel
theorem d_Fi_gatherBegun_9 : decode (am_c m_Fi_gatherBegun) 9 = .ok (.if_icmp .ge 100, 3) := by decide +kernel
theorem d_Fi_gatherBegun_12 : decode (am_c m_Fi_gatherBegun) 12 = .ok (.aload_n 0, 1) := by decide +kernel
theorem d_Fi_gatherBegun_13 : decode (am_c m_Fi_gatherBegun) 13 = .ok (.getfield 18, 3) := by decide +kernel
theorem d_Fi_gatherBegun_16 : decode (am_c m_Fi_gatherBegun) 16 = .ok (.iload_n 2, 1) := by decide +kernel
theorem d_Fi_gatherBegun_17 : decode (am_c m_Fi_gatherBegun) 17 = .ok (.iload_n 3, 1) := by decide +kernel
theorem d_Fi_gatherBegun_18 : decode (am_c m_Fi_gatherBegun) 18 = .ok (.invokevirtual 44, 3) := by decide +kernel
theorem d_Fi_gatherBegun_21 : decode (am_c m_Fi_gatherBegun) 21 = .ok (.iconst 0, 1) := by decide +kernel
theorem d_Fi_gatherBegun_22 : decode (am_c m_Fi_gatherBegun) 22 = .ok (.istore 4, 2) := by decide +kernel
theorem d_Fi_gatherBegun_24 : decode (am_c m_Fi_gatherBegun) 24 = .ok (.iload 4, 2) := by decide +kernel
theorem d_Fi_gatherBegun_26 : decode (am_c m_Fi_gatherBegun) 26 = .ok (.aload_n 0, 1) := by decide +kernel
theorem d_Fi_gatherBegun_27 : decode (am_c m_Fi_gatherBegun) 27 = .ok (.getfield 22, 3) := by decide +kernel
theorem d_Fi_gatherBegun_30 : decode (am_c m_Fi_gatherBegun) 30 = .ok (.getfield 49, 3) := by decide +kernel
theorem d_Fi_gatherBegun_33 : decode (am_c m_Fi_gatherBegun) 33 = .ok (.if_icmp .ge 70, 3) := by decide +kernel
theorem d_Fi_gatherBegun_36 : decode (am_c m_Fi_gatherBegun) 36 = .ok (.aload_n 0, 1) := by decide +kernel
theorem d_Fi_gatherBegun_37 : decode (am_c m_Fi_gatherBegun) 37 = .ok (.getfield 22, 3) := by decide +kernel
theorem d_Fi_gatherBegun_40 : decode (am_c m_Fi_gatherBegun) 40 = .ok (.getfield 54, 3) := by decide +kernel
theorem d_Fi_gatherBegun_43 : decode (am_c m_Fi_gatherBegun) 43 = .ok (.iload 4, 2) := by decide +kernel
theorem d_Fi_gatherBegun_45 : decode (am_c m_Fi_gatherBegun) 45 = .ok (.iaload, 1) := by decide +kernel
theorem d_Fi_gatherBegun_46 : decode (am_c m_Fi_gatherBegun) 46 = .ok (.iload_n 1, 1) := by decide +kernel
theorem d_Fi_gatherBegun_47 : decode (am_c m_Fi_gatherBegun) 47 = .ok (.if_icmp .ne 50, 3) := by decide +kernel
theorem d_Fi_gatherBegun_50 : decode (am_c m_Fi_gatherBegun) 50 = .ok (.aload_n 0, 1) := by decide +kernel
theorem d_Fi_gatherBegun_51 : decode (am_c m_Fi_gatherBegun) 51 = .ok (.getfield 22, 3) := by decide +kernel
theorem d_Fi_gatherBegun_54 : decode (am_c m_Fi_gatherBegun) 54 = .ok (.getfield 57, 3) := by decide +kernel
theorem d_Fi_gatherBegun_57 : decode (am_c m_Fi_gatherBegun) 57 = .ok (.iload 4, 2) := by decide +kernel
theorem d_Fi_gatherBegun_59 : decode (am_c m_Fi_gatherBegun) 59 = .ok (.iaload, 1) := by decide +kernel
theorem d_Fi_gatherBegun_60 : decode (am_c m_Fi_gatherBegun) 60 = .ok (.iload_n 3, 1) := by decide +kernel
theorem d_Fi_gatherBegun_61 : decode (am_c m_Fi_gatherBegun) 61 = .ok (.if_icmp .ne 36, 3) := by decide +kernel
theorem d_Fi_gatherBegun_64 : decode (am_c m_Fi_gatherBegun) 64 = .ok (.aload_n 0, 1) := by decide +kernel
theorem d_Fi_gatherBegun_65 : decode (am_c m_Fi_gatherBegun) 65 = .ok (.iload 4, 2) := by decide +kernel
theorem d_Fi_gatherBegun_67 : decode (am_c m_Fi_gatherBegun) 67 = .ok (.aload_n 0, 1) := by decide +kernel
theorem d_Fi_gatherBegun_68 : decode (am_c m_Fi_gatherBegun) 68 = .ok (.getfield 18, 3) := by decide +kernel
theorem d_Fi_gatherBegun_71 : decode (am_c m_Fi_gatherBegun) 71 = .ok (.getfield 60, 3) := by decide +kernel
theorem d_Fi_gatherBegun_74 : decode (am_c m_Fi_gatherBegun) 74 = .ok (.aload_n 0, 1) := by decide +kernel
theorem d_Fi_gatherBegun_75 : decode (am_c m_Fi_gatherBegun) 75 = .ok (.getfield 22, 3) := by decide +kernel
theorem d_Fi_gatherBegun_78 : decode (am_c m_Fi_gatherBegun) 78 = .ok (.iload 4, 2) := by decide +kernel
theorem d_Fi_gatherBegun_80 : decode (am_c m_Fi_gatherBegun) 80 = .ok (.invokevirtual 63, 3) := by decide +kernel
theorem d_Fi_gatherBegun_83 : decode (am_c m_Fi_gatherBegun) 83 = .ok (.iaload, 1) := by decide +kernel
theorem d_Fi_gatherBegun_84 : decode (am_c m_Fi_gatherBegun) 84 = .ok (.aload_n 0, 1) := by decide +kernel
theorem d_Fi_gatherBegun_85 : decode (am_c m_Fi_gatherBegun) 85 = .ok (.getfield 22, 3) := by decide +kernel
theorem d_Fi_gatherBegun_88 : decode (am_c m_Fi_gatherBegun) 88 = .ok (.iload 4, 2) := by decide +kernel
theorem d_Fi_gatherBegun_90 : decode (am_c m_Fi_gatherBegun) 90 = .ok (.invokevirtual 66, 3) := by decide +kernel
theorem d_Fi_gatherBegun_93 : decode (am_c m_Fi_gatherBegun) 93 = .ok (.iadd, 1) := by decide +kernel
theorem d_Fi_gatherBegun_94 : decode (am_c m_Fi_gatherBegun) 94 = .ok (.invokevirtual 69, 3) := by decide +kernel
theorem d_Fi_gatherBegun_97 : decode (am_c m_Fi_gatherBegun) 97 = .ok (.iinc 4 1, 3) := by decide +kernel
theorem d_Fi_gatherBegun_100 : decode (am_c m_Fi_gatherBegun) 100 = .ok (.goto (-76), 3) := by decide +kernel
theorem d_Fi_gatherBegun_103 : decode (am_c m_Fi_gatherBegun) 103 = .ok (.iinc 3 1, 3) := by decide +kernel
theorem d_Fi_gatherBegun_106 : decode (am_c m_Fi_gatherBegun) 106 = .ok (.goto (-99), 3) := by decide +kernel
theorem d_Fi_gatherBegun_109 : decode (am_c m_Fi_gatherBegun) 109 = .ok (.return_, 1) := by decide +kernel
theorem d_Fi_addSpan_0 : decode (am_c m_Fi_addSpan) 0 = .ok (.aload_n 0, 1) := by decide +kernel
theorem d_Fi_addSpan_1 : decode (am_c m_Fi_addSpan) 1 = .ok (.getfield 9, 3) := by decide +kernel
theorem d_Fi_addSpan_4 : decode (am_c m_Fi_addSpan) 4 = .ok (.aload_n 0, 1) := by decide +kernel
theorem d_Fi_addSpan_5 : decode (am_c m_Fi_addSpan) 5 = .ok (.getfield 41, 3) := by decide +kernel
theorem d_Fi_addSpan_8 : decode (am_c m_Fi_addSpan) 8 = .ok (.aload_n 0, 1) := by decide +kernel
theorem d_Fi_addSpan_9 : decode (am_c m_Fi_addSpan) 9 = .ok (.getfield 22, 3) := by decide +kernel
theorem d_Fi_addSpan_12 : decode (am_c m_Fi_addSpan) 12 = .ok (.iload_n 1, 1) := by decide +kernel
theorem d_Fi_addSpan_13 : decode (am_c m_Fi_addSpan) 13 = .ok (.invokevirtual 72, 3) := by decide +kernel
theorem d_Fi_addSpan_16 : decode (am_c m_Fi_addSpan) 16 = .ok (.iload_n 2, 1) := by decide +kernel
theorem d_Fi_addSpan_17 : decode (am_c m_Fi_addSpan) 17 = .ok (.isub, 1) := by decide +kernel
theorem d_Fi_addSpan_18 : decode (am_c m_Fi_addSpan) 18 = .ok (.iastore, 1) := by decide +kernel
theorem d_Fi_addSpan_19 : decode (am_c m_Fi_addSpan) 19 = .ok (.aload_n 0, 1) := by decide +kernel
theorem d_Fi_addSpan_20 : decode (am_c m_Fi_addSpan) 20 = .ok (.getfield 15, 3) := by decide +kernel
theorem d_Fi_addSpan_23 : decode (am_c m_Fi_addSpan) 23 = .ok (.aload_n 0, 1) := by decide +kernel
theorem d_Fi_addSpan_24 : decode (am_c m_Fi_addSpan) 24 = .ok (.getfield 41, 3) := by decide +kernel
theorem d_Fi_addSpan_27 : decode (am_c m_Fi_addSpan) 27 = .ok (.aload_n 0, 1) := by decide +kernel
theorem d_Fi_addSpan_28 : decode (am_c m_Fi_addSpan) 28 = .ok (.getfield 22, 3) := by decide +kernel
theorem d_Fi_addSpan_31 : decode (am_c m_Fi_addSpan) 31 = .ok (.iload_n 1, 1) := by decide +kernel
theorem d_Fi_addSpan_32 : decode (am_c m_Fi_addSpan) 32 = .ok (.invokevirtual 75, 3) := by decide +kernel
theorem d_Fi_addSpan_35 : decode (am_c m_Fi_addSpan) 35 = .ok (.iload_n 2, 1) := by decide +kernel
theorem d_Fi_addSpan_36 : decode (am_c m_Fi_addSpan) 36 = .ok (.isub, 1) := by decide +kernel
theorem d_Fi_addSpan_37 : decode (am_c m_Fi_addSpan) 37 = .ok (.iastore, 1) := by decide +kernel
theorem d_Fi_addSpan_38 : decode (am_c m_Fi_addSpan) 38 = .ok (.aload_n 0, 1) := by decide +kernel
theorem d_Fi_addSpan_39 : decode (am_c m_Fi_addSpan) 39 = .ok (.dup, 1) := by decide +kernel
theorem d_Fi_addSpan_40 : decode (am_c m_Fi_addSpan) 40 = .ok (.getfield 41, 3) := by decide +kernel
theorem d_Fi_addSpan_43 : decode (am_c m_Fi_addSpan) 43 = .ok (.iconst 1, 1) := by decide +kernel
theorem d_Fi_addSpan_44 : decode (am_c m_Fi_addSpan) 44 = .ok (.iadd, 1) := by decide +kernel
theorem d_Fi_addSpan_45 : decode (am_c m_Fi_addSpan) 45 = .ok (.putfield 41, 3) := by decide +kernel
theorem d_Fi_addSpan_48 : decode (am_c m_Fi_addSpan) 48 = .ok (.return_, 1) := by decide +kernel
theorem d_Fi_countFitting_0 : decode (am_c m_Fi_countFitting) 0 = .ok (.iconst 0, 1) := by decide +kernel
theorem d_Fi_countFitting_1 : decode (am_c m_Fi_countFitting) 1 = .ok (.istore_n 2, 1) := by decide +kernel
theorem d_Fi_countFitting_2 : decode (am_c m_Fi_countFitting) 2 = .ok (.iconst 0, 1) := by decide +kernel
theorem d_Fi_countFitting_3 : decode (am_c m_Fi_countFitting) 3 = .ok (.istore_n 3, 1) := by decide +kernel
theorem d_Fi_countFitting_4 : decode (am_c m_Fi_countFitting) 4 = .ok (.iload_n 3, 1) := by decide +kernel
theorem d_Fi_countFitting_5 : decode (am_c m_Fi_countFitting) 5 = .ok (.aload_n 0, 1) := by decide +kernel
theorem d_Fi_countFitting_6 : decode (am_c m_Fi_countFitting) 6 = .ok (.getfield 41, 3) := by decide +kernel
theorem d_Fi_countFitting_9 : decode (am_c m_Fi_countFitting) 9 = .ok (.if_icmp .ge 37, 3) := by decide +kernel
theorem d_Fi_countFitting_12 : decode (am_c m_Fi_countFitting) 12 = .ok (.iload_n 2, 1) := by decide +kernel
theorem d_Fi_countFitting_13 : decode (am_c m_Fi_countFitting) 13 = .ok (.iload_n 1, 1) := by decide +kernel
theorem d_Fi_countFitting_14 : decode (am_c m_Fi_countFitting) 14 = .ok (.aload_n 0, 1) := by decide +kernel
theorem d_Fi_countFitting_15 : decode (am_c m_Fi_countFitting) 15 = .ok (.getfield 9, 3) := by decide +kernel
theorem d_Fi_countFitting_18 : decode (am_c m_Fi_countFitting) 18 = .ok (.iload_n 3, 1) := by decide +kernel
theorem d_Fi_countFitting_19 : decode (am_c m_Fi_countFitting) 19 = .ok (.iaload, 1) := by decide +kernel
theorem d_Fi_countFitting_20 : decode (am_c m_Fi_countFitting) 20 = .ok (.if_icmp .lt 17, 3) := by decide +kernel
theorem d_Fi_countFitting_23 : decode (am_c m_Fi_countFitting) 23 = .ok (.iload_n 1, 1) := by decide +kernel
theorem d_Fi_countFitting_24 : decode (am_c m_Fi_countFitting) 24 = .ok (.aload_n 0, 1) := by decide +kernel
theorem d_Fi_countFitting_25 : decode (am_c m_Fi_countFitting) 25 = .ok (.getfield 15, 3) := by decide +kernel
theorem d_Fi_countFitting_28 : decode (am_c m_Fi_countFitting) 28 = .ok (.iload_n 3, 1) := by decide +kernel
theorem d_Fi_countFitting_29 : decode (am_c m_Fi_countFitting) 29 = .ok (.iaload, 1) := by decide +kernel
theorem d_Fi_countFitting_30 : decode (am_c m_Fi_countFitting) 30 = .ok (.if_icmp .gt 7, 3) := by decide +kernel
theorem d_Fi_countFitting_33 : decode (am_c m_Fi_countFitting) 33 = .ok (.iconst 1, 1) := by decide +kernel
theorem d_Fi_countFitting_34 : decode (am_c m_Fi_countFitting) 34 = .ok (.goto 4, 3) := by decide +kernel
theorem d_Fi_countFitting_37 : decode (am_c m_Fi_countFitting) 37 = .ok (.iconst 0, 1) := by decide +kernel
theorem d_Fi_countFitting_38 : decode (am_c m_Fi_countFitting) 38 = .ok (.iadd, 1) := by decide +kernel
theorem d_Fi_countFitting_39 : decode (am_c m_Fi_countFitting) 39 = .ok (.istore_n 2, 1) := by decide +kernel
theorem d_Fi_countFitting_40 : decode (am_c m_Fi_countFitting) 40 = .ok (.iinc 3 1, 3) := by decide +kernel
theorem d_Fi_countFitting_43 : decode (am_c m_Fi_countFitting) 43 = .ok (.goto (-39), 3) := by decide +kernel
theorem d_Fi_countFitting_46 : decode (am_c m_Fi_countFitting) 46 = .ok (.iload_n 2, 1) := by decide +kernel
theorem d_Fi_countFitting_47 : decode (am_c m_Fi_countFitting) 47 = .ok (.ireturn, 1) := by decide +kernel
theorem d_Fi_moveShake_0 : decode (am_c m_Fi_moveShake) 0 = .ok (.iconst 0, 1) := by decide +kernel
theorem d_Fi_moveShake_1 : decode (am_c m_Fi_moveShake) 1 = .ok (.istore_n 2, 1) := by decide +kernel
theorem d_Fi_moveShake_2 : decode (am_c m_Fi_moveShake) 2 = .ok (.iconst (-1), 1) := by decide +kernel
theorem d_Fi_moveShake_3 : decode (am_c m_Fi_moveShake) 3 = .ok (.istore_n 3, 1) := by decide +kernel
theorem d_Fi_moveShake_4 : decode (am_c m_Fi_moveShake) 4 = .ok (.iconst 0, 1) := by decide +kernel
theorem d_Fi_moveShake_5 : decode (am_c m_Fi_moveShake) 5 = .ok (.istore 4, 2) := by decide +kernel
theorem d_Fi_moveShake_7 : decode (am_c m_Fi_moveShake) 7 = .ok (.iconst 0, 1) := by decide +kernel
theorem d_Fi_moveShake_8 : decode (am_c m_Fi_moveShake) 8 = .ok (.istore 5, 2) := by decide +kernel
theorem d_Fi_moveShake_10 : decode (am_c m_Fi_moveShake) 10 = .ok (.iload 5, 2) := by decide +kernel
theorem d_Fi_moveShake_12 : decode (am_c m_Fi_moveShake) 12 = .ok (.aload_n 0, 1) := by decide +kernel
theorem d_Fi_moveShake_13 : decode (am_c m_Fi_moveShake) 13 = .ok (.getfield 18, 3) := by decide +kernel
theorem d_Fi_moveShake_16 : decode (am_c m_Fi_moveShake) 16 = .ok (.getfield 78, 3) := by decide +kernel
theorem d_Fi_moveShake_19 : decode (am_c m_Fi_moveShake) 19 = .ok (.if_icmp .ge 38, 3) := by decide +kernel
theorem d_Fi_moveShake_22 : decode (am_c m_Fi_moveShake) 22 = .ok (.aload_n 0, 1) := by decide +kernel
theorem d_Fi_moveShake_23 : decode (am_c m_Fi_moveShake) 23 = .ok (.iload_n 1, 1) := by decide +kernel
theorem d_Fi_moveShake_24 : decode (am_c m_Fi_moveShake) 24 = .ok (.iload 5, 2) := by decide +kernel
theorem d_Fi_moveShake_26 : decode (am_c m_Fi_moveShake) 26 = .ok (.invokevirtual 81, 3) := by decide +kernel
theorem d_Fi_moveShake_29 : decode (am_c m_Fi_moveShake) 29 = .ok (.aload_n 0, 1) := by decide +kernel
theorem d_Fi_moveShake_30 : decode (am_c m_Fi_moveShake) 30 = .ok (.getfield 38, 3) := by decide +kernel
theorem d_Fi_moveShake_33 : decode (am_c m_Fi_moveShake) 33 = .ok (.iload_n 3, 1) := by decide +kernel
theorem d_Fi_moveShake_34 : decode (am_c m_Fi_moveShake) 34 = .ok (.if_icmp .le 17, 3) := by decide +kernel
theorem d_Fi_moveShake_37 : decode (am_c m_Fi_moveShake) 37 = .ok (.aload_n 0, 1) := by decide +kernel
theorem d_Fi_moveShake_38 : decode (am_c m_Fi_moveShake) 38 = .ok (.getfield 38, 3) := by decide +kernel
theorem d_Fi_moveShake_41 : decode (am_c m_Fi_moveShake) 41 = .ok (.istore_n 3, 1) := by decide +kernel
theorem d_Fi_moveShake_42 : decode (am_c m_Fi_moveShake) 42 = .ok (.iload 5, 2) := by decide +kernel
theorem d_Fi_moveShake_44 : decode (am_c m_Fi_moveShake) 44 = .ok (.istore_n 2, 1) := by decide +kernel
theorem d_Fi_moveShake_45 : decode (am_c m_Fi_moveShake) 45 = .ok (.aload_n 0, 1) := by decide +kernel
theorem d_Fi_moveShake_46 : decode (am_c m_Fi_moveShake) 46 = .ok (.getfield 30, 3) := by decide +kernel
theorem d_Fi_moveShake_49 : decode (am_c m_Fi_moveShake) 49 = .ok (.istore 4, 2) := by decide +kernel
theorem d_Fi_moveShake_51 : decode (am_c m_Fi_moveShake) 51 = .ok (.iinc 5 1, 3) := by decide +kernel
theorem d_Fi_moveShake_54 : decode (am_c m_Fi_moveShake) 54 = .ok (.goto (-44), 3) := by decide +kernel
theorem d_Fi_moveShake_57 : decode (am_c m_Fi_moveShake) 57 = .ok (.aload_n 0, 1) := by decide +kernel
theorem d_Fi_moveShake_58 : decode (am_c m_Fi_moveShake) 58 = .ok (.getfield 22, 3) := by decide +kernel
theorem d_Fi_moveShake_61 : decode (am_c m_Fi_moveShake) 61 = .ok (.iload_n 1, 1) := by decide +kernel
theorem d_Fi_moveShake_62 : decode (am_c m_Fi_moveShake) 62 = .ok (.iload_n 2, 1) := by decide +kernel
theorem d_Fi_moveShake_63 : decode (am_c m_Fi_moveShake) 63 = .ok (.iload 4, 2) := by decide +kernel
theorem d_Fi_moveShake_65 : decode (am_c m_Fi_moveShake) 65 = .ok (.invokevirtual 84, 3) := by decide +kernel
theorem d_Fi_moveShake_68 : decode (am_c m_Fi_moveShake) 68 = .ok (.iload_n 2, 1) := by decide +kernel
theorem d_Fi_moveShake_69 : decode (am_c m_Fi_moveShake) 69 = .ok (.ireturn, 1) := by decide +kernel
theorem d_Fi_clockOff_0 : decode (am_c m_Fi_clockOff) 0 = .ok (.aload_n 0, 1) := by decide +kernel
theorem d_Fi_clockOff_1 : decode (am_c m_Fi_clockOff) 1 = .ok (.iconst 0, 1) := by decide +kernel
theorem d_Fi_clockOff_2 : decode (am_c m_Fi_clockOff) 2 = .ok (.putfield 41, 3) := by decide +kernel
theorem d_Fi_clockOff_5 : decode (am_c m_Fi_clockOff) 5 = .ok (.iconst 0, 1) := by decide +kernel
theorem d_Fi_clockOff_6 : decode (am_c m_Fi_clockOff) 6 = .ok (.istore_n 2, 1) := by decide +kernel
theorem d_Fi_clockOff_7 : decode (am_c m_Fi_clockOff) 7 = .ok (.iload_n 2, 1) := by decide +kernel
theorem d_Fi_clockOff_8 : decode (am_c m_Fi_clockOff) 8 = .ok (.aload_n 0, 1) := by decide +kernel
theorem d_Fi_clockOff_9 : decode (am_c m_Fi_clockOff) 9 = .ok (.getfield 22, 3) := by decide +kernel
theorem d_Fi_clockOff_12 : decode (am_c m_Fi_clockOff) 12 = .ok (.getfield 49, 3) := by decide +kernel
theorem d_Fi_clockOff_15 : decode (am_c m_Fi_clockOff) 15 = .ok (.if_icmp .ge 77, 3) := by decide +kernel
theorem d_Fi_clockOff_18 : decode (am_c m_Fi_clockOff) 18 = .ok (.aload_n 0, 1) := by decide +kernel
theorem d_Fi_clockOff_19 : decode (am_c m_Fi_clockOff) 19 = .ok (.getfield 22, 3) := by decide +kernel
theorem d_Fi_clockOff_22 : decode (am_c m_Fi_clockOff) 22 = .ok (.getfield 88, 3) := by decide +kernel
theorem d_Fi_clockOff_25 : decode (am_c m_Fi_clockOff) 25 = .ok (.iload_n 2, 1) := by decide +kernel
theorem d_Fi_clockOff_26 : decode (am_c m_Fi_clockOff) 26 = .ok (.iaload, 1) := by decide +kernel
theorem d_Fi_clockOff_27 : decode (am_c m_Fi_clockOff) 27 = .ok (.iload_n 1, 1) := by decide +kernel
theorem d_Fi_clockOff_28 : decode (am_c m_Fi_clockOff) 28 = .ok (.if_icmp .ne 58, 3) := by decide +kernel
theorem d_Fi_clockOff_31 : decode (am_c m_Fi_clockOff) 31 = .ok (.aload_n 0, 1) := by decide +kernel
theorem d_Fi_clockOff_32 : decode (am_c m_Fi_clockOff) 32 = .ok (.getfield 18, 3) := by decide +kernel
theorem d_Fi_clockOff_35 : decode (am_c m_Fi_clockOff) 35 = .ok (.aload_n 0, 1) := by decide +kernel
theorem d_Fi_clockOff_36 : decode (am_c m_Fi_clockOff) 36 = .ok (.getfield 22, 3) := by decide +kernel
theorem d_Fi_clockOff_39 : decode (am_c m_Fi_clockOff) 39 = .ok (.iload_n 2, 1) := by decide +kernel
theorem d_Fi_clockOff_40 : decode (am_c m_Fi_clockOff) 40 = .ok (.invokevirtual 91, 3) := by decide +kernel
theorem d_Fi_clockOff_43 : decode (am_c m_Fi_clockOff) 43 = .ok (.aload_n 0, 1) := by decide +kernel
theorem d_Fi_clockOff_44 : decode (am_c m_Fi_clockOff) 44 = .ok (.getfield 22, 3) := by decide +kernel
theorem d_Fi_clockOff_47 : decode (am_c m_Fi_clockOff) 47 = .ok (.getfield 57, 3) := by decide +kernel
theorem d_Fi_clockOff_50 : decode (am_c m_Fi_clockOff) 50 = .ok (.iload_n 2, 1) := by decide +kernel
theorem d_Fi_clockOff_51 : decode (am_c m_Fi_clockOff) 51 = .ok (.iaload, 1) := by decide +kernel
theorem d_Fi_clockOff_52 : decode (am_c m_Fi_clockOff) 52 = .ok (.invokevirtual 44, 3) := by decide +kernel
theorem d_Fi_clockOff_55 : decode (am_c m_Fi_clockOff) 55 = .ok (.aload_n 0, 1) := by decide +kernel
theorem d_Fi_clockOff_56 : decode (am_c m_Fi_clockOff) 56 = .ok (.iload_n 2, 1) := by decide +kernel
theorem d_Fi_clockOff_57 : decode (am_c m_Fi_clockOff) 57 = .ok (.aload_n 0, 1) := by decide +kernel
theorem d_Fi_clockOff_58 : decode (am_c m_Fi_clockOff) 58 = .ok (.getfield 22, 3) := by decide +kernel
theorem d_Fi_clockOff_61 : decode (am_c m_Fi_clockOff) 61 = .ok (.iload_n 2, 1) := by decide +kernel
theorem d_Fi_clockOff_62 : decode (am_c m_Fi_clockOff) 62 = .ok (.invokevirtual 94, 3) := by decide +kernel
theorem d_Fi_clockOff_65 : decode (am_c m_Fi_clockOff) 65 = .ok (.aload_n 0, 1) := by decide +kernel
theorem d_Fi_clockOff_66 : decode (am_c m_Fi_clockOff) 66 = .ok (.getfield 18, 3) := by decide +kernel
theorem d_Fi_clockOff_69 : decode (am_c m_Fi_clockOff) 69 = .ok (.getfield 60, 3) := by decide +kernel
theorem d_Fi_clockOff_72 : decode (am_c m_Fi_clockOff) 72 = .ok (.aload_n 0, 1) := by decide +kernel
theorem d_Fi_clockOff_73 : decode (am_c m_Fi_clockOff) 73 = .ok (.getfield 22, 3) := by decide +kernel
theorem d_Fi_clockOff_76 : decode (am_c m_Fi_clockOff) 76 = .ok (.getfield 97, 3) := by decide +kernel
theorem d_Fi_clockOff_79 : decode (am_c m_Fi_clockOff) 79 = .ok (.iload_n 1, 1) := by decide +kernel
theorem d_Fi_clockOff_80 : decode (am_c m_Fi_clockOff) 80 = .ok (.iaload, 1) := by decide +kernel
theorem d_Fi_clockOff_81 : decode (am_c m_Fi_clockOff) 81 = .ok (.iaload, 1) := by decide +kernel
theorem d_Fi_clockOff_82 : decode (am_c m_Fi_clockOff) 82 = .ok (.iadd, 1) := by decide +kernel
theorem d_Fi_clockOff_83 : decode (am_c m_Fi_clockOff) 83 = .ok (.invokevirtual 69, 3) := by decide +kernel
theorem d_Fi_clockOff_86 : decode (am_c m_Fi_clockOff) 86 = .ok (.iinc 2 1, 3) := by decide +kernel
theorem d_Fi_clockOff_89 : decode (am_c m_Fi_clockOff) 89 = .ok (.goto (-82), 3) := by decide +kernel
theorem d_Fi_clockOff_92 : decode (am_c m_Fi_clockOff) 92 = .ok (.iconst 0, 1) := by decide +kernel
theorem d_Fi_clockOff_93 : decode (am_c m_Fi_clockOff) 93 = .ok (.istore_n 2, 1) := by decide +kernel
theorem d_Fi_clockOff_94 : decode (am_c m_Fi_clockOff) 94 = .ok (.aload_n 0, 1) := by decide +kernel
theorem d_Fi_clockOff_95 : decode (am_c m_Fi_clockOff) 95 = .ok (.iconst 0, 1) := by decide +kernel
theorem d_Fi_clockOff_96 : decode (am_c m_Fi_clockOff) 96 = .ok (.invokevirtual 34, 3) := by decide +kernel
theorem d_Fi_clockOff_99 : decode (am_c m_Fi_clockOff) 99 = .ok (.istore_n 3, 1) := by decide +kernel
theorem d_Fi_clockOff_100 : decode (am_c m_Fi_clockOff) 100 = .ok (.iconst 1, 1) := by decide +kernel
theorem d_Fi_clockOff_101 : decode (am_c m_Fi_clockOff) 101 = .ok (.istore 4, 2) := by decide +kernel
theorem d_Fi_clockOff_103 : decode (am_c m_Fi_clockOff) 103 = .ok (.iload 4, 2) := by decide +kernel
theorem d_Fi_clockOff_105 : decode (am_c m_Fi_clockOff) 105 = .ok (.bipush 99, 2) := by decide +kernel
theorem d_Fi_clockOff_107 : decode (am_c m_Fi_clockOff) 107 = .ok (.if_icmp .gt 53, 3) := by decide +kernel
theorem d_Fi_clockOff_110 : decode (am_c m_Fi_clockOff) 110 = .ok (.iload 4, 2) := by decide +kernel
theorem d_Fi_clockOff_112 : decode (am_c m_Fi_clockOff) 112 = .ok (.ineg, 1) := by decide +kernel
theorem d_Fi_clockOff_113 : decode (am_c m_Fi_clockOff) 113 = .ok (.istore 5, 2) := by decide +kernel
theorem d_Fi_clockOff_115 : decode (am_c m_Fi_clockOff) 115 = .ok (.iload 5, 2) := by decide +kernel
theorem d_Fi_clockOff_117 : decode (am_c m_Fi_clockOff) 117 = .ok (.iload 4, 2) := by decide +kernel
theorem d_Fi_clockOff_119 : decode (am_c m_Fi_clockOff) 119 = .ok (.if_icmp .gt 35, 3) := by decide +kernel
theorem d_Fi_clockOff_122 : decode (am_c m_Fi_clockOff) 122 = .ok (.aload_n 0, 1) := by decide +kernel
theorem d_Fi_clockOff_123 : decode (am_c m_Fi_clockOff) 123 = .ok (.iload 5, 2) := by decide +kernel
theorem d_Fi_clockOff_125 : decode (am_c m_Fi_clockOff) 125 = .ok (.invokevirtual 34, 3) := by decide +kernel
theorem d_Fi_clockOff_128 : decode (am_c m_Fi_clockOff) 128 = .ok (.istore 6, 2) := by decide +kernel
theorem d_Fi_clockOff_130 : decode (am_c m_Fi_clockOff) 130 = .ok (.iload 6, 2) := by decide +kernel
theorem d_Fi_clockOff_132 : decode (am_c m_Fi_clockOff) 132 = .ok (.iload_n 3, 1) := by decide +kernel
theorem d_Fi_clockOff_133 : decode (am_c m_Fi_clockOff) 133 = .ok (.if_icmp .le 9, 3) := by decide +kernel
theorem d_Fi_clockOff_136 : decode (am_c m_Fi_clockOff) 136 = .ok (.iload 6, 2) := by decide +kernel
theorem d_Fi_clockOff_138 : decode (am_c m_Fi_clockOff) 138 = .ok (.istore_n 3, 1) := by decide +kernel
theorem d_Fi_clockOff_139 : decode (am_c m_Fi_clockOff) 139 = .ok (.iload 5, 2) := by decide +kernel
theorem d_Fi_clockOff_141 : decode (am_c m_Fi_clockOff) 141 = .ok (.istore_n 2, 1) := by decide +kernel
theorem d_Fi_clockOff_142 : decode (am_c m_Fi_clockOff) 142 = .ok (.iload 5, 2) := by decide +kernel
theorem d_Fi_clockOff_144 : decode (am_c m_Fi_clockOff) 144 = .ok (.iconst 2, 1) := by decide +kernel
theorem d_Fi_clockOff_145 : decode (am_c m_Fi_clockOff) 145 = .ok (.iload 4, 2) := by decide +kernel
theorem d_Fi_clockOff_147 : decode (am_c m_Fi_clockOff) 147 = .ok (.imul, 1) := by decide +kernel
theorem d_Fi_clockOff_148 : decode (am_c m_Fi_clockOff) 148 = .ok (.iadd, 1) := by decide +kernel
theorem d_Fi_clockOff_149 : decode (am_c m_Fi_clockOff) 149 = .ok (.istore 5, 2) := by decide +kernel
theorem d_Fi_clockOff_151 : decode (am_c m_Fi_clockOff) 151 = .ok (.goto (-36), 3) := by decide +kernel
theorem d_Fi_clockOff_154 : decode (am_c m_Fi_clockOff) 154 = .ok (.iinc 4 1, 3) := by decide +kernel
theorem d_Fi_clockOff_157 : decode (am_c m_Fi_clockOff) 157 = .ok (.goto (-54), 3) := by decide +kernel
theorem d_Fi_clockOff_160 : decode (am_c m_Fi_clockOff) 160 = .ok (.iload_n 2, 1) := by decide +kernel
theorem d_Fi_clockOff_161 : decode (am_c m_Fi_clockOff) 161 = .ok (.ireturn, 1) := by decide +kernel
theorem d_Me_keep_0 : decode (am_c m_Me_keep) 0 = .ok (.aload_n 0, 1) := by decide +kernel
theorem d_Me_keep_1 : decode (am_c m_Me_keep) 1 = .ok (.getfield 24, 3) := by decide +kernel
theorem d_Me_keep_4 : decode (am_c m_Me_keep) 4 = .ok (.getfield 32, 3) := by decide +kernel
theorem d_Me_keep_7 : decode (am_c m_Me_keep) 7 = .ok (.iconst 0, 1) := by decide +kernel
theorem d_Me_keep_8 : decode (am_c m_Me_keep) 8 = .ok (.aload_n 0, 1) := by decide +kernel
theorem d_Me_keep_9 : decode (am_c m_Me_keep) 9 = .ok (.getfield 9, 3) := by decide +kernel
theorem d_Me_keep_12 : decode (am_c m_Me_keep) 12 = .ok (.iconst 0, 1) := by decide +kernel
theorem d_Me_keep_13 : decode (am_c m_Me_keep) 13 = .ok (.bipush 16, 2) := by decide +kernel
theorem d_Me_keep_15 : decode (am_c m_Me_keep) 15 = .ok (.invokestatic 35, 3) := by decide +kernel
theorem d_Me_keep_18 : decode (am_c m_Me_keep) 18 = .ok (.aload_n 0, 1) := by decide +kernel
theorem d_Me_keep_19 : decode (am_c m_Me_keep) 19 = .ok (.getfield 24, 3) := by decide +kernel
theorem d_Me_keep_22 : decode (am_c m_Me_keep) 22 = .ok (.getfield 41, 3) := by decide +kernel
theorem d_Me_keep_25 : decode (am_c m_Me_keep) 25 = .ok (.iconst 0, 1) := by decide +kernel
theorem d_Me_keep_26 : decode (am_c m_Me_keep) 26 = .ok (.aload_n 0, 1) := by decide +kernel
theorem d_Me_keep_27 : decode (am_c m_Me_keep) 27 = .ok (.getfield 15, 3) := by decide +kernel
theorem d_Me_keep_30 : decode (am_c m_Me_keep) 30 = .ok (.iconst 0, 1) := by decide +kernel
theorem d_Me_keep_31 : decode (am_c m_Me_keep) 31 = .ok (.bipush 8, 2) := by decide +kernel
theorem d_Me_keep_33 : decode (am_c m_Me_keep) 33 = .ok (.invokestatic 35, 3) := by decide +kernel
theorem d_Me_keep_36 : decode (am_c m_Me_keep) 36 = .ok (.aload_n 0, 1) := by decide +kernel
theorem d_Me_keep_37 : decode (am_c m_Me_keep) 37 = .ok (.getfield 28, 3) := by decide +kernel
theorem d_Me_keep_40 : decode (am_c m_Me_keep) 40 = .ok (.getfield 42, 3) := by decide +kernel
theorem d_Me_keep_43 : decode (am_c m_Me_keep) 43 = .ok (.iconst 0, 1) := by decide +kernel
theorem d_Me_keep_44 : decode (am_c m_Me_keep) 44 = .ok (.aload_n 0, 1) := by decide +kernel
theorem d_Me_keep_45 : decode (am_c m_Me_keep) 45 = .ok (.getfield 18, 3) := by decide +kernel
theorem d_Me_keep_48 : decode (am_c m_Me_keep) 48 = .ok (.iconst 0, 1) := by decide +kernel
theorem d_Me_keep_49 : decode (am_c m_Me_keep) 49 = .ok (.iconst 5, 1) := by decide +kernel
theorem d_Me_keep_50 : decode (am_c m_Me_keep) 50 = .ok (.invokestatic 35, 3) := by decide +kernel
theorem d_Me_keep_53 : decode (am_c m_Me_keep) 53 = .ok (.aload_n 0, 1) := by decide +kernel
theorem d_Me_keep_54 : decode (am_c m_Me_keep) 54 = .ok (.getfield 28, 3) := by decide +kernel
theorem d_Me_keep_57 : decode (am_c m_Me_keep) 57 = .ok (.getfield 45, 3) := by decide +kernel
theorem d_Me_keep_60 : decode (am_c m_Me_keep) 60 = .ok (.iconst 0, 1) := by decide +kernel
theorem d_Me_keep_61 : decode (am_c m_Me_keep) 61 = .ok (.aload_n 0, 1) := by decide +kernel
theorem d_Me_keep_62 : decode (am_c m_Me_keep) 62 = .ok (.getfield 21, 3) := by decide +kernel
theorem d_Me_keep_65 : decode (am_c m_Me_keep) 65 = .ok (.iconst 0, 1) := by decide +kernel
theorem d_Me_keep_66 : decode (am_c m_Me_keep) 66 = .ok (.bipush 6, 2) := by decide +kernel
theorem d_Me_keep_68 : decode (am_c m_Me_keep) 68 = .ok (.invokestatic 35, 3) := by decide +kernel
theorem d_Me_keep_71 : decode (am_c m_Me_keep) 71 = .ok (.return_, 1) := by decide +kernel
theorem d_Me_bringBack_0 : decode (am_c m_Me_bringBack) 0 = .ok (.aload_n 0, 1) := by decide +kernel
theorem d_Me_bringBack_1 : decode (am_c m_Me_bringBack) 1 = .ok (.getfield 9, 3) := by decide +kernel
theorem d_Me_bringBack_4 : decode (am_c m_Me_bringBack) 4 = .ok (.iconst 0, 1) := by decide +kernel
theorem d_Me_bringBack_5 : decode (am_c m_Me_bringBack) 5 = .ok (.aload_n 0, 1) := by decide +kernel
theorem d_Me_bringBack_6 : decode (am_c m_Me_bringBack) 6 = .ok (.getfield 24, 3) := by decide +kernel
theorem d_Me_bringBack_9 : decode (am_c m_Me_bringBack) 9 = .ok (.getfield 32, 3) := by decide +kernel
theorem d_Me_bringBack_12 : decode (am_c m_Me_bringBack) 12 = .ok (.iconst 0, 1) := by decide +kernel
theorem d_Me_bringBack_13 : decode (am_c m_Me_bringBack) 13 = .ok (.bipush 16, 2) := by decide +kernel
theorem d_Me_bringBack_15 : decode (am_c m_Me_bringBack) 15 = .ok (.invokestatic 35, 3) := by decide +kernel
theorem d_Me_bringBack_18 : decode (am_c m_Me_bringBack) 18 = .ok (.aload_n 0, 1) := by decide +kernel
theorem d_Me_bringBack_19 : decode (am_c m_Me_bringBack) 19 = .ok (.getfield 15, 3) := by decide +kernel
theorem d_Me_bringBack_22 : decode (am_c m_Me_bringBack) 22 = .ok (.iconst 0, 1) := by decide +kernel
theorem d_Me_bringBack_23 : decode (am_c m_Me_bringBack) 23 = .ok (.aload_n 0, 1) := by decide +kernel
theorem d_Me_bringBack_24 : decode (am_c m_Me_bringBack) 24 = .ok (.getfield 24, 3) := by decide +kernel
theorem d_Me_bringBack_27 : decode (am_c m_Me_bringBack) 27 = .ok (.getfield 41, 3) := by decide +kernel
theorem d_Me_bringBack_30 : decode (am_c m_Me_bringBack) 30 = .ok (.iconst 0, 1) := by decide +kernel
theorem d_Me_bringBack_31 : decode (am_c m_Me_bringBack) 31 = .ok (.bipush 8, 2) := by decide +kernel
theorem d_Me_bringBack_33 : decode (am_c m_Me_bringBack) 33 = .ok (.invokestatic 35, 3) := by decide +kernel
theorem d_Me_bringBack_36 : decode (am_c m_Me_bringBack) 36 = .ok (.aload_n 0, 1) := by decide +kernel
theorem d_Me_bringBack_37 : decode (am_c m_Me_bringBack) 37 = .ok (.getfield 18, 3) := by decide +kernel
theorem d_Me_bringBack_40 : decode (am_c m_Me_bringBack) 40 = .ok (.iconst 0, 1) := by decide +kernel
theorem d_Me_bringBack_41 : decode (am_c m_Me_bringBack) 41 = .ok (.aload_n 0, 1) := by decide +kernel
theorem d_Me_bringBack_42 : decode (am_c m_Me_bringBack) 42 = .ok (.getfield 28, 3) := by decide +kernel
theorem d_Me_bringBack_45 : decode (am_c m_Me_bringBack) 45 = .ok (.getfield 42, 3) := by decide +kernel
theorem d_Me_bringBack_48 : decode (am_c m_Me_bringBack) 48 = .ok (.iconst 0, 1) := by decide +kernel
theorem d_Me_bringBack_49 : decode (am_c m_Me_bringBack) 49 = .ok (.iconst 5, 1) := by decide +kernel
theorem d_Me_bringBack_50 : decode (am_c m_Me_bringBack) 50 = .ok (.invokestatic 35, 3) := by decide +kernel
theorem d_Me_bringBack_53 : decode (am_c m_Me_bringBack) 53 = .ok (.aload_n 0, 1) := by decide +kernel
theorem d_Me_bringBack_54 : decode (am_c m_Me_bringBack) 54 = .ok (.getfield 21, 3) := by decide +kernel
theorem d_Me_bringBack_57 : decode (am_c m_Me_bringBack) 57 = .ok (.iconst 0, 1) := by decide +kernel
theorem d_Me_bringBack_58 : decode (am_c m_Me_bringBack) 58 = .ok (.aload_n 0, 1) := by decide +kernel
theorem d_Me_bringBack_59 : decode (am_c m_Me_bringBack) 59 = .ok (.getfield 28, 3) := by decide +kernel
theorem d_Me_bringBack_62 : decode (am_c m_Me_bringBack) 62 = .ok (.getfield 45, 3) := by decide +kernel
theorem d_Me_bringBack_65 : decode (am_c m_Me_bringBack) 65 = .ok (.iconst 0, 1) := by decide +kernel
theorem d_Me_bringBack_66 : decode (am_c m_Me_bringBack) 66 = .ok (.bipush 6, 2) := by decide +kernel
theorem d_Me_bringBack_68 : decode (am_c m_Me_bringBack) 68 = .ok (.invokestatic 35, 3) := by decide +kernel
theorem d_Me_bringBack_71 : decode (am_c m_Me_bringBack) 71 = .ok (.return_, 1) := by decide +kernel
theorem d_Sc_append_0 : decode (am_c m_Sc_append) 0 = .ok (.iconst 0, 1) := by decide +kernel
theorem d_Sc_append_1 : decode (am_c m_Sc_append) 1 = .ok (.istore 4, 2) := by decide +kernel
theorem d_Sc_append_3 : decode (am_c m_Sc_append) 3 = .ok (.iload 4, 2) := by decide +kernel
theorem d_Sc_append_5 : decode (am_c m_Sc_append) 5 = .ok (.iload_n 3, 1) := by decide +kernel
theorem d_Sc_append_6 : decode (am_c m_Sc_append) 6 = .ok (.if_icmp .ge 50, 3) := by decide +kernel
theorem d_Sc_append_9 : decode (am_c m_Sc_append) 9 = .ok (.aload_n 0, 1) := by decide +kernel
theorem d_Sc_append_10 : decode (am_c m_Sc_append) 10 = .ok (.getfield 32, 3) := by decide +kernel
theorem d_Sc_append_13 : decode (am_c m_Sc_append) 13 = .ok (.sipush 160, 3) := by decide +kernel
theorem d_Sc_append_16 : decode (am_c m_Sc_append) 16 = .ok (.if_icmp .ge 40, 3) := by decide +kernel
theorem d_Sc_append_19 : decode (am_c m_Sc_append) 19 = .ok (.aload_n 0, 1) := by decide +kernel
theorem d_Sc_append_20 : decode (am_c m_Sc_append) 20 = .ok (.getfield 9, 3) := by decide +kernel
theorem d_Sc_append_23 : decode (am_c m_Sc_append) 23 = .ok (.aload_n 0, 1) := by decide +kernel
theorem d_Sc_append_24 : decode (am_c m_Sc_append) 24 = .ok (.getfield 32, 3) := by decide +kernel
theorem d_Sc_append_27 : decode (am_c m_Sc_append) 27 = .ok (.lload_n 1, 1) := by decide +kernel
theorem d_Sc_append_28 : decode (am_c m_Sc_append) 28 = .ok (.bipush 8, 2) := by decide +kernel
theorem d_Sc_append_30 : decode (am_c m_Sc_append) 30 = .ok (.iload 4, 2) := by decide +kernel
theorem d_Sc_append_32 : decode (am_c m_Sc_append) 32 = .ok (.imul, 1) := by decide +kernel
theorem d_Sc_append_33 : decode (am_c m_Sc_append) 33 = .ok (.lshr, 1) := by decide +kernel
theorem d_Sc_append_34 : decode (am_c m_Sc_append) 34 = .ok (.ldc2_w 36, 3) := by decide +kernel
theorem d_Sc_append_37 : decode (am_c m_Sc_append) 37 = .ok (.land, 1) := by decide +kernel
theorem d_Sc_append_38 : decode (am_c m_Sc_append) 38 = .ok (.l2i, 1) := by decide +kernel
theorem d_Sc_append_39 : decode (am_c m_Sc_append) 39 = .ok (.iastore, 1) := by decide +kernel
theorem d_Sc_append_40 : decode (am_c m_Sc_append) 40 = .ok (.aload_n 0, 1) := by decide +kernel
theorem d_Sc_append_41 : decode (am_c m_Sc_append) 41 = .ok (.dup, 1) := by decide +kernel
theorem d_Sc_append_42 : decode (am_c m_Sc_append) 42 = .ok (.getfield 32, 3) := by decide +kernel
theorem d_Sc_append_45 : decode (am_c m_Sc_append) 45 = .ok (.iconst 1, 1) := by decide +kernel
theorem d_Sc_append_46 : decode (am_c m_Sc_append) 46 = .ok (.iadd, 1) := by decide +kernel
theorem d_Sc_append_47 : decode (am_c m_Sc_append) 47 = .ok (.putfield 32, 3) := by decide +kernel
theorem d_Sc_append_50 : decode (am_c m_Sc_append) 50 = .ok (.iinc 4 1, 3) := by decide +kernel
theorem d_Sc_append_53 : decode (am_c m_Sc_append) 53 = .ok (.goto (-50), 3) := by decide +kernel
theorem d_Sc_append_56 : decode (am_c m_Sc_append) 56 = .ok (.return_, 1) := by decide +kernel
theorem d_Sc_read_0 : decode (am_c m_Sc_read) 0 = .ok (.aload_n 0, 1) := by decide +kernel
theorem d_Sc_read_1 : decode (am_c m_Sc_read) 1 = .ok (.iconst 0, 1) := by decide +kernel
theorem d_Sc_read_2 : decode (am_c m_Sc_read) 2 = .ok (.putfield 38, 3) := by decide +kernel
theorem d_Sc_read_5 : decode (am_c m_Sc_read) 5 = .ok (.aload_n 0, 1) := by decide +kernel
theorem d_Sc_read_6 : decode (am_c m_Sc_read) 6 = .ok (.iconst 0, 1) := by decide +kernel
theorem d_Sc_read_7 : decode (am_c m_Sc_read) 7 = .ok (.putfield 41, 3) := by decide +kernel
theorem d_Sc_read_10 : decode (am_c m_Sc_read) 10 = .ok (.aload_n 0, 1) := by decide +kernel
theorem d_Sc_read_11 : decode (am_c m_Sc_read) 11 = .ok (.invokevirtual 44, 3) := by decide +kernel
theorem d_Sc_read_14 : decode (am_c m_Sc_read) 14 = .ok (.aload_n 0, 1) := by decide +kernel
theorem d_Sc_read_15 : decode (am_c m_Sc_read) 15 = .ok (.getfield 41, 3) := by decide +kernel
theorem d_Sc_read_18 : decode (am_c m_Sc_read) 18 = .ok (.bipush 40, 2) := by decide +kernel
theorem d_Sc_read_20 : decode (am_c m_Sc_read) 20 = .ok (.if_icmp .ge 68, 3) := by decide +kernel
theorem d_Sc_read_23 : decode (am_c m_Sc_read) 23 = .ok (.aload_n 0, 1) := by decide +kernel
theorem d_Sc_read_24 : decode (am_c m_Sc_read) 24 = .ok (.invokevirtual 47, 3) := by decide +kernel
theorem d_Sc_read_27 : decode (am_c m_Sc_read) 27 = .ok (.ifCond .ne 8, 3) := by decide +kernel
theorem d_Sc_read_30 : decode (am_c m_Sc_read) 30 = .ok (.aload_n 0, 1) := by decide +kernel
theorem d_Sc_read_31 : decode (am_c m_Sc_read) 31 = .ok (.getfield 51, 3) := by decide +kernel
theorem d_Sc_read_34 : decode (am_c m_Sc_read) 34 = .ok (.ireturn, 1) := by decide +kernel
theorem d_Sc_read_35 : decode (am_c m_Sc_read) 35 = .ok (.aload_n 0, 1) := by decide +kernel
theorem d_Sc_read_36 : decode (am_c m_Sc_read) 36 = .ok (.dup, 1) := by decide +kernel
theorem d_Sc_read_37 : decode (am_c m_Sc_read) 37 = .ok (.getfield 41, 3) := by decide +kernel
theorem d_Sc_read_40 : decode (am_c m_Sc_read) 40 = .ok (.iconst 1, 1) := by decide +kernel
theorem d_Sc_read_41 : decode (am_c m_Sc_read) 41 = .ok (.iadd, 1) := by decide +kernel
theorem d_Sc_read_42 : decode (am_c m_Sc_read) 42 = .ok (.putfield 41, 3) := by decide +kernel
theorem d_Sc_read_45 : decode (am_c m_Sc_read) 45 = .ok (.aload_n 0, 1) := by decide +kernel
theorem d_Sc_read_46 : decode (am_c m_Sc_read) 46 = .ok (.getfield 54, 3) := by decide +kernel
theorem d_Sc_read_49 : decode (am_c m_Sc_read) 49 = .ok (.ifCond .ne 5, 3) := by decide +kernel
theorem d_Sc_read_52 : decode (am_c m_Sc_read) 52 = .ok (.iconst (-1), 1) := by decide +kernel
theorem d_Sc_read_53 : decode (am_c m_Sc_read) 53 = .ok (.ireturn, 1) := by decide +kernel
theorem d_Sc_read_54 : decode (am_c m_Sc_read) 54 = .ok (.aload_n 0, 1) := by decide +kernel
theorem d_Sc_read_55 : decode (am_c m_Sc_read) 55 = .ok (.getfield 54, 3) := by decide +kernel
theorem d_Sc_read_58 : decode (am_c m_Sc_read) 58 = .ok (.iconst 3, 1) := by decide +kernel
theorem d_Sc_read_59 : decode (am_c m_Sc_read) 59 = .ok (.if_icmp .ne 17, 3) := by decide +kernel
theorem d_Sc_read_62 : decode (am_c m_Sc_read) 62 = .ok (.aload_n 0, 1) := by decide +kernel
theorem d_Sc_read_63 : decode (am_c m_Sc_read) 63 = .ok (.getfield 9, 3) := by decide +kernel
theorem d_Sc_read_66 : decode (am_c m_Sc_read) 66 = .ok (.aload_n 0, 1) := by decide +kernel
theorem d_Sc_read_67 : decode (am_c m_Sc_read) 67 = .ok (.getfield 51, 3) := by decide +kernel
theorem d_Sc_read_70 : decode (am_c m_Sc_read) 70 = .ok (.iaload, 1) := by decide +kernel
theorem d_Sc_read_71 : decode (am_c m_Sc_read) 71 = .ok (.bipush 59, 2) := by decide +kernel
theorem d_Sc_read_73 : decode (am_c m_Sc_read) 73 = .ok (.if_icmp .eq 8, 3) := by decide +kernel
theorem d_Sc_read_76 : decode (am_c m_Sc_read) 76 = .ok (.aload_n 0, 1) := by decide +kernel
theorem d_Sc_read_77 : decode (am_c m_Sc_read) 77 = .ok (.getfield 51, 3) := by decide +kernel
theorem d_Sc_read_80 : decode (am_c m_Sc_read) 80 = .ok (.ireturn, 1) := by decide +kernel
theorem d_Sc_read_81 : decode (am_c m_Sc_read) 81 = .ok (.aload_n 0, 1) := by decide +kernel
theorem d_Sc_read_82 : decode (am_c m_Sc_read) 82 = .ok (.invokevirtual 44, 3) := by decide +kernel
theorem d_Sc_read_85 : decode (am_c m_Sc_read) 85 = .ok (.goto (-71), 3) := by decide +kernel
theorem d_Sc_read_88 : decode (am_c m_Sc_read) 88 = .ok (.aload_n 0, 1) := by decide +kernel
theorem d_Sc_read_89 : decode (am_c m_Sc_read) 89 = .ok (.getfield 51, 3) := by decide +kernel
theorem d_Sc_read_92 : decode (am_c m_Sc_read) 92 = .ok (.ireturn, 1) := by decide +kernel
theorem d_Sc_advance_0 : decode (am_c m_Sc_advance) 0 = .ok (.aload_n 0, 1) := by decide +kernel
theorem d_Sc_advance_1 : decode (am_c m_Sc_advance) 1 = .ok (.aload_n 0, 1) := by decide +kernel
theorem d_Sc_advance_2 : decode (am_c m_Sc_advance) 2 = .ok (.getfield 38, 3) := by decide +kernel
theorem d_Sc_advance_5 : decode (am_c m_Sc_advance) 5 = .ok (.putfield 51, 3) := by decide +kernel
theorem d_Sc_advance_8 : decode (am_c m_Sc_advance) 8 = .ok (.aload_n 0, 1) := by decide +kernel
theorem d_Sc_advance_9 : decode (am_c m_Sc_advance) 9 = .ok (.getfield 51, 3) := by decide +kernel
theorem d_Sc_advance_12 : decode (am_c m_Sc_advance) 12 = .ok (.aload_n 0, 1) := by decide +kernel
theorem d_Sc_advance_13 : decode (am_c m_Sc_advance) 13 = .ok (.getfield 32, 3) := by decide +kernel
theorem d_Sc_advance_16 : decode (am_c m_Sc_advance) 16 = .ok (.if_icmp .ge 30, 3) := by decide +kernel
theorem d_Sc_advance_19 : decode (am_c m_Sc_advance) 19 = .ok (.aload_n 0, 1) := by decide +kernel
theorem d_Sc_advance_20 : decode (am_c m_Sc_advance) 20 = .ok (.getfield 9, 3) := by decide +kernel
theorem d_Sc_advance_23 : decode (am_c m_Sc_advance) 23 = .ok (.aload_n 0, 1) := by decide +kernel
theorem d_Sc_advance_24 : decode (am_c m_Sc_advance) 24 = .ok (.getfield 51, 3) := by decide +kernel
theorem d_Sc_advance_27 : decode (am_c m_Sc_advance) 27 = .ok (.iaload, 1) := by decide +kernel
theorem d_Sc_advance_28 : decode (am_c m_Sc_advance) 28 = .ok (.bipush 32, 2) := by decide +kernel
theorem d_Sc_advance_30 : decode (am_c m_Sc_advance) 30 = .ok (.if_icmp .ne 16, 3) := by decide +kernel
theorem d_Sc_advance_33 : decode (am_c m_Sc_advance) 33 = .ok (.aload_n 0, 1) := by decide +kernel
theorem d_Sc_advance_34 : decode (am_c m_Sc_advance) 34 = .ok (.dup, 1) := by decide +kernel
theorem d_Sc_advance_35 : decode (am_c m_Sc_advance) 35 = .ok (.getfield 51, 3) := by decide +kernel
theorem d_Sc_advance_38 : decode (am_c m_Sc_advance) 38 = .ok (.iconst 1, 1) := by decide +kernel
theorem d_Sc_advance_39 : decode (am_c m_Sc_advance) 39 = .ok (.iadd, 1) := by decide +kernel
theorem d_Sc_advance_40 : decode (am_c m_Sc_advance) 40 = .ok (.putfield 51, 3) := by decide +kernel
theorem d_Sc_advance_43 : decode (am_c m_Sc_advance) 43 = .ok (.goto (-35), 3) := by decide +kernel
theorem d_Sc_advance_46 : decode (am_c m_Sc_advance) 46 = .ok (.aload_n 0, 1) := by decide +kernel
theorem d_Sc_advance_47 : decode (am_c m_Sc_advance) 47 = .ok (.aload_n 0, 1) := by decide +kernel
theorem d_Sc_advance_48 : decode (am_c m_Sc_advance) 48 = .ok (.aload_n 0, 1) := by decide +kernel
theorem d_Sc_advance_49 : decode (am_c m_Sc_advance) 49 = .ok (.getfield 51, 3) := by decide +kernel
theorem d_Sc_advance_52 : decode (am_c m_Sc_advance) 52 = .ok (.invokevirtual 120, 3) := by decide +kernel
theorem d_Sc_advance_55 : decode (am_c m_Sc_advance) 55 = .ok (.putfield 54, 3) := by decide +kernel
theorem d_Sc_advance_58 : decode (am_c m_Sc_advance) 58 = .ok (.aload_n 0, 1) := by decide +kernel
theorem d_Sc_advance_59 : decode (am_c m_Sc_advance) 59 = .ok (.aload_n 0, 1) := by decide +kernel
theorem d_Sc_advance_60 : decode (am_c m_Sc_advance) 60 = .ok (.getfield 51, 3) := by decide +kernel
theorem d_Sc_advance_63 : decode (am_c m_Sc_advance) 63 = .ok (.aload_n 0, 1) := by decide +kernel
theorem d_Sc_advance_64 : decode (am_c m_Sc_advance) 64 = .ok (.getfield 32, 3) := by decide +kernel
theorem d_Sc_advance_67 : decode (am_c m_Sc_advance) 67 = .ok (.if_icmp .ge 12, 3) := by decide +kernel
theorem d_Sc_advance_70 : decode (am_c m_Sc_advance) 70 = .ok (.aload_n 0, 1) := by decide +kernel
theorem d_Sc_advance_71 : decode (am_c m_Sc_advance) 71 = .ok (.getfield 51, 3) := by decide +kernel
theorem d_Sc_advance_74 : decode (am_c m_Sc_advance) 74 = .ok (.iconst 1, 1) := by decide +kernel
theorem d_Sc_advance_75 : decode (am_c m_Sc_advance) 75 = .ok (.iadd, 1) := by decide +kernel
theorem d_Sc_advance_76 : decode (am_c m_Sc_advance) 76 = .ok (.goto 7, 3) := by decide +kernel
theorem d_Sc_advance_79 : decode (am_c m_Sc_advance) 79 = .ok (.aload_n 0, 1) := by decide +kernel
theorem d_Sc_advance_80 : decode (am_c m_Sc_advance) 80 = .ok (.getfield 51, 3) := by decide +kernel
theorem d_Sc_advance_83 : decode (am_c m_Sc_advance) 83 = .ok (.putfield 38, 3) := by decide +kernel
theorem d_Sc_advance_86 : decode (am_c m_Sc_advance) 86 = .ok (.aload_n 0, 1) := by decide +kernel
theorem d_Sc_advance_87 : decode (am_c m_Sc_advance) 87 = .ok (.getfield 54, 3) := by decide +kernel
theorem d_Sc_advance_90 : decode (am_c m_Sc_advance) 90 = .ok (.iconst 3, 1) := by decide +kernel
theorem d_Sc_advance_91 : decode (am_c m_Sc_advance) 91 = .ok (.if_icmp .eq 42, 3) := by decide +kernel
theorem d_Sc_advance_94 : decode (am_c m_Sc_advance) 94 = .ok (.aload_n 0, 1) := by decide +kernel
theorem d_Sc_advance_95 : decode (am_c m_Sc_advance) 95 = .ok (.getfield 38, 3) := by decide +kernel
theorem d_Sc_advance_98 : decode (am_c m_Sc_advance) 98 = .ok (.aload_n 0, 1) := by decide +kernel
theorem d_Sc_advance_99 : decode (am_c m_Sc_advance) 99 = .ok (.getfield 32, 3) := by decide +kernel
theorem d_Sc_advance_102 : decode (am_c m_Sc_advance) 102 = .ok (.if_icmp .ge 31, 3) := by decide +kernel
theorem d_Sc_advance_105 : decode (am_c m_Sc_advance) 105 = .ok (.aload_n 0, 1) := by decide +kernel
theorem d_Sc_advance_106 : decode (am_c m_Sc_advance) 106 = .ok (.aload_n 0, 1) := by decide +kernel
theorem d_Sc_advance_107 : decode (am_c m_Sc_advance) 107 = .ok (.getfield 38, 3) := by decide +kernel
theorem d_Sc_advance_110 : decode (am_c m_Sc_advance) 110 = .ok (.invokevirtual 120, 3) := by decide +kernel
theorem d_Sc_advance_113 : decode (am_c m_Sc_advance) 113 = .ok (.aload_n 0, 1) := by decide +kernel
theorem d_Sc_advance_114 : decode (am_c m_Sc_advance) 114 = .ok (.getfield 54, 3) := by decide +kernel
theorem d_Sc_advance_117 : decode (am_c m_Sc_advance) 117 = .ok (.if_icmp .ne 16, 3) := by decide +kernel
theorem d_Sc_advance_120 : decode (am_c m_Sc_advance) 120 = .ok (.aload_n 0, 1) := by decide +kernel
theorem d_Sc_advance_121 : decode (am_c m_Sc_advance) 121 = .ok (.dup, 1) := by decide +kernel
theorem d_Sc_advance_122 : decode (am_c m_Sc_advance) 122 = .ok (.getfield 38, 3) := by decide +kernel
theorem d_Sc_advance_125 : decode (am_c m_Sc_advance) 125 = .ok (.iconst 1, 1) := by decide +kernel
theorem d_Sc_advance_126 : decode (am_c m_Sc_advance) 126 = .ok (.iadd, 1) := by decide +kernel
theorem d_Sc_advance_127 : decode (am_c m_Sc_advance) 127 = .ok (.putfield 38, 3) := by decide +kernel
theorem d_Sc_advance_130 : decode (am_c m_Sc_advance) 130 = .ok (.goto (-44), 3) := by decide +kernel
theorem d_Sc_advance_133 : decode (am_c m_Sc_advance) 133 = .ok (.aload_n 0, 1) := by decide +kernel
theorem d_Sc_advance_134 : decode (am_c m_Sc_advance) 134 = .ok (.aload_n 0, 1) := by decide +kernel
theorem d_Sc_advance_135 : decode (am_c m_Sc_advance) 135 = .ok (.getfield 54, 3) := by decide +kernel
theorem d_Sc_advance_138 : decode (am_c m_Sc_advance) 138 = .ok (.iconst 2, 1) := by decide +kernel
theorem d_Sc_advance_139 : decode (am_c m_Sc_advance) 139 = .ok (.if_icmp .ne 10, 3) := by decide +kernel
theorem d_Sc_advance_142 : decode (am_c m_Sc_advance) 142 = .ok (.aload_n 0, 1) := by decide +kernel
theorem d_Sc_advance_143 : decode (am_c m_Sc_advance) 143 = .ok (.invokevirtual 124, 3) := by decide +kernel
theorem d_Sc_advance_146 : decode (am_c m_Sc_advance) 146 = .ok (.goto 4, 3) := by decide +kernel
theorem d_Sc_advance_149 : decode (am_c m_Sc_advance) 149 = .ok (.iconst (-1), 1) := by decide +kernel
theorem d_Sc_advance_150 : decode (am_c m_Sc_advance) 150 = .ok (.putfield 102, 3) := by decide +kernel
theorem d_Sc_advance_153 : decode (am_c m_Sc_advance) 153 = .ok (.return_, 1) := by decide +kernel
theorem d_Sc_sortAt_0 : decode (am_c m_Sc_sortAt) 0 = .ok (.iload_n 1, 1) := by decide +kernel
theorem d_Sc_sortAt_1 : decode (am_c m_Sc_sortAt) 1 = .ok (.aload_n 0, 1) := by decide +kernel
theorem d_Sc_sortAt_2 : decode (am_c m_Sc_sortAt) 2 = .ok (.getfield 32, 3) := by decide +kernel
theorem d_Sc_sortAt_5 : decode (am_c m_Sc_sortAt) 5 = .ok (.if_icmp .lt 5, 3) := by decide +kernel
theorem d_Sc_sortAt_8 : decode (am_c m_Sc_sortAt) 8 = .ok (.iconst 0, 1) := by decide +kernel
theorem d_Sc_sortAt_9 : decode (am_c m_Sc_sortAt) 9 = .ok (.ireturn, 1) := by decide +kernel
theorem d_Sc_sortAt_10 : decode (am_c m_Sc_sortAt) 10 = .ok (.aload_n 0, 1) := by decide +kernel
theorem d_Sc_sortAt_11 : decode (am_c m_Sc_sortAt) 11 = .ok (.getfield 9, 3) := by decide +kernel
theorem d_Sc_sortAt_14 : decode (am_c m_Sc_sortAt) 14 = .ok (.iload_n 1, 1) := by decide +kernel
theorem d_Sc_sortAt_15 : decode (am_c m_Sc_sortAt) 15 = .ok (.iaload, 1) := by decide +kernel
theorem d_Sc_sortAt_16 : decode (am_c m_Sc_sortAt) 16 = .ok (.istore_n 2, 1) := by decide +kernel
theorem d_Sc_sortAt_17 : decode (am_c m_Sc_sortAt) 17 = .ok (.iload_n 2, 1) := by decide +kernel
theorem d_Sc_sortAt_18 : decode (am_c m_Sc_sortAt) 18 = .ok (.bipush 97, 2) := by decide +kernel
theorem d_Sc_sortAt_20 : decode (am_c m_Sc_sortAt) 20 = .ok (.if_icmp .lt 11, 3) := by decide +kernel
theorem d_Sc_sortAt_23 : decode (am_c m_Sc_sortAt) 23 = .ok (.iload_n 2, 1) := by decide +kernel
theorem d_Sc_sortAt_24 : decode (am_c m_Sc_sortAt) 24 = .ok (.bipush 122, 2) := by decide +kernel
theorem d_Sc_sortAt_26 : decode (am_c m_Sc_sortAt) 26 = .ok (.if_icmp .gt 5, 3) := by decide +kernel
theorem d_Sc_sortAt_29 : decode (am_c m_Sc_sortAt) 29 = .ok (.iconst 1, 1) := by decide +kernel
theorem d_Sc_sortAt_30 : decode (am_c m_Sc_sortAt) 30 = .ok (.ireturn, 1) := by decide +kernel
theorem d_Sc_sortAt_31 : decode (am_c m_Sc_sortAt) 31 = .ok (.iload_n 2, 1) := by decide +kernel
theorem d_Sc_sortAt_32 : decode (am_c m_Sc_sortAt) 32 = .ok (.bipush 48, 2) := by decide +kernel
theorem d_Sc_sortAt_34 : decode (am_c m_Sc_sortAt) 34 = .ok (.if_icmp .lt 13, 3) := by decide +kernel
theorem d_Sc_sortAt_37 : decode (am_c m_Sc_sortAt) 37 = .ok (.iload_n 2, 1) := by decide +kernel
theorem d_Sc_sortAt_38 : decode (am_c m_Sc_sortAt) 38 = .ok (.bipush 57, 2) := by decide +kernel
theorem d_Sc_sortAt_40 : decode (am_c m_Sc_sortAt) 40 = .ok (.if_icmp .gt 7, 3) := by decide +kernel
theorem d_Sc_sortAt_43 : decode (am_c m_Sc_sortAt) 43 = .ok (.iconst 2, 1) := by decide +kernel
theorem d_Sc_sortAt_44 : decode (am_c m_Sc_sortAt) 44 = .ok (.goto 4, 3) := by decide +kernel
theorem d_Sc_sortAt_47 : decode (am_c m_Sc_sortAt) 47 = .ok (.iconst 3, 1) := by decide +kernel
theorem d_Sc_sortAt_48 : decode (am_c m_Sc_sortAt) 48 = .ok (.ireturn, 1) := by decide +kernel
theorem d_Sc_numberHere_0 : decode (am_c m_Sc_numberHere) 0 = .ok (.aload_n 0, 1) := by decide +kernel
theorem d_Sc_numberHere_1 : decode (am_c m_Sc_numberHere) 1 = .ok (.getfield 38, 3) := by decide +kernel
theorem d_Sc_numberHere_4 : decode (am_c m_Sc_numberHere) 4 = .ok (.aload_n 0, 1) := by decide +kernel
theorem d_Sc_numberHere_5 : decode (am_c m_Sc_numberHere) 5 = .ok (.getfield 51, 3) := by decide +kernel
theorem d_Sc_numberHere_8 : decode (am_c m_Sc_numberHere) 8 = .ok (.isub, 1) := by decide +kernel
theorem d_Sc_numberHere_9 : decode (am_c m_Sc_numberHere) 9 = .ok (.iconst 4, 1) := by decide +kernel
theorem d_Sc_numberHere_10 : decode (am_c m_Sc_numberHere) 10 = .ok (.if_icmp .le 5, 3) := by decide +kernel
theorem d_Sc_numberHere_13 : decode (am_c m_Sc_numberHere) 13 = .ok (.iconst (-1), 1) := by decide +kernel
theorem d_Sc_numberHere_14 : decode (am_c m_Sc_numberHere) 14 = .ok (.ireturn, 1) := by decide +kernel
theorem d_Sc_numberHere_15 : decode (am_c m_Sc_numberHere) 15 = .ok (.iconst 0, 1) := by decide +kernel
theorem d_Sc_numberHere_16 : decode (am_c m_Sc_numberHere) 16 = .ok (.istore_n 1, 1) := by decide +kernel
theorem d_Sc_numberHere_17 : decode (am_c m_Sc_numberHere) 17 = .ok (.aload_n 0, 1) := by decide +kernel
theorem d_Sc_numberHere_18 : decode (am_c m_Sc_numberHere) 18 = .ok (.getfield 51, 3) := by decide +kernel
theorem d_Sc_numberHere_21 : decode (am_c m_Sc_numberHere) 21 = .ok (.istore_n 2, 1) := by decide +kernel
theorem d_Sc_numberHere_22 : decode (am_c m_Sc_numberHere) 22 = .ok (.iload_n 2, 1) := by decide +kernel
theorem d_Sc_numberHere_23 : decode (am_c m_Sc_numberHere) 23 = .ok (.aload_n 0, 1) := by decide +kernel
theorem d_Sc_numberHere_24 : decode (am_c m_Sc_numberHere) 24 = .ok (.getfield 38, 3) := by decide +kernel
theorem d_Sc_numberHere_27 : decode (am_c m_Sc_numberHere) 27 = .ok (.if_icmp .ge 24, 3) := by decide +kernel
theorem d_Sc_numberHere_30 : decode (am_c m_Sc_numberHere) 30 = .ok (.bipush 10, 2) := by decide +kernel
theorem d_Sc_numberHere_32 : decode (am_c m_Sc_numberHere) 32 = .ok (.iload_n 1, 1) := by decide +kernel
theorem d_Sc_numberHere_33 : decode (am_c m_Sc_numberHere) 33 = .ok (.imul, 1) := by decide +kernel
theorem d_Sc_numberHere_34 : decode (am_c m_Sc_numberHere) 34 = .ok (.aload_n 0, 1) := by decide +kernel
theorem d_Sc_numberHere_35 : decode (am_c m_Sc_numberHere) 35 = .ok (.getfield 9, 3) := by decide +kernel
theorem d_Sc_numberHere_38 : decode (am_c m_Sc_numberHere) 38 = .ok (.iload_n 2, 1) := by decide +kernel
theorem d_Sc_numberHere_39 : decode (am_c m_Sc_numberHere) 39 = .ok (.iaload, 1) := by decide +kernel
theorem d_Sc_numberHere_40 : decode (am_c m_Sc_numberHere) 40 = .ok (.iadd, 1) := by decide +kernel
theorem d_Sc_numberHere_41 : decode (am_c m_Sc_numberHere) 41 = .ok (.bipush 48, 2) := by decide +kernel
theorem d_Sc_numberHere_43 : decode (am_c m_Sc_numberHere) 43 = .ok (.isub, 1) := by decide +kernel
theorem d_Sc_numberHere_44 : decode (am_c m_Sc_numberHere) 44 = .ok (.istore_n 1, 1) := by decide +kernel
theorem d_Sc_numberHere_45 : decode (am_c m_Sc_numberHere) 45 = .ok (.iinc 2 1, 3) := by decide +kernel
theorem d_Sc_numberHere_48 : decode (am_c m_Sc_numberHere) 48 = .ok (.goto (-26), 3) := by decide +kernel
theorem d_Sc_numberHere_51 : decode (am_c m_Sc_numberHere) 51 = .ok (.iload_n 1, 1) := by decide +kernel
theorem d_Sc_numberHere_52 : decode (am_c m_Sc_numberHere) 52 = .ok (.ireturn, 1) := by decide +kernel
theorem d_Sc_readStatement_0 : decode (am_c m_Sc_readStatement) 0 = .ok (.aload_n 0, 1) := by decide +kernel
theorem d_Sc_readStatement_1 : decode (am_c m_Sc_readStatement) 1 = .ok (.invokevirtual 57, 3) := by decide +kernel
theorem d_Sc_readStatement_4 : decode (am_c m_Sc_readStatement) 4 = .ok (.istore_n 1, 1) := by decide +kernel
theorem d_Sc_readStatement_5 : decode (am_c m_Sc_readStatement) 5 = .ok (.iload_n 1, 1) := by decide +kernel
theorem d_Sc_readStatement_6 : decode (am_c m_Sc_readStatement) 6 = .ok (.iconst (-1), 1) := by decide +kernel
theorem d_Sc_readStatement_7 : decode (am_c m_Sc_readStatement) 7 = .ok (.if_icmp .ne 5, 3) := by decide +kernel
theorem d_Sc_readStatement_10 : decode (am_c m_Sc_readStatement) 10 = .ok (.iconst 0, 1) := by decide +kernel
theorem d_Sc_readStatement_11 : decode (am_c m_Sc_readStatement) 11 = .ok (.ireturn, 1) := by decide +kernel
theorem d_Sc_readStatement_12 : decode (am_c m_Sc_readStatement) 12 = .ok (.aload_n 0, 1) := by decide +kernel
theorem d_Sc_readStatement_13 : decode (am_c m_Sc_readStatement) 13 = .ok (.getfield 15, 3) := by decide +kernel
theorem d_Sc_readStatement_16 : decode (am_c m_Sc_readStatement) 16 = .ok (.aload_n 0, 1) := by decide +kernel
theorem d_Sc_readStatement_17 : decode (am_c m_Sc_readStatement) 17 = .ok (.getfield 41, 3) := by decide +kernel
theorem d_Sc_readStatement_20 : decode (am_c m_Sc_readStatement) 20 = .ok (.iload_n 1, 1) := by decide +kernel
theorem d_Sc_readStatement_21 : decode (am_c m_Sc_readStatement) 21 = .ok (.iastore, 1) := by decide +kernel
theorem d_Sc_readStatement_22 : decode (am_c m_Sc_readStatement) 22 = .ok (.aload_n 0, 1) := by decide +kernel
theorem d_Sc_readStatement_23 : decode (am_c m_Sc_readStatement) 23 = .ok (.invokevirtual 44, 3) := by decide +kernel
theorem d_Sc_readStatement_26 : decode (am_c m_Sc_readStatement) 26 = .ok (.iload_n 1, 1) := by decide +kernel
theorem d_Sc_readStatement_27 : decode (am_c m_Sc_readStatement) 27 = .ok (.tableswitch 136 0 3 #[29, 55, 63, 103], 29) := by decide +kernel
theorem d_Sc_readStatement_56 : decode (am_c m_Sc_readStatement) 56 = .ok (.aload_n 0, 1) := by decide +kernel
theorem d_Sc_readStatement_57 : decode (am_c m_Sc_readStatement) 57 = .ok (.iconst 0, 1) := by decide +kernel
theorem d_Sc_readStatement_58 : decode (am_c m_Sc_readStatement) 58 = .ok (.bipush 7, 2) := by decide +kernel
theorem d_Sc_readStatement_60 : decode (am_c m_Sc_readStatement) 60 = .ok (.invokevirtual 61, 3) := by decide +kernel
theorem d_Sc_readStatement_63 : decode (am_c m_Sc_readStatement) 63 = .ok (.ifCond .eq 17, 3) := by decide +kernel
theorem d_Sc_readStatement_66 : decode (am_c m_Sc_readStatement) 66 = .ok (.aload_n 0, 1) := by decide +kernel
theorem d_Sc_readStatement_67 : decode (am_c m_Sc_readStatement) 67 = .ok (.iconst 1, 1) := by decide +kernel
theorem d_Sc_readStatement_68 : decode (am_c m_Sc_readStatement) 68 = .ok (.bipush 60, 2) := by decide +kernel
theorem d_Sc_readStatement_70 : decode (am_c m_Sc_readStatement) 70 = .ok (.invokevirtual 65, 3) := by decide +kernel
theorem d_Sc_readStatement_73 : decode (am_c m_Sc_readStatement) 73 = .ok (.ifCond .eq 7, 3) := by decide +kernel
theorem d_Sc_readStatement_76 : decode (am_c m_Sc_readStatement) 76 = .ok (.iconst 1, 1) := by decide +kernel
theorem d_Sc_readStatement_77 : decode (am_c m_Sc_readStatement) 77 = .ok (.goto 4, 3) := by decide +kernel
theorem d_Sc_readStatement_80 : decode (am_c m_Sc_readStatement) 80 = .ok (.iconst 0, 1) := by decide +kernel
theorem d_Sc_readStatement_81 : decode (am_c m_Sc_readStatement) 81 = .ok (.ireturn, 1) := by decide +kernel
theorem d_Sc_readStatement_82 : decode (am_c m_Sc_readStatement) 82 = .ok (.aload_n 0, 1) := by decide +kernel
theorem d_Sc_readStatement_83 : decode (am_c m_Sc_readStatement) 83 = .ok (.iconst 1, 1) := by decide +kernel
theorem d_Sc_readStatement_84 : decode (am_c m_Sc_readStatement) 84 = .ok (.bipush 10, 2) := by decide +kernel
theorem d_Sc_readStatement_86 : decode (am_c m_Sc_readStatement) 86 = .ok (.invokevirtual 61, 3) := by decide +kernel
theorem d_Sc_readStatement_89 : decode (am_c m_Sc_readStatement) 89 = .ok (.ireturn, 1) := by decide +kernel
theorem d_Sc_readStatement_90 : decode (am_c m_Sc_readStatement) 90 = .ok (.aload_n 0, 1) := by decide +kernel
theorem d_Sc_readStatement_91 : decode (am_c m_Sc_readStatement) 91 = .ok (.iconst 0, 1) := by decide +kernel
theorem d_Sc_readStatement_92 : decode (am_c m_Sc_readStatement) 92 = .ok (.aload_n 0, 1) := by decide +kernel
theorem d_Sc_readStatement_93 : decode (am_c m_Sc_readStatement) 93 = .ok (.getfield 28, 3) := by decide +kernel
theorem d_Sc_readStatement_96 : decode (am_c m_Sc_readStatement) 96 = .ok (.getfield 68, 3) := by decide +kernel
theorem d_Sc_readStatement_99 : decode (am_c m_Sc_readStatement) 99 = .ok (.iconst 1, 1) := by decide +kernel
theorem d_Sc_readStatement_100 : decode (am_c m_Sc_readStatement) 100 = .ok (.isub, 1) := by decide +kernel
theorem d_Sc_readStatement_101 : decode (am_c m_Sc_readStatement) 101 = .ok (.invokevirtual 61, 3) := by decide +kernel
theorem d_Sc_readStatement_104 : decode (am_c m_Sc_readStatement) 104 = .ok (.ifCond .eq 24, 3) := by decide +kernel
theorem d_Sc_readStatement_107 : decode (am_c m_Sc_readStatement) 107 = .ok (.aload_n 0, 1) := by decide +kernel
theorem d_Sc_readStatement_108 : decode (am_c m_Sc_readStatement) 108 = .ok (.iconst 0, 1) := by decide +kernel
theorem d_Sc_readStatement_109 : decode (am_c m_Sc_readStatement) 109 = .ok (.aload_n 0, 1) := by decide +kernel
theorem d_Sc_readStatement_110 : decode (am_c m_Sc_readStatement) 110 = .ok (.getfield 24, 3) := by decide +kernel
theorem d_Sc_readStatement_113 : decode (am_c m_Sc_readStatement) 113 = .ok (.getfield 73, 3) := by decide +kernel
theorem d_Sc_readStatement_116 : decode (am_c m_Sc_readStatement) 116 = .ok (.iconst 1, 1) := by decide +kernel
theorem d_Sc_readStatement_117 : decode (am_c m_Sc_readStatement) 117 = .ok (.isub, 1) := by decide +kernel
theorem d_Sc_readStatement_118 : decode (am_c m_Sc_readStatement) 118 = .ok (.invokevirtual 65, 3) := by decide +kernel
theorem d_Sc_readStatement_121 : decode (am_c m_Sc_readStatement) 121 = .ok (.ifCond .eq 7, 3) := by decide +kernel
theorem d_Sc_readStatement_124 : decode (am_c m_Sc_readStatement) 124 = .ok (.iconst 1, 1) := by decide +kernel
theorem d_Sc_readStatement_125 : decode (am_c m_Sc_readStatement) 125 = .ok (.goto 4, 3) := by decide +kernel
theorem d_Sc_readStatement_128 : decode (am_c m_Sc_readStatement) 128 = .ok (.iconst 0, 1) := by decide +kernel
theorem d_Sc_readStatement_129 : decode (am_c m_Sc_readStatement) 129 = .ok (.ireturn, 1) := by decide +kernel
theorem d_Sc_readStatement_130 : decode (am_c m_Sc_readStatement) 130 = .ok (.aload_n 0, 1) := by decide +kernel
theorem d_Sc_readStatement_131 : decode (am_c m_Sc_readStatement) 131 = .ok (.iconst 0, 1) := by decide +kernel
theorem d_Sc_readStatement_132 : decode (am_c m_Sc_readStatement) 132 = .ok (.aload_n 0, 1) := by decide +kernel
theorem d_Sc_readStatement_133 : decode (am_c m_Sc_readStatement) 133 = .ok (.getfield 28, 3) := by decide +kernel
theorem d_Sc_readStatement_136 : decode (am_c m_Sc_readStatement) 136 = .ok (.getfield 78, 3) := by decide +kernel
theorem d_Sc_readStatement_139 : decode (am_c m_Sc_readStatement) 139 = .ok (.iconst 1, 1) := by decide +kernel
theorem d_Sc_readStatement_140 : decode (am_c m_Sc_readStatement) 140 = .ok (.isub, 1) := by decide +kernel
theorem d_Sc_readStatement_141 : decode (am_c m_Sc_readStatement) 141 = .ok (.invokevirtual 61, 3) := by decide +kernel
theorem d_Sc_readStatement_144 : decode (am_c m_Sc_readStatement) 144 = .ok (.ifCond .eq 17, 3) := by decide +kernel
theorem d_Sc_readStatement_147 : decode (am_c m_Sc_readStatement) 147 = .ok (.aload_n 0, 1) := by decide +kernel
theorem d_Sc_readStatement_148 : decode (am_c m_Sc_readStatement) 148 = .ok (.iconst 0, 1) := by decide +kernel
theorem d_Sc_readStatement_149 : decode (am_c m_Sc_readStatement) 149 = .ok (.bipush 99, 2) := by decide +kernel
theorem d_Sc_readStatement_151 : decode (am_c m_Sc_readStatement) 151 = .ok (.invokevirtual 65, 3) := by decide +kernel
theorem d_Sc_readStatement_154 : decode (am_c m_Sc_readStatement) 154 = .ok (.ifCond .eq 7, 3) := by decide +kernel
theorem d_Sc_readStatement_157 : decode (am_c m_Sc_readStatement) 157 = .ok (.iconst 1, 1) := by decide +kernel
theorem d_Sc_readStatement_158 : decode (am_c m_Sc_readStatement) 158 = .ok (.goto 4, 3) := by decide +kernel
theorem d_Sc_readStatement_161 : decode (am_c m_Sc_readStatement) 161 = .ok (.iconst 0, 1) := by decide +kernel
theorem d_Sc_readStatement_162 : decode (am_c m_Sc_readStatement) 162 = .ok (.ireturn, 1) := by decide +kernel
theorem d_Sc_readStatement_163 : decode (am_c m_Sc_readStatement) 163 = .ok (.aload_n 0, 1) := by decide +kernel
theorem d_Sc_readStatement_164 : decode (am_c m_Sc_readStatement) 164 = .ok (.iconst 0, 1) := by decide +kernel
theorem d_Sc_readStatement_165 : decode (am_c m_Sc_readStatement) 165 = .ok (.bipush 7, 2) := by decide +kernel
theorem d_Sc_readStatement_167 : decode (am_c m_Sc_readStatement) 167 = .ok (.invokevirtual 61, 3) := by decide +kernel
theorem d_Sc_readStatement_170 : decode (am_c m_Sc_readStatement) 170 = .ok (.ifCond .eq 14, 3) := by decide +kernel
theorem d_Sc_readStatement_173 : decode (am_c m_Sc_readStatement) 173 = .ok (.aload_n 0, 1) := by decide +kernel
theorem d_Sc_readStatement_174 : decode (am_c m_Sc_readStatement) 174 = .ok (.invokevirtual 81, 3) := by decide +kernel
theorem d_Sc_readStatement_177 : decode (am_c m_Sc_readStatement) 177 = .ok (.ifCond .eq 7, 3) := by decide +kernel
theorem d_Sc_readStatement_180 : decode (am_c m_Sc_readStatement) 180 = .ok (.iconst 1, 1) := by decide +kernel
theorem d_Sc_readStatement_181 : decode (am_c m_Sc_readStatement) 181 = .ok (.goto 4, 3) := by decide +kernel
theorem d_Sc_readStatement_184 : decode (am_c m_Sc_readStatement) 184 = .ok (.iconst 0, 1) := by decide +kernel
theorem d_Sc_readStatement_185 : decode (am_c m_Sc_readStatement) 185 = .ok (.ireturn, 1) := by decide +kernel
theorem d_Sc_verbHere_0 : decode (am_c m_Sc_verbHere) 0 = .ok (.iconst 0, 1) := by decide +kernel
theorem d_Sc_verbHere_1 : decode (am_c m_Sc_verbHere) 1 = .ok (.istore_n 1, 1) := by decide +kernel
theorem d_Sc_verbHere_2 : decode (am_c m_Sc_verbHere) 2 = .ok (.iload_n 1, 1) := by decide +kernel
theorem d_Sc_verbHere_3 : decode (am_c m_Sc_verbHere) 3 = .ok (.iconst 5, 1) := by decide +kernel
theorem d_Sc_verbHere_4 : decode (am_c m_Sc_verbHere) 4 = .ok (.if_icmp .ge 22, 3) := by decide +kernel
theorem d_Sc_verbHere_7 : decode (am_c m_Sc_verbHere) 7 = .ok (.aload_n 0, 1) := by decide +kernel
theorem d_Sc_verbHere_8 : decode (am_c m_Sc_verbHere) 8 = .ok (.iload_n 1, 1) := by decide +kernel
theorem d_Sc_verbHere_9 : decode (am_c m_Sc_verbHere) 9 = .ok (.invokestatic 84, 3) := by decide +kernel
theorem d_Sc_verbHere_12 : decode (am_c m_Sc_verbHere) 12 = .ok (.invokevirtual 88, 3) := by decide +kernel
theorem d_Sc_verbHere_15 : decode (am_c m_Sc_verbHere) 15 = .ok (.ifCond .eq 5, 3) := by decide +kernel
theorem d_Sc_verbHere_18 : decode (am_c m_Sc_verbHere) 18 = .ok (.iload_n 1, 1) := by decide +kernel
theorem d_Sc_verbHere_19 : decode (am_c m_Sc_verbHere) 19 = .ok (.ireturn, 1) := by decide +kernel
theorem d_Sc_verbHere_20 : decode (am_c m_Sc_verbHere) 20 = .ok (.iinc 1 1, 3) := by decide +kernel
theorem d_Sc_verbHere_23 : decode (am_c m_Sc_verbHere) 23 = .ok (.goto (-21), 3) := by decide +kernel
theorem d_Sc_verbHere_26 : decode (am_c m_Sc_verbHere) 26 = .ok (.iconst (-1), 1) := by decide +kernel
theorem d_Sc_verbHere_27 : decode (am_c m_Sc_verbHere) 27 = .ok (.ireturn, 1) := by decide +kernel
theorem d_Sc_wordOf_0 : decode (am_c m_Sc_wordOf) 0 = .ok (.iload_n 0, 1) := by decide +kernel
theorem d_Sc_wordOf_1 : decode (am_c m_Sc_wordOf) 1 = .ok (.tableswitch 43 0 3 #[31, 34, 37, 40], 31) := by decide +kernel
theorem d_Sc_wordOf_32 : decode (am_c m_Sc_wordOf) 32 = .ok (.ldc 92, 2) := by decide +kernel
theorem d_Sc_wordOf_34 : decode (am_c m_Sc_wordOf) 34 = .ok (.areturn, 1) := by decide +kernel
theorem d_Sc_wordOf_35 : decode (am_c m_Sc_wordOf) 35 = .ok (.ldc 94, 2) := by decide +kernel
theorem d_Sc_wordOf_37 : decode (am_c m_Sc_wordOf) 37 = .ok (.areturn, 1) := by decide +kernel
theorem d_Sc_wordOf_38 : decode (am_c m_Sc_wordOf) 38 = .ok (.ldc 96, 2) := by decide +kernel
theorem d_Sc_wordOf_40 : decode (am_c m_Sc_wordOf) 40 = .ok (.areturn, 1) := by decide +kernel
theorem d_Sc_wordOf_41 : decode (am_c m_Sc_wordOf) 41 = .ok (.ldc 98, 2) := by decide +kernel
theorem d_Sc_wordOf_43 : decode (am_c m_Sc_wordOf) 43 = .ok (.areturn, 1) := by decide +kernel
theorem d_Sc_wordOf_44 : decode (am_c m_Sc_wordOf) 44 = .ok (.ldc 100, 2) := by decide +kernel
theorem d_Sc_wordOf_46 : decode (am_c m_Sc_wordOf) 46 = .ok (.areturn, 1) := by decide +kernel
theorem d_Sc_isWord_0 : decode (am_c m_Sc_isWord) 0 = .ok (.aload_n 0, 1) := by decide +kernel
theorem d_Sc_isWord_1 : decode (am_c m_Sc_isWord) 1 = .ok (.getfield 54, 3) := by decide +kernel
theorem d_Sc_isWord_4 : decode (am_c m_Sc_isWord) 4 = .ok (.iconst 1, 1) := by decide +kernel
theorem d_Sc_isWord_5 : decode (am_c m_Sc_isWord) 5 = .ok (.if_icmp .ne 19, 3) := by decide +kernel
theorem d_Sc_isWord_8 : decode (am_c m_Sc_isWord) 8 = .ok (.aload_n 0, 1) := by decide +kernel
theorem d_Sc_isWord_9 : decode (am_c m_Sc_isWord) 9 = .ok (.getfield 38, 3) := by decide +kernel
theorem d_Sc_isWord_12 : decode (am_c m_Sc_isWord) 12 = .ok (.aload_n 0, 1) := by decide +kernel
theorem d_Sc_isWord_13 : decode (am_c m_Sc_isWord) 13 = .ok (.getfield 51, 3) := by decide +kernel
theorem d_Sc_isWord_16 : decode (am_c m_Sc_isWord) 16 = .ok (.isub, 1) := by decide +kernel
theorem d_Sc_isWord_17 : decode (am_c m_Sc_isWord) 17 = .ok (.aload_n 1, 1) := by decide +kernel
theorem d_Sc_isWord_18 : decode (am_c m_Sc_isWord) 18 = .ok (.invokevirtual 112, 3) := by decide +kernel
theorem d_Sc_isWord_21 : decode (am_c m_Sc_isWord) 21 = .ok (.if_icmp .eq 5, 3) := by decide +kernel
theorem d_Sc_isWord_24 : decode (am_c m_Sc_isWord) 24 = .ok (.iconst 0, 1) := by decide +kernel
theorem d_Sc_isWord_25 : decode (am_c m_Sc_isWord) 25 = .ok (.ireturn, 1) := by decide +kernel
theorem d_Sc_isWord_26 : decode (am_c m_Sc_isWord) 26 = .ok (.iconst 0, 1) := by decide +kernel
theorem d_Sc_isWord_27 : decode (am_c m_Sc_isWord) 27 = .ok (.istore_n 2, 1) := by decide +kernel
theorem d_Sc_isWord_28 : decode (am_c m_Sc_isWord) 28 = .ok (.iload_n 2, 1) := by decide +kernel
theorem d_Sc_isWord_29 : decode (am_c m_Sc_isWord) 29 = .ok (.aload_n 1, 1) := by decide +kernel
theorem d_Sc_isWord_30 : decode (am_c m_Sc_isWord) 30 = .ok (.invokevirtual 112, 3) := by decide +kernel
theorem d_Sc_isWord_33 : decode (am_c m_Sc_isWord) 33 = .ok (.if_icmp .ge 30, 3) := by decide +kernel
theorem d_Sc_isWord_36 : decode (am_c m_Sc_isWord) 36 = .ok (.aload_n 0, 1) := by decide +kernel
theorem d_Sc_isWord_37 : decode (am_c m_Sc_isWord) 37 = .ok (.getfield 9, 3) := by decide +kernel
theorem d_Sc_isWord_40 : decode (am_c m_Sc_isWord) 40 = .ok (.aload_n 0, 1) := by decide +kernel
theorem d_Sc_isWord_41 : decode (am_c m_Sc_isWord) 41 = .ok (.getfield 51, 3) := by decide +kernel
theorem d_Sc_isWord_44 : decode (am_c m_Sc_isWord) 44 = .ok (.iload_n 2, 1) := by decide +kernel
theorem d_Sc_isWord_45 : decode (am_c m_Sc_isWord) 45 = .ok (.iadd, 1) := by decide +kernel
theorem d_Sc_isWord_46 : decode (am_c m_Sc_isWord) 46 = .ok (.iaload, 1) := by decide +kernel
theorem d_Sc_isWord_47 : decode (am_c m_Sc_isWord) 47 = .ok (.aload_n 1, 1) := by decide +kernel
theorem d_Sc_isWord_48 : decode (am_c m_Sc_isWord) 48 = .ok (.iload_n 2, 1) := by decide +kernel
theorem d_Sc_isWord_49 : decode (am_c m_Sc_isWord) 49 = .ok (.invokevirtual 116, 3) := by decide +kernel
theorem d_Sc_isWord_52 : decode (am_c m_Sc_isWord) 52 = .ok (.if_icmp .eq 5, 3) := by decide +kernel
theorem d_Sc_isWord_55 : decode (am_c m_Sc_isWord) 55 = .ok (.iconst 0, 1) := by decide +kernel
theorem d_Sc_isWord_56 : decode (am_c m_Sc_isWord) 56 = .ok (.ireturn, 1) := by decide +kernel
theorem d_Sc_isWord_57 : decode (am_c m_Sc_isWord) 57 = .ok (.iinc 2 1, 3) := by decide +kernel
theorem d_Sc_isWord_60 : decode (am_c m_Sc_isWord) 60 = .ok (.goto (-32), 3) := by decide +kernel
theorem d_Sc_isWord_63 : decode (am_c m_Sc_isWord) 63 = .ok (.iconst 1, 1) := by decide +kernel
theorem d_Sc_isWord_64 : decode (am_c m_Sc_isWord) 64 = .ok (.ireturn, 1) := by decide +kernel
theorem d_St_length_0 : decode (am_c m_St_length) 0 = .ok (.aload_n 0, 1) := by decide +kernel
theorem d_St_length_1 : decode (am_c m_St_length) 1 = .ok (.getfield 9, 3) := by decide +kernel
theorem d_St_length_4 : decode (am_c m_St_length) 4 = .ok (.arraylength, 1) := by decide +kernel
theorem d_St_length_5 : decode (am_c m_St_length) 5 = .ok (.aload_n 0, 1) := by decide +kernel
theorem d_St_length_6 : decode (am_c m_St_length) 6 = .ok (.invokevirtual 335, 3) := by decide +kernel
theorem d_St_length_9 : decode (am_c m_St_length) 9 = .ok (.ishr, 1) := by decide +kernel
theorem d_St_length_10 : decode (am_c m_St_length) 10 = .ok (.ireturn, 1) := by decide +kernel
theorem d_St_coder_0 : decode (am_c m_St_coder) 0 = .ok (.getstatic 38, 3) := by decide +kernel
theorem d_St_coder_3 : decode (am_c m_St_coder) 3 = .ok (.ifCond .eq 10, 3) := by decide +kernel
theorem d_St_coder_6 : decode (am_c m_St_coder) 6 = .ok (.aload_n 0, 1) := by decide +kernel
theorem d_St_coder_7 : decode (am_c m_St_coder) 7 = .ok (.getfield 15, 3) := by decide +kernel
theorem d_St_coder_10 : decode (am_c m_St_coder) 10 = .ok (.goto 4, 3) := by decide +kernel
theorem d_St_coder_13 : decode (am_c m_St_coder) 13 = .ok (.iconst 1, 1) := by decide +kernel
theorem d_St_coder_14 : decode (am_c m_St_coder) 14 = .ok (.ireturn, 1) := by decide +kernel
theorem d_St_charAt_0 : decode (am_c m_St_charAt) 0 = .ok (.aload_n 0, 1) := by decide +kernel
theorem d_St_charAt_1 : decode (am_c m_St_charAt) 1 = .ok (.invokevirtual 492, 3) := by decide +kernel
theorem d_St_charAt_4 : decode (am_c m_St_charAt) 4 = .ok (.ifCond .eq 12, 3) := by decide +kernel
theorem d_St_charAt_7 : decode (am_c m_St_charAt) 7 = .ok (.aload_n 0, 1) := by decide +kernel
theorem d_St_charAt_8 : decode (am_c m_St_charAt) 8 = .ok (.getfield 9, 3) := by decide +kernel
theorem d_St_charAt_11 : decode (am_c m_St_charAt) 11 = .ok (.iload_n 1, 1) := by decide +kernel
theorem d_St_charAt_12 : decode (am_c m_St_charAt) 12 = .ok (.invokestatic 495, 3) := by decide +kernel
theorem d_St_charAt_15 : decode (am_c m_St_charAt) 15 = .ok (.ireturn, 1) := by decide +kernel
theorem d_St_charAt_16 : decode (am_c m_St_charAt) 16 = .ok (.aload_n 0, 1) := by decide +kernel
theorem d_St_charAt_17 : decode (am_c m_St_charAt) 17 = .ok (.getfield 9, 3) := by decide +kernel
theorem d_St_charAt_20 : decode (am_c m_St_charAt) 20 = .ok (.iload_n 1, 1) := by decide +kernel
theorem d_St_charAt_21 : decode (am_c m_St_charAt) 21 = .ok (.invokestatic 498, 3) := by decide +kernel
theorem d_St_charAt_24 : decode (am_c m_St_charAt) 24 = .ok (.ireturn, 1) := by decide +kernel
theorem d_St_isLatin1_0 : decode (am_c m_St_isLatin1) 0 = .ok (.getstatic 38, 3) := by decide +kernel
theorem d_St_isLatin1_3 : decode (am_c m_St_isLatin1) 3 = .ok (.ifCond .eq 14, 3) := by decide +kernel
theorem d_St_isLatin1_6 : decode (am_c m_St_isLatin1) 6 = .ok (.aload_n 0, 1) := by decide +kernel
theorem d_St_isLatin1_7 : decode (am_c m_St_isLatin1) 7 = .ok (.getfield 15, 3) := by decide +kernel
theorem d_St_isLatin1_10 : decode (am_c m_St_isLatin1) 10 = .ok (.ifCond .ne 7, 3) := by decide +kernel
theorem d_St_isLatin1_13 : decode (am_c m_St_isLatin1) 13 = .ok (.iconst 1, 1) := by decide +kernel
theorem d_St_isLatin1_14 : decode (am_c m_St_isLatin1) 14 = .ok (.goto 4, 3) := by decide +kernel
theorem d_St_isLatin1_17 : decode (am_c m_St_isLatin1) 17 = .ok (.iconst 0, 1) := by decide +kernel
theorem d_St_isLatin1_18 : decode (am_c m_St_isLatin1) 18 = .ok (.ireturn, 1) := by decide +kernel
theorem d_L1_charAt_0 : decode (am_c m_L1_charAt) 0 = .ok (.iload_n 1, 1) := by decide +kernel
theorem d_L1_charAt_1 : decode (am_c m_L1_charAt) 1 = .ok (.aload_n 0, 1) := by decide +kernel
theorem d_L1_charAt_2 : decode (am_c m_L1_charAt) 2 = .ok (.arraylength, 1) := by decide +kernel
theorem d_L1_charAt_3 : decode (am_c m_L1_charAt) 3 = .ok (.invokestatic 9, 3) := by decide +kernel
theorem d_L1_charAt_6 : decode (am_c m_L1_charAt) 6 = .ok (.aload_n 0, 1) := by decide +kernel
theorem d_L1_charAt_7 : decode (am_c m_L1_charAt) 7 = .ok (.iload_n 1, 1) := by decide +kernel
theorem d_L1_charAt_8 : decode (am_c m_L1_charAt) 8 = .ok (.baload, 1) := by decide +kernel
theorem d_L1_charAt_9 : decode (am_c m_L1_charAt) 9 = .ok (.sipush 255, 3) := by decide +kernel
theorem d_L1_charAt_12 : decode (am_c m_L1_charAt) 12 = .ok (.iand, 1) := by decide +kernel
theorem d_L1_charAt_13 : decode (am_c m_L1_charAt) 13 = .ok (.i2c, 1) := by decide +kernel
theorem d_L1_charAt_14 : decode (am_c m_L1_charAt) 14 = .ok (.ireturn, 1) := by decide +kernel
theorem d_St_checkIndex_0 : decode (am_c m_St_checkIndex) 0 = .ok (.iload_n 0, 1) := by decide +kernel
theorem d_St_checkIndex_1 : decode (am_c m_St_checkIndex) 1 = .ok (.iload_n 1, 1) := by decide +kernel
theorem d_St_checkIndex_2 : decode (am_c m_St_checkIndex) 2 = .ok (.getstatic 1053, 3) := by decide +kernel
theorem d_St_checkIndex_5 : decode (am_c m_St_checkIndex) 5 = .ok (.invokestatic 1059, 3) := by decide +kernel
theorem d_St_checkIndex_8 : decode (am_c m_St_checkIndex) 8 = .ok (.pop, 1) := by decide +kernel
theorem d_St_checkIndex_9 : decode (am_c m_St_checkIndex) 9 = .ok (.return_, 1) := by decide +kernel
theorem d_Pc_checkIndex_0 : decode (am_c m_Pc_checkIndex) 0 = .ok (.iload_n 0, 1) := by decide +kernel
theorem d_Pc_checkIndex_1 : decode (am_c m_Pc_checkIndex) 1 = .ok (.ifCond .lt 8, 3) := by decide +kernel
theorem d_Pc_checkIndex_4 : decode (am_c m_Pc_checkIndex) 4 = .ok (.iload_n 0, 1) := by decide +kernel
theorem d_Pc_checkIndex_5 : decode (am_c m_Pc_checkIndex) 5 = .ok (.iload_n 1, 1) := by decide +kernel
theorem d_Pc_checkIndex_6 : decode (am_c m_Pc_checkIndex) 6 = .ok (.if_icmp .lt 10, 3) := by decide +kernel
theorem d_Pc_checkIndex_9 : decode (am_c m_Pc_checkIndex) 9 = .ok (.aload_n 2, 1) := by decide +kernel
theorem d_Pc_checkIndex_10 : decode (am_c m_Pc_checkIndex) 10 = .ok (.iload_n 0, 1) := by decide +kernel
theorem d_Pc_checkIndex_11 : decode (am_c m_Pc_checkIndex) 11 = .ok (.iload_n 1, 1) := by decide +kernel
theorem d_Pc_checkIndex_12 : decode (am_c m_Pc_checkIndex) 12 = .ok (.invokestatic 95, 3) := by decide +kernel
theorem d_Pc_checkIndex_15 : decode (am_c m_Pc_checkIndex) 15 = .ok (.athrow, 1) := by decide +kernel
theorem d_Pc_checkIndex_16 : decode (am_c m_Pc_checkIndex) 16 = .ok (.iload_n 0, 1) := by decide +kernel
theorem d_Pc_checkIndex_17 : decode (am_c m_Pc_checkIndex) 17 = .ok (.ireturn, 1) := by decide +kernel
theorem d_Sc_readFirst_0 : decode (am_c m_Sc_readFirst) 0 = .ok (.aload_n 0, 1) := by decide +kernel
theorem d_Sc_readFirst_1 : decode (am_c m_Sc_readFirst) 1 = .ok (.getfield 18, 3) := by decide +kernel
theorem d_Sc_readFirst_4 : decode (am_c m_Sc_readFirst) 4 = .ok (.aload_n 0, 1) := by decide +kernel
theorem d_Sc_readFirst_5 : decode (am_c m_Sc_readFirst) 5 = .ok (.getfield 41, 3) := by decide +kernel
theorem d_Sc_readFirst_8 : decode (am_c m_Sc_readFirst) 8 = .ok (.aload_n 0, 1) := by decide +kernel
theorem d_Sc_readFirst_9 : decode (am_c m_Sc_readFirst) 9 = .ok (.getfield 102, 3) := by decide +kernel
theorem d_Sc_readFirst_12 : decode (am_c m_Sc_readFirst) 12 = .ok (.iastore, 1) := by decide +kernel
theorem d_Sc_readFirst_13 : decode (am_c m_Sc_readFirst) 13 = .ok (.aload_n 0, 1) := by decide +kernel
theorem d_Sc_readFirst_14 : decode (am_c m_Sc_readFirst) 14 = .ok (.iload_n 1, 1) := by decide +kernel
theorem d_Sc_readFirst_15 : decode (am_c m_Sc_readFirst) 15 = .ok (.iload_n 2, 1) := by decide +kernel
theorem d_Sc_readFirst_16 : decode (am_c m_Sc_readFirst) 16 = .ok (.invokevirtual 105, 3) := by decide +kernel
theorem d_Sc_readFirst_19 : decode (am_c m_Sc_readFirst) 19 = .ok (.ireturn, 1) := by decide +kernel
theorem d_Sc_passNumber_0 : decode (am_c m_Sc_passNumber) 0 = .ok (.aload_n 0, 1) := by decide +kernel
theorem d_Sc_passNumber_1 : decode (am_c m_Sc_passNumber) 1 = .ok (.getfield 54, 3) := by decide +kernel
theorem d_Sc_passNumber_4 : decode (am_c m_Sc_passNumber) 4 = .ok (.iconst 2, 1) := by decide +kernel
theorem d_Sc_passNumber_5 : decode (am_c m_Sc_passNumber) 5 = .ok (.if_icmp .ne 19, 3) := by decide +kernel
theorem d_Sc_passNumber_8 : decode (am_c m_Sc_passNumber) 8 = .ok (.aload_n 0, 1) := by decide +kernel
theorem d_Sc_passNumber_9 : decode (am_c m_Sc_passNumber) 9 = .ok (.getfield 102, 3) := by decide +kernel
theorem d_Sc_passNumber_12 : decode (am_c m_Sc_passNumber) 12 = .ok (.iload_n 1, 1) := by decide +kernel
theorem d_Sc_passNumber_13 : decode (am_c m_Sc_passNumber) 13 = .ok (.if_icmp .lt 11, 3) := by decide +kernel
theorem d_Sc_passNumber_16 : decode (am_c m_Sc_passNumber) 16 = .ok (.aload_n 0, 1) := by decide +kernel
theorem d_Sc_passNumber_17 : decode (am_c m_Sc_passNumber) 17 = .ok (.getfield 102, 3) := by decide +kernel
theorem d_Sc_passNumber_20 : decode (am_c m_Sc_passNumber) 20 = .ok (.iload_n 2, 1) := by decide +kernel
theorem d_Sc_passNumber_21 : decode (am_c m_Sc_passNumber) 21 = .ok (.if_icmp .le 5, 3) := by decide +kernel
theorem d_Sc_passNumber_24 : decode (am_c m_Sc_passNumber) 24 = .ok (.iconst 0, 1) := by decide +kernel
theorem d_Sc_passNumber_25 : decode (am_c m_Sc_passNumber) 25 = .ok (.ireturn, 1) := by decide +kernel
theorem d_Sc_passNumber_26 : decode (am_c m_Sc_passNumber) 26 = .ok (.aload_n 0, 1) := by decide +kernel
theorem d_Sc_passNumber_27 : decode (am_c m_Sc_passNumber) 27 = .ok (.invokevirtual 44, 3) := by decide +kernel
theorem d_Sc_passNumber_30 : decode (am_c m_Sc_passNumber) 30 = .ok (.iconst 1, 1) := by decide +kernel
theorem d_Sc_passNumber_31 : decode (am_c m_Sc_passNumber) 31 = .ok (.ireturn, 1) := by decide +kernel
theorem d_Sc_readSecond_0 : decode (am_c m_Sc_readSecond) 0 = .ok (.aload_n 0, 1) := by decide +kernel
theorem d_Sc_readSecond_1 : decode (am_c m_Sc_readSecond) 1 = .ok (.getfield 21, 3) := by decide +kernel
theorem d_Sc_readSecond_4 : decode (am_c m_Sc_readSecond) 4 = .ok (.aload_n 0, 1) := by decide +kernel
theorem d_Sc_readSecond_5 : decode (am_c m_Sc_readSecond) 5 = .ok (.getfield 41, 3) := by decide +kernel
theorem d_Sc_readSecond_8 : decode (am_c m_Sc_readSecond) 8 = .ok (.aload_n 0, 1) := by decide +kernel
theorem d_Sc_readSecond_9 : decode (am_c m_Sc_readSecond) 9 = .ok (.getfield 102, 3) := by decide +kernel
theorem d_Sc_readSecond_12 : decode (am_c m_Sc_readSecond) 12 = .ok (.iastore, 1) := by decide +kernel
theorem d_Sc_readSecond_13 : decode (am_c m_Sc_readSecond) 13 = .ok (.aload_n 0, 1) := by decide +kernel
theorem d_Sc_readSecond_14 : decode (am_c m_Sc_readSecond) 14 = .ok (.iload_n 1, 1) := by decide +kernel
theorem d_Sc_readSecond_15 : decode (am_c m_Sc_readSecond) 15 = .ok (.iload_n 2, 1) := by decide +kernel
theorem d_Sc_readSecond_16 : decode (am_c m_Sc_readSecond) 16 = .ok (.invokevirtual 105, 3) := by decide +kernel
theorem d_Sc_readSecond_19 : decode (am_c m_Sc_readSecond) 19 = .ok (.ireturn, 1) := by decide +kernel
theorem d_Sc_readCells_0 : decode (am_c m_Sc_readCells) 0 = .ok (.iconst 0, 1) := by decide +kernel
theorem d_Sc_readCells_1 : decode (am_c m_Sc_readCells) 1 = .ok (.istore_n 1, 1) := by decide +kernel
theorem d_Sc_readCells_2 : decode (am_c m_Sc_readCells) 2 = .ok (.aload_n 0, 1) := by decide +kernel
theorem d_Sc_readCells_3 : decode (am_c m_Sc_readCells) 3 = .ok (.ldc 108, 2) := by decide +kernel
theorem d_Sc_readCells_5 : decode (am_c m_Sc_readCells) 5 = .ok (.invokevirtual 88, 3) := by decide +kernel
theorem d_Sc_readCells_8 : decode (am_c m_Sc_readCells) 8 = .ok (.istore_n 2, 1) := by decide +kernel
theorem d_Sc_readCells_9 : decode (am_c m_Sc_readCells) 9 = .ok (.iload_n 2, 1) := by decide +kernel
theorem d_Sc_readCells_10 : decode (am_c m_Sc_readCells) 10 = .ok (.ifCond .ne 5, 3) := by decide +kernel
theorem d_Sc_readCells_13 : decode (am_c m_Sc_readCells) 13 = .ok (.iconst 0, 1) := by decide +kernel
theorem d_Sc_readCells_14 : decode (am_c m_Sc_readCells) 14 = .ok (.ireturn, 1) := by decide +kernel
theorem d_Sc_readCells_15 : decode (am_c m_Sc_readCells) 15 = .ok (.iconst 0, 1) := by decide +kernel
theorem d_Sc_readCells_16 : decode (am_c m_Sc_readCells) 16 = .ok (.istore_n 3, 1) := by decide +kernel
theorem d_Sc_readCells_17 : decode (am_c m_Sc_readCells) 17 = .ok (.iload_n 3, 1) := by decide +kernel
theorem d_Sc_readCells_18 : decode (am_c m_Sc_readCells) 18 = .ok (.sipush 160, 3) := by decide +kernel
theorem d_Sc_readCells_21 : decode (am_c m_Sc_readCells) 21 = .ok (.if_icmp .ge 56, 3) := by decide +kernel
theorem d_Sc_readCells_24 : decode (am_c m_Sc_readCells) 24 = .ok (.iload_n 2, 1) := by decide +kernel
theorem d_Sc_readCells_25 : decode (am_c m_Sc_readCells) 25 = .ok (.ifCond .eq 52, 3) := by decide +kernel
theorem d_Sc_readCells_28 : decode (am_c m_Sc_readCells) 28 = .ok (.aload_n 0, 1) := by decide +kernel
theorem d_Sc_readCells_29 : decode (am_c m_Sc_readCells) 29 = .ok (.invokevirtual 44, 3) := by decide +kernel
theorem d_Sc_readCells_32 : decode (am_c m_Sc_readCells) 32 = .ok (.aload_n 0, 1) := by decide +kernel
theorem d_Sc_readCells_33 : decode (am_c m_Sc_readCells) 33 = .ok (.getfield 102, 3) := by decide +kernel
theorem d_Sc_readCells_36 : decode (am_c m_Sc_readCells) 36 = .ok (.istore 4, 2) := by decide +kernel
theorem d_Sc_readCells_38 : decode (am_c m_Sc_readCells) 38 = .ok (.aload_n 0, 1) := by decide +kernel
theorem d_Sc_readCells_39 : decode (am_c m_Sc_readCells) 39 = .ok (.iconst 0, 1) := by decide +kernel
theorem d_Sc_readCells_40 : decode (am_c m_Sc_readCells) 40 = .ok (.aload_n 0, 1) := by decide +kernel
theorem d_Sc_readCells_41 : decode (am_c m_Sc_readCells) 41 = .ok (.getfield 24, 3) := by decide +kernel
theorem d_Sc_readCells_44 : decode (am_c m_Sc_readCells) 44 = .ok (.getfield 73, 3) := by decide +kernel
theorem d_Sc_readCells_47 : decode (am_c m_Sc_readCells) 47 = .ok (.iconst 1, 1) := by decide +kernel
theorem d_Sc_readCells_48 : decode (am_c m_Sc_readCells) 48 = .ok (.isub, 1) := by decide +kernel
theorem d_Sc_readCells_49 : decode (am_c m_Sc_readCells) 49 = .ok (.invokevirtual 105, 3) := by decide +kernel
theorem d_Sc_readCells_52 : decode (am_c m_Sc_readCells) 52 = .ok (.ifCond .ne 5, 3) := by decide +kernel
theorem d_Sc_readCells_55 : decode (am_c m_Sc_readCells) 55 = .ok (.iconst 0, 1) := by decide +kernel
theorem d_Sc_readCells_56 : decode (am_c m_Sc_readCells) 56 = .ok (.ireturn, 1) := by decide +kernel
theorem d_Sc_readCells_57 : decode (am_c m_Sc_readCells) 57 = .ok (.iload_n 1, 1) := by decide +kernel
theorem d_Sc_readCells_58 : decode (am_c m_Sc_readCells) 58 = .ok (.iconst 1, 1) := by decide +kernel
theorem d_Sc_readCells_59 : decode (am_c m_Sc_readCells) 59 = .ok (.iload 4, 2) := by decide +kernel
theorem d_Sc_readCells_61 : decode (am_c m_Sc_readCells) 61 = .ok (.ishl, 1) := by decide +kernel
theorem d_Sc_readCells_62 : decode (am_c m_Sc_readCells) 62 = .ok (.ior, 1) := by decide +kernel
theorem d_Sc_readCells_63 : decode (am_c m_Sc_readCells) 63 = .ok (.istore_n 1, 1) := by decide +kernel
theorem d_Sc_readCells_64 : decode (am_c m_Sc_readCells) 64 = .ok (.aload_n 0, 1) := by decide +kernel
theorem d_Sc_readCells_65 : decode (am_c m_Sc_readCells) 65 = .ok (.ldc 110, 2) := by decide +kernel
theorem d_Sc_readCells_67 : decode (am_c m_Sc_readCells) 67 = .ok (.invokevirtual 88, 3) := by decide +kernel
theorem d_Sc_readCells_70 : decode (am_c m_Sc_readCells) 70 = .ok (.istore_n 2, 1) := by decide +kernel
theorem d_Sc_readCells_71 : decode (am_c m_Sc_readCells) 71 = .ok (.iinc 3 1, 3) := by decide +kernel
theorem d_Sc_readCells_74 : decode (am_c m_Sc_readCells) 74 = .ok (.goto (-57), 3) := by decide +kernel
theorem d_Sc_readCells_77 : decode (am_c m_Sc_readCells) 77 = .ok (.aload_n 0, 1) := by decide +kernel
theorem d_Sc_readCells_78 : decode (am_c m_Sc_readCells) 78 = .ok (.getfield 21, 3) := by decide +kernel
theorem d_Sc_readCells_81 : decode (am_c m_Sc_readCells) 81 = .ok (.aload_n 0, 1) := by decide +kernel
theorem d_Sc_readCells_82 : decode (am_c m_Sc_readCells) 82 = .ok (.getfield 41, 3) := by decide +kernel
theorem d_Sc_readCells_85 : decode (am_c m_Sc_readCells) 85 = .ok (.iload_n 1, 1) := by decide +kernel
theorem d_Sc_readCells_86 : decode (am_c m_Sc_readCells) 86 = .ok (.iastore, 1) := by decide +kernel
theorem d_Sc_readCells_87 : decode (am_c m_Sc_readCells) 87 = .ok (.iconst 1, 1) := by decide +kernel
theorem d_Sc_readCells_88 : decode (am_c m_Sc_readCells) 88 = .ok (.ireturn, 1) := by decide +kernel
