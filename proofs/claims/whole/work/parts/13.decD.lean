/-! ===== what the bytes are ===== -/
theorem d_Mo_init_0 : decode (am_c m_Mo_init) 0 = .ok (.aload_n 0, 1) := by decide +kernel
theorem d_Mo_init_1 : decode (am_c m_Mo_init) 1 = .ok (.invokespecial 1, 3) := by decide +kernel
theorem d_Mo_init_4 : decode (am_c m_Mo_init) 4 = .ok (.aload_n 0, 1) := by decide +kernel
theorem d_Mo_init_5 : decode (am_c m_Mo_init) 5 = .ok (.iconst 4, 1) := by decide +kernel
theorem d_Mo_init_6 : decode (am_c m_Mo_init) 6 = .ok (.putfield 7, 3) := by decide +kernel
theorem d_Mo_init_9 : decode (am_c m_Mo_init) 9 = .ok (.aload_n 0, 1) := by decide +kernel
theorem d_Mo_init_10 : decode (am_c m_Mo_init) 10 = .ok (.iconst 3, 1) := by decide +kernel
theorem d_Mo_init_11 : decode (am_c m_Mo_init) 11 = .ok (.putfield 13, 3) := by decide +kernel
theorem d_Mo_init_14 : decode (am_c m_Mo_init) 14 = .ok (.aload_n 0, 1) := by decide +kernel
theorem d_Mo_init_15 : decode (am_c m_Mo_init) 15 = .ok (.bipush 16, 2) := by decide +kernel
theorem d_Mo_init_17 : decode (am_c m_Mo_init) 17 = .ok (.newarray .int, 2) := by decide +kernel
theorem d_Mo_init_19 : decode (am_c m_Mo_init) 19 = .ok (.putfield 16, 3) := by decide +kernel
theorem d_Mo_init_22 : decode (am_c m_Mo_init) 22 = .ok (.aload_n 0, 1) := by decide +kernel
theorem d_Mo_init_23 : decode (am_c m_Mo_init) 23 = .ok (.bipush 8, 2) := by decide +kernel
theorem d_Mo_init_25 : decode (am_c m_Mo_init) 25 = .ok (.newarray .int, 2) := by decide +kernel
theorem d_Mo_init_27 : decode (am_c m_Mo_init) 27 = .ok (.putfield 20, 3) := by decide +kernel
theorem d_Mo_init_30 : decode (am_c m_Mo_init) 30 = .ok (.aload_n 0, 1) := by decide +kernel
theorem d_Mo_init_31 : decode (am_c m_Mo_init) 31 = .ok (.bipush 17, 2) := by decide +kernel
theorem d_Mo_init_33 : decode (am_c m_Mo_init) 33 = .ok (.putfield 23, 3) := by decide +kernel
theorem d_Mo_init_36 : decode (am_c m_Mo_init) 36 = .ok (.aload_n 0, 1) := by decide +kernel
theorem d_Mo_init_37 : decode (am_c m_Mo_init) 37 = .ok (.bipush 6, 2) := by decide +kernel
theorem d_Mo_init_39 : decode (am_c m_Mo_init) 39 = .ok (.newarray .int, 2) := by decide +kernel
theorem d_Mo_init_41 : decode (am_c m_Mo_init) 41 = .ok (.putfield 26, 3) := by decide +kernel
theorem d_Mo_init_44 : decode (am_c m_Mo_init) 44 = .ok (.aload_n 0, 1) := by decide +kernel
theorem d_Mo_init_45 : decode (am_c m_Mo_init) 45 = .ok (.bipush 6, 2) := by decide +kernel
theorem d_Mo_init_47 : decode (am_c m_Mo_init) 47 = .ok (.newarray .int, 2) := by decide +kernel
theorem d_Mo_init_49 : decode (am_c m_Mo_init) 49 = .ok (.putfield 29, 3) := by decide +kernel
theorem d_Mo_init_52 : decode (am_c m_Mo_init) 52 = .ok (.aload_n 0, 1) := by decide +kernel
theorem d_Mo_init_53 : decode (am_c m_Mo_init) 53 = .ok (.iconst 5, 1) := by decide +kernel
theorem d_Mo_init_54 : decode (am_c m_Mo_init) 54 = .ok (.newarray .int, 2) := by decide +kernel
theorem d_Mo_init_56 : decode (am_c m_Mo_init) 56 = .ok (.putfield 32, 3) := by decide +kernel
theorem d_Mo_init_59 : decode (am_c m_Mo_init) 59 = .ok (.aload_n 0, 1) := by decide +kernel
theorem d_Mo_init_60 : decode (am_c m_Mo_init) 60 = .ok (.iconst 5, 1) := by decide +kernel
theorem d_Mo_init_61 : decode (am_c m_Mo_init) 61 = .ok (.newarray .int, 2) := by decide +kernel
theorem d_Mo_init_63 : decode (am_c m_Mo_init) 63 = .ok (.putfield 35, 3) := by decide +kernel
theorem d_Mo_init_66 : decode (am_c m_Mo_init) 66 = .ok (.aload_n 0, 1) := by decide +kernel
theorem d_Mo_init_67 : decode (am_c m_Mo_init) 67 = .ok (.bipush 12, 2) := by decide +kernel
theorem d_Mo_init_69 : decode (am_c m_Mo_init) 69 = .ok (.newarray .int, 2) := by decide +kernel
theorem d_Mo_init_71 : decode (am_c m_Mo_init) 71 = .ok (.putfield 38, 3) := by decide +kernel
theorem d_Mo_init_74 : decode (am_c m_Mo_init) 74 = .ok (.aload_n 0, 1) := by decide +kernel
theorem d_Mo_init_75 : decode (am_c m_Mo_init) 75 = .ok (.bipush 12, 2) := by decide +kernel
theorem d_Mo_init_77 : decode (am_c m_Mo_init) 77 = .ok (.newarray .int, 2) := by decide +kernel
theorem d_Mo_init_79 : decode (am_c m_Mo_init) 79 = .ok (.putfield 41, 3) := by decide +kernel
theorem d_Mo_init_82 : decode (am_c m_Mo_init) 82 = .ok (.aload_n 0, 1) := by decide +kernel
theorem d_Mo_init_83 : decode (am_c m_Mo_init) 83 = .ok (.bipush 12, 2) := by decide +kernel
theorem d_Mo_init_85 : decode (am_c m_Mo_init) 85 = .ok (.newarray .int, 2) := by decide +kernel
theorem d_Mo_init_87 : decode (am_c m_Mo_init) 87 = .ok (.putfield 44, 3) := by decide +kernel
theorem d_Mo_init_90 : decode (am_c m_Mo_init) 90 = .ok (.aload_n 0, 1) := by decide +kernel
theorem d_Mo_init_91 : decode (am_c m_Mo_init) 91 = .ok (.bipush 40, 2) := by decide +kernel
theorem d_Mo_init_93 : decode (am_c m_Mo_init) 93 = .ok (.newarray .int, 2) := by decide +kernel
theorem d_Mo_init_95 : decode (am_c m_Mo_init) 95 = .ok (.putfield 47, 3) := by decide +kernel
theorem d_Mo_init_98 : decode (am_c m_Mo_init) 98 = .ok (.aload_n 0, 1) := by decide +kernel
theorem d_Mo_init_99 : decode (am_c m_Mo_init) 99 = .ok (.bipush 40, 2) := by decide +kernel
theorem d_Mo_init_101 : decode (am_c m_Mo_init) 101 = .ok (.newarray .int, 2) := by decide +kernel
theorem d_Mo_init_103 : decode (am_c m_Mo_init) 103 = .ok (.putfield 50, 3) := by decide +kernel
theorem d_Mo_init_106 : decode (am_c m_Mo_init) 106 = .ok (.aload_n 0, 1) := by decide +kernel
theorem d_Mo_init_107 : decode (am_c m_Mo_init) 107 = .ok (.bipush 40, 2) := by decide +kernel
theorem d_Mo_init_109 : decode (am_c m_Mo_init) 109 = .ok (.newarray .int, 2) := by decide +kernel
theorem d_Mo_init_111 : decode (am_c m_Mo_init) 111 = .ok (.putfield 53, 3) := by decide +kernel
theorem d_Mo_init_114 : decode (am_c m_Mo_init) 114 = .ok (.aload_n 0, 1) := by decide +kernel
theorem d_Mo_init_115 : decode (am_c m_Mo_init) 115 = .ok (.bipush 40, 2) := by decide +kernel
theorem d_Mo_init_117 : decode (am_c m_Mo_init) 117 = .ok (.newarray .int, 2) := by decide +kernel
theorem d_Mo_init_119 : decode (am_c m_Mo_init) 119 = .ok (.putfield 56, 3) := by decide +kernel
theorem d_Mo_init_122 : decode (am_c m_Mo_init) 122 = .ok (.aload_n 0, 1) := by decide +kernel
theorem d_Mo_init_123 : decode (am_c m_Mo_init) 123 = .ok (.bipush 12, 2) := by decide +kernel
theorem d_Mo_init_125 : decode (am_c m_Mo_init) 125 = .ok (.newarray .int, 2) := by decide +kernel
theorem d_Mo_init_127 : decode (am_c m_Mo_init) 127 = .ok (.putfield 59, 3) := by decide +kernel
theorem d_Mo_init_130 : decode (am_c m_Mo_init) 130 = .ok (.aload_n 0, 1) := by decide +kernel
theorem d_Mo_init_131 : decode (am_c m_Mo_init) 131 = .ok (.bipush 12, 2) := by decide +kernel
theorem d_Mo_init_133 : decode (am_c m_Mo_init) 133 = .ok (.newarray .int, 2) := by decide +kernel
theorem d_Mo_init_135 : decode (am_c m_Mo_init) 135 = .ok (.putfield 62, 3) := by decide +kernel
theorem d_Mo_init_138 : decode (am_c m_Mo_init) 138 = .ok (.aload_n 0, 1) := by decide +kernel
theorem d_Mo_init_139 : decode (am_c m_Mo_init) 139 = .ok (.bipush 12, 2) := by decide +kernel
theorem d_Mo_init_141 : decode (am_c m_Mo_init) 141 = .ok (.newarray .boolean, 2) := by decide +kernel
theorem d_Mo_init_143 : decode (am_c m_Mo_init) 143 = .ok (.putfield 65, 3) := by decide +kernel
theorem d_Mo_init_146 : decode (am_c m_Mo_init) 146 = .ok (.aload_n 0, 1) := by decide +kernel
theorem d_Mo_init_147 : decode (am_c m_Mo_init) 147 = .ok (.bipush 16, 2) := by decide +kernel
theorem d_Mo_init_149 : decode (am_c m_Mo_init) 149 = .ok (.newarray .int, 2) := by decide +kernel
theorem d_Mo_init_151 : decode (am_c m_Mo_init) 151 = .ok (.putfield 69, 3) := by decide +kernel
theorem d_Mo_init_154 : decode (am_c m_Mo_init) 154 = .ok (.aload_n 0, 1) := by decide +kernel
theorem d_Mo_init_155 : decode (am_c m_Mo_init) 155 = .ok (.sipush 160, 3) := by decide +kernel
theorem d_Mo_init_158 : decode (am_c m_Mo_init) 158 = .ok (.newarray .int, 2) := by decide +kernel
theorem d_Mo_init_160 : decode (am_c m_Mo_init) 160 = .ok (.putfield 72, 3) := by decide +kernel
theorem d_Mo_init_163 : decode (am_c m_Mo_init) 163 = .ok (.aload_n 0, 1) := by decide +kernel
theorem d_Mo_init_164 : decode (am_c m_Mo_init) 164 = .ok (.bipush 96, 2) := by decide +kernel
theorem d_Mo_init_166 : decode (am_c m_Mo_init) 166 = .ok (.newarray .int, 2) := by decide +kernel
theorem d_Mo_init_168 : decode (am_c m_Mo_init) 168 = .ok (.putfield 75, 3) := by decide +kernel
theorem d_Mo_init_171 : decode (am_c m_Mo_init) 171 = .ok (.aload_n 0, 1) := by decide +kernel
theorem d_Mo_init_172 : decode (am_c m_Mo_init) 172 = .ok (.bipush 8, 2) := by decide +kernel
theorem d_Mo_init_174 : decode (am_c m_Mo_init) 174 = .ok (.newarray .int, 2) := by decide +kernel
theorem d_Mo_init_176 : decode (am_c m_Mo_init) 176 = .ok (.putfield 78, 3) := by decide +kernel
theorem d_Mo_init_179 : decode (am_c m_Mo_init) 179 = .ok (.aload_n 0, 1) := by decide +kernel
theorem d_Mo_init_180 : decode (am_c m_Mo_init) 180 = .ok (.bipush 8, 2) := by decide +kernel
theorem d_Mo_init_182 : decode (am_c m_Mo_init) 182 = .ok (.newarray .int, 2) := by decide +kernel
theorem d_Mo_init_184 : decode (am_c m_Mo_init) 184 = .ok (.putfield 81, 3) := by decide +kernel
theorem d_Mo_init_187 : decode (am_c m_Mo_init) 187 = .ok (.aload_n 0, 1) := by decide +kernel
theorem d_Mo_init_188 : decode (am_c m_Mo_init) 188 = .ok (.sipush 160, 3) := by decide +kernel
theorem d_Mo_init_191 : decode (am_c m_Mo_init) 191 = .ok (.newarray .long, 2) := by decide +kernel
theorem d_Mo_init_193 : decode (am_c m_Mo_init) 193 = .ok (.putfield 84, 3) := by decide +kernel
theorem d_Mo_init_196 : decode (am_c m_Mo_init) 196 = .ok (.aload_n 0, 1) := by decide +kernel
theorem d_Mo_init_197 : decode (am_c m_Mo_init) 197 = .ok (.bipush 8, 2) := by decide +kernel
theorem d_Mo_init_199 : decode (am_c m_Mo_init) 199 = .ok (.newarray .int, 2) := by decide +kernel
theorem d_Mo_init_201 : decode (am_c m_Mo_init) 201 = .ok (.putfield 88, 3) := by decide +kernel
theorem d_Mo_init_204 : decode (am_c m_Mo_init) 204 = .ok (.aload_n 0, 1) := by decide +kernel
theorem d_Mo_init_205 : decode (am_c m_Mo_init) 205 = .ok (.sipush 160, 3) := by decide +kernel
theorem d_Mo_init_208 : decode (am_c m_Mo_init) 208 = .ok (.newarray .int, 2) := by decide +kernel
theorem d_Mo_init_210 : decode (am_c m_Mo_init) 210 = .ok (.putfield 91, 3) := by decide +kernel
theorem d_Mo_init_213 : decode (am_c m_Mo_init) 213 = .ok (.aload_n 0, 1) := by decide +kernel
theorem d_Mo_init_214 : decode (am_c m_Mo_init) 214 = .ok (.sipush 160, 3) := by decide +kernel
theorem d_Mo_init_217 : decode (am_c m_Mo_init) 217 = .ok (.newarray .int, 2) := by decide +kernel
theorem d_Mo_init_219 : decode (am_c m_Mo_init) 219 = .ok (.putfield 94, 3) := by decide +kernel
theorem d_Mo_init_222 : decode (am_c m_Mo_init) 222 = .ok (.aload_n 0, 1) := by decide +kernel
theorem d_Mo_init_223 : decode (am_c m_Mo_init) 223 = .ok (.sipush 160, 3) := by decide +kernel
theorem d_Mo_init_226 : decode (am_c m_Mo_init) 226 = .ok (.newarray .int, 2) := by decide +kernel
theorem d_Mo_init_228 : decode (am_c m_Mo_init) 228 = .ok (.putfield 97, 3) := by decide +kernel
theorem d_Mo_init_231 : decode (am_c m_Mo_init) 231 = .ok (.aload_n 0, 1) := by decide +kernel
theorem d_Mo_init_232 : decode (am_c m_Mo_init) 232 = .ok (.sipush 160, 3) := by decide +kernel
theorem d_Mo_init_235 : decode (am_c m_Mo_init) 235 = .ok (.newarray .int, 2) := by decide +kernel
theorem d_Mo_init_237 : decode (am_c m_Mo_init) 237 = .ok (.putfield 100, 3) := by decide +kernel
theorem d_Mo_init_240 : decode (am_c m_Mo_init) 240 = .ok (.aload_n 0, 1) := by decide +kernel
theorem d_Mo_init_241 : decode (am_c m_Mo_init) 241 = .ok (.bipush 16, 2) := by decide +kernel
theorem d_Mo_init_243 : decode (am_c m_Mo_init) 243 = .ok (.newarray .int, 2) := by decide +kernel
theorem d_Mo_init_245 : decode (am_c m_Mo_init) 245 = .ok (.putfield 103, 3) := by decide +kernel
theorem d_Mo_init_248 : decode (am_c m_Mo_init) 248 = .ok (.aload_n 0, 1) := by decide +kernel
theorem d_Mo_init_249 : decode (am_c m_Mo_init) 249 = .ok (.bipush 8, 2) := by decide +kernel
theorem d_Mo_init_251 : decode (am_c m_Mo_init) 251 = .ok (.newarray .int, 2) := by decide +kernel
theorem d_Mo_init_253 : decode (am_c m_Mo_init) 253 = .ok (.putfield 106, 3) := by decide +kernel
theorem d_Mo_init_256 : decode (am_c m_Mo_init) 256 = .ok (.aload_n 0, 1) := by decide +kernel
theorem d_Mo_init_257 : decode (am_c m_Mo_init) 257 = .ok (.bipush 6, 2) := by decide +kernel
theorem d_Mo_init_259 : decode (am_c m_Mo_init) 259 = .ok (.newarray .int, 2) := by decide +kernel
theorem d_Mo_init_261 : decode (am_c m_Mo_init) 261 = .ok (.putfield 109, 3) := by decide +kernel
theorem d_Mo_init_264 : decode (am_c m_Mo_init) 264 = .ok (.aload_n 0, 1) := by decide +kernel
theorem d_Mo_init_265 : decode (am_c m_Mo_init) 265 = .ok (.iconst 5, 1) := by decide +kernel
theorem d_Mo_init_266 : decode (am_c m_Mo_init) 266 = .ok (.newarray .int, 2) := by decide +kernel
theorem d_Mo_init_268 : decode (am_c m_Mo_init) 268 = .ok (.putfield 112, 3) := by decide +kernel
theorem d_Mo_init_271 : decode (am_c m_Mo_init) 271 = .ok (.aload_n 0, 1) := by decide +kernel
theorem d_Mo_init_272 : decode (am_c m_Mo_init) 272 = .ok (.bipush 40, 2) := by decide +kernel
theorem d_Mo_init_274 : decode (am_c m_Mo_init) 274 = .ok (.newarray .int, 2) := by decide +kernel
theorem d_Mo_init_276 : decode (am_c m_Mo_init) 276 = .ok (.putfield 115, 3) := by decide +kernel
theorem d_Mo_init_279 : decode (am_c m_Mo_init) 279 = .ok (.iconst 0, 1) := by decide +kernel
theorem d_Mo_init_280 : decode (am_c m_Mo_init) 280 = .ok (.istore_n 1, 1) := by decide +kernel
theorem d_Mo_init_281 : decode (am_c m_Mo_init) 281 = .ok (.iload_n 1, 1) := by decide +kernel
theorem d_Mo_init_282 : decode (am_c m_Mo_init) 282 = .ok (.bipush 8, 2) := by decide +kernel
theorem d_Mo_init_284 : decode (am_c m_Mo_init) 284 = .ok (.if_icmp .ge 17, 3) := by decide +kernel
theorem d_Mo_init_287 : decode (am_c m_Mo_init) 287 = .ok (.aload_n 0, 1) := by decide +kernel
theorem d_Mo_init_288 : decode (am_c m_Mo_init) 288 = .ok (.getfield 20, 3) := by decide +kernel
theorem d_Mo_init_291 : decode (am_c m_Mo_init) 291 = .ok (.iload_n 1, 1) := by decide +kernel
theorem d_Mo_init_292 : decode (am_c m_Mo_init) 292 = .ok (.bipush 10, 2) := by decide +kernel
theorem d_Mo_init_294 : decode (am_c m_Mo_init) 294 = .ok (.iastore, 1) := by decide +kernel
theorem d_Mo_init_295 : decode (am_c m_Mo_init) 295 = .ok (.iinc 1 1, 3) := by decide +kernel
theorem d_Mo_init_298 : decode (am_c m_Mo_init) 298 = .ok (.goto (-17), 3) := by decide +kernel
theorem d_Mo_init_301 : decode (am_c m_Mo_init) 301 = .ok (.return_, 1) := by decide +kernel
theorem d_Mo_ground_0 : decode (am_c m_Mo_ground) 0 = .ok (.iload_n 1, 1) := by decide +kernel
theorem d_Mo_ground_1 : decode (am_c m_Mo_ground) 1 = .ok (.iconst 2, 1) := by decide +kernel
theorem d_Mo_ground_2 : decode (am_c m_Mo_ground) 2 = .ok (.iconst 4, 1) := by decide +kernel
theorem d_Mo_ground_3 : decode (am_c m_Mo_ground) 3 = .ok (.invokestatic 122, 3) := by decide +kernel
theorem d_Mo_ground_6 : decode (am_c m_Mo_ground) 6 = .ok (.ifCond .eq 12, 3) := by decide +kernel
theorem d_Mo_ground_9 : decode (am_c m_Mo_ground) 9 = .ok (.iload_n 2, 1) := by decide +kernel
theorem d_Mo_ground_10 : decode (am_c m_Mo_ground) 10 = .ok (.iconst 2, 1) := by decide +kernel
theorem d_Mo_ground_11 : decode (am_c m_Mo_ground) 11 = .ok (.iconst 4, 1) := by decide +kernel
theorem d_Mo_ground_12 : decode (am_c m_Mo_ground) 12 = .ok (.invokestatic 122, 3) := by decide +kernel
theorem d_Mo_ground_15 : decode (am_c m_Mo_ground) 15 = .ok (.ifCond .ne 6, 3) := by decide +kernel
theorem d_Mo_ground_18 : decode (am_c m_Mo_ground) 18 = .ok (.bipush (-3), 2) := by decide +kernel
theorem d_Mo_ground_20 : decode (am_c m_Mo_ground) 20 = .ok (.ireturn, 1) := by decide +kernel
theorem d_Mo_ground_21 : decode (am_c m_Mo_ground) 21 = .ok (.aload_n 0, 1) := by decide +kernel
theorem d_Mo_ground_22 : decode (am_c m_Mo_ground) 22 = .ok (.iload_n 1, 1) := by decide +kernel
theorem d_Mo_ground_23 : decode (am_c m_Mo_ground) 23 = .ok (.putfield 7, 3) := by decide +kernel
theorem d_Mo_ground_26 : decode (am_c m_Mo_ground) 26 = .ok (.aload_n 0, 1) := by decide +kernel
theorem d_Mo_ground_27 : decode (am_c m_Mo_ground) 27 = .ok (.iload_n 2, 1) := by decide +kernel
theorem d_Mo_ground_28 : decode (am_c m_Mo_ground) 28 = .ok (.putfield 13, 3) := by decide +kernel
theorem d_Mo_ground_31 : decode (am_c m_Mo_ground) 31 = .ok (.iconst 0, 1) := by decide +kernel
theorem d_Mo_ground_32 : decode (am_c m_Mo_ground) 32 = .ok (.istore_n 3, 1) := by decide +kernel
theorem d_Mo_ground_33 : decode (am_c m_Mo_ground) 33 = .ok (.iload_n 3, 1) := by decide +kernel
theorem d_Mo_ground_34 : decode (am_c m_Mo_ground) 34 = .ok (.bipush 16, 2) := by decide +kernel
theorem d_Mo_ground_36 : decode (am_c m_Mo_ground) 36 = .ok (.if_icmp .ge 16, 3) := by decide +kernel
theorem d_Mo_ground_39 : decode (am_c m_Mo_ground) 39 = .ok (.aload_n 0, 1) := by decide +kernel
theorem d_Mo_ground_40 : decode (am_c m_Mo_ground) 40 = .ok (.getfield 16, 3) := by decide +kernel
theorem d_Mo_ground_43 : decode (am_c m_Mo_ground) 43 = .ok (.iload_n 3, 1) := by decide +kernel
theorem d_Mo_ground_44 : decode (am_c m_Mo_ground) 44 = .ok (.iconst 0, 1) := by decide +kernel
theorem d_Mo_ground_45 : decode (am_c m_Mo_ground) 45 = .ok (.iastore, 1) := by decide +kernel
theorem d_Mo_ground_46 : decode (am_c m_Mo_ground) 46 = .ok (.iinc 3 1, 3) := by decide +kernel
theorem d_Mo_ground_49 : decode (am_c m_Mo_ground) 49 = .ok (.goto (-16), 3) := by decide +kernel
theorem d_Mo_ground_52 : decode (am_c m_Mo_ground) 52 = .ok (.iconst 0, 1) := by decide +kernel
theorem d_Mo_ground_53 : decode (am_c m_Mo_ground) 53 = .ok (.istore_n 3, 1) := by decide +kernel
theorem d_Mo_ground_54 : decode (am_c m_Mo_ground) 54 = .ok (.iload_n 3, 1) := by decide +kernel
theorem d_Mo_ground_55 : decode (am_c m_Mo_ground) 55 = .ok (.bipush 8, 2) := by decide +kernel
theorem d_Mo_ground_57 : decode (am_c m_Mo_ground) 57 = .ok (.if_icmp .ge 17, 3) := by decide +kernel
theorem d_Mo_ground_60 : decode (am_c m_Mo_ground) 60 = .ok (.aload_n 0, 1) := by decide +kernel
theorem d_Mo_ground_61 : decode (am_c m_Mo_ground) 61 = .ok (.getfield 20, 3) := by decide +kernel
theorem d_Mo_ground_64 : decode (am_c m_Mo_ground) 64 = .ok (.iload_n 3, 1) := by decide +kernel
theorem d_Mo_ground_65 : decode (am_c m_Mo_ground) 65 = .ok (.bipush 10, 2) := by decide +kernel
theorem d_Mo_ground_67 : decode (am_c m_Mo_ground) 67 = .ok (.iastore, 1) := by decide +kernel
theorem d_Mo_ground_68 : decode (am_c m_Mo_ground) 68 = .ok (.iinc 3 1, 3) := by decide +kernel
theorem d_Mo_ground_71 : decode (am_c m_Mo_ground) 71 = .ok (.goto (-17), 3) := by decide +kernel
theorem d_Mo_ground_74 : decode (am_c m_Mo_ground) 74 = .ok (.aload_n 0, 1) := by decide +kernel
theorem d_Mo_ground_75 : decode (am_c m_Mo_ground) 75 = .ok (.iconst 0, 1) := by decide +kernel
theorem d_Mo_ground_76 : decode (am_c m_Mo_ground) 76 = .ok (.putfield 126, 3) := by decide +kernel
theorem d_Mo_ground_79 : decode (am_c m_Mo_ground) 79 = .ok (.aload_n 0, 1) := by decide +kernel
theorem d_Mo_ground_80 : decode (am_c m_Mo_ground) 80 = .ok (.iconst 0, 1) := by decide +kernel
theorem d_Mo_ground_81 : decode (am_c m_Mo_ground) 81 = .ok (.putfield 129, 3) := by decide +kernel
theorem d_Mo_ground_84 : decode (am_c m_Mo_ground) 84 = .ok (.aload_n 0, 1) := by decide +kernel
theorem d_Mo_ground_85 : decode (am_c m_Mo_ground) 85 = .ok (.iconst 0, 1) := by decide +kernel
theorem d_Mo_ground_86 : decode (am_c m_Mo_ground) 86 = .ok (.putfield 132, 3) := by decide +kernel
theorem d_Mo_ground_89 : decode (am_c m_Mo_ground) 89 = .ok (.aload_n 0, 1) := by decide +kernel
theorem d_Mo_ground_90 : decode (am_c m_Mo_ground) 90 = .ok (.iconst 0, 1) := by decide +kernel
theorem d_Mo_ground_91 : decode (am_c m_Mo_ground) 91 = .ok (.putfield 135, 3) := by decide +kernel
theorem d_Mo_ground_94 : decode (am_c m_Mo_ground) 94 = .ok (.aload_n 0, 1) := by decide +kernel
theorem d_Mo_ground_95 : decode (am_c m_Mo_ground) 95 = .ok (.invokevirtual 118, 3) := by decide +kernel
theorem d_Mo_ground_98 : decode (am_c m_Mo_ground) 98 = .ok (.ireturn, 1) := by decide +kernel
theorem d_Mo_in_0 : decode (am_c m_Mo_in) 0 = .ok (.iload_n 0, 1) := by decide +kernel
theorem d_Mo_in_1 : decode (am_c m_Mo_in) 1 = .ok (.iload_n 1, 1) := by decide +kernel
theorem d_Mo_in_2 : decode (am_c m_Mo_in) 2 = .ok (.if_icmp .lt 12, 3) := by decide +kernel
theorem d_Mo_in_5 : decode (am_c m_Mo_in) 5 = .ok (.iload_n 0, 1) := by decide +kernel
theorem d_Mo_in_6 : decode (am_c m_Mo_in) 6 = .ok (.iload_n 2, 1) := by decide +kernel
theorem d_Mo_in_7 : decode (am_c m_Mo_in) 7 = .ok (.if_icmp .gt 7, 3) := by decide +kernel
theorem d_Mo_in_10 : decode (am_c m_Mo_in) 10 = .ok (.iconst 1, 1) := by decide +kernel
theorem d_Mo_in_11 : decode (am_c m_Mo_in) 11 = .ok (.goto 4, 3) := by decide +kernel
theorem d_Mo_in_14 : decode (am_c m_Mo_in) 14 = .ok (.iconst 0, 1) := by decide +kernel
theorem d_Mo_in_15 : decode (am_c m_Mo_in) 15 = .ok (.ireturn, 1) := by decide +kernel
theorem d_Mo_cells_0 : decode (am_c m_Mo_cells) 0 = .ok (.aload_n 0, 1) := by decide +kernel
theorem d_Mo_cells_1 : decode (am_c m_Mo_cells) 1 = .ok (.getfield 7, 3) := by decide +kernel
theorem d_Mo_cells_4 : decode (am_c m_Mo_cells) 4 = .ok (.aload_n 0, 1) := by decide +kernel
theorem d_Mo_cells_5 : decode (am_c m_Mo_cells) 5 = .ok (.getfield 13, 3) := by decide +kernel
theorem d_Mo_cells_8 : decode (am_c m_Mo_cells) 8 = .ok (.imul, 1) := by decide +kernel
theorem d_Mo_cells_9 : decode (am_c m_Mo_cells) 9 = .ok (.ireturn, 1) := by decide +kernel
theorem d_Mo_ratio_0 : decode (am_c m_Mo_ratio) 0 = .ok (.iload_n 1, 1) := by decide +kernel
theorem d_Mo_ratio_1 : decode (am_c m_Mo_ratio) 1 = .ok (.bipush 10, 2) := by decide +kernel
theorem d_Mo_ratio_3 : decode (am_c m_Mo_ratio) 3 = .ok (.bipush 30, 2) := by decide +kernel
theorem d_Mo_ratio_5 : decode (am_c m_Mo_ratio) 5 = .ok (.invokestatic 122, 3) := by decide +kernel
theorem d_Mo_ratio_8 : decode (am_c m_Mo_ratio) 8 = .ok (.ifCond .ne 6, 3) := by decide +kernel
theorem d_Mo_ratio_11 : decode (am_c m_Mo_ratio) 11 = .ok (.bipush (-3), 2) := by decide +kernel
theorem d_Mo_ratio_13 : decode (am_c m_Mo_ratio) 13 = .ok (.ireturn, 1) := by decide +kernel
theorem d_Mo_ratio_14 : decode (am_c m_Mo_ratio) 14 = .ok (.aload_n 0, 1) := by decide +kernel
theorem d_Mo_ratio_15 : decode (am_c m_Mo_ratio) 15 = .ok (.getfield 23, 3) := by decide +kernel
theorem d_Mo_ratio_18 : decode (am_c m_Mo_ratio) 18 = .ok (.istore_n 2, 1) := by decide +kernel
theorem d_Mo_ratio_19 : decode (am_c m_Mo_ratio) 19 = .ok (.aload_n 0, 1) := by decide +kernel
theorem d_Mo_ratio_20 : decode (am_c m_Mo_ratio) 20 = .ok (.iload_n 1, 1) := by decide +kernel
theorem d_Mo_ratio_21 : decode (am_c m_Mo_ratio) 21 = .ok (.putfield 23, 3) := by decide +kernel
theorem d_Mo_ratio_24 : decode (am_c m_Mo_ratio) 24 = .ok (.iload_n 2, 1) := by decide +kernel
theorem d_Mo_ratio_25 : decode (am_c m_Mo_ratio) 25 = .ok (.ireturn, 1) := by decide +kernel
theorem d_Mo_slow_0 : decode (am_c m_Mo_slow) 0 = .ok (.iload_n 1, 1) := by decide +kernel
theorem d_Mo_slow_1 : decode (am_c m_Mo_slow) 1 = .ok (.invokestatic 138, 3) := by decide +kernel
theorem d_Mo_slow_4 : decode (am_c m_Mo_slow) 4 = .ok (.ifCond .ne 6, 3) := by decide +kernel
theorem d_Mo_slow_7 : decode (am_c m_Mo_slow) 7 = .ok (.bipush (-2), 2) := by decide +kernel
theorem d_Mo_slow_9 : decode (am_c m_Mo_slow) 9 = .ok (.ireturn, 1) := by decide +kernel
theorem d_Mo_slow_10 : decode (am_c m_Mo_slow) 10 = .ok (.iload_n 2, 1) := by decide +kernel
theorem d_Mo_slow_11 : decode (am_c m_Mo_slow) 11 = .ok (.iconst 1, 1) := by decide +kernel
theorem d_Mo_slow_12 : decode (am_c m_Mo_slow) 12 = .ok (.bipush 60, 2) := by decide +kernel
theorem d_Mo_slow_14 : decode (am_c m_Mo_slow) 14 = .ok (.invokestatic 122, 3) := by decide +kernel
theorem d_Mo_slow_17 : decode (am_c m_Mo_slow) 17 = .ok (.ifCond .ne 6, 3) := by decide +kernel
theorem d_Mo_slow_20 : decode (am_c m_Mo_slow) 20 = .ok (.bipush (-3), 2) := by decide +kernel
theorem d_Mo_slow_22 : decode (am_c m_Mo_slow) 22 = .ok (.ireturn, 1) := by decide +kernel
theorem d_Mo_slow_23 : decode (am_c m_Mo_slow) 23 = .ok (.aload_n 0, 1) := by decide +kernel
theorem d_Mo_slow_24 : decode (am_c m_Mo_slow) 24 = .ok (.getfield 20, 3) := by decide +kernel
theorem d_Mo_slow_27 : decode (am_c m_Mo_slow) 27 = .ok (.iload_n 1, 1) := by decide +kernel
theorem d_Mo_slow_28 : decode (am_c m_Mo_slow) 28 = .ok (.iaload, 1) := by decide +kernel
theorem d_Mo_slow_29 : decode (am_c m_Mo_slow) 29 = .ok (.istore_n 3, 1) := by decide +kernel
theorem d_Mo_slow_30 : decode (am_c m_Mo_slow) 30 = .ok (.aload_n 0, 1) := by decide +kernel
theorem d_Mo_slow_31 : decode (am_c m_Mo_slow) 31 = .ok (.getfield 20, 3) := by decide +kernel
theorem d_Mo_slow_34 : decode (am_c m_Mo_slow) 34 = .ok (.iload_n 1, 1) := by decide +kernel
theorem d_Mo_slow_35 : decode (am_c m_Mo_slow) 35 = .ok (.iload_n 2, 1) := by decide +kernel
theorem d_Mo_slow_36 : decode (am_c m_Mo_slow) 36 = .ok (.iastore, 1) := by decide +kernel
theorem d_Mo_slow_37 : decode (am_c m_Mo_slow) 37 = .ok (.iload_n 3, 1) := by decide +kernel
theorem d_Mo_slow_38 : decode (am_c m_Mo_slow) 38 = .ok (.ireturn, 1) := by decide +kernel
theorem d_Mo_isBlock_0 : decode (am_c m_Mo_isBlock) 0 = .ok (.iload_n 0, 1) := by decide +kernel
theorem d_Mo_isBlock_1 : decode (am_c m_Mo_isBlock) 1 = .ok (.iconst 0, 1) := by decide +kernel
theorem d_Mo_isBlock_2 : decode (am_c m_Mo_isBlock) 2 = .ok (.bipush 7, 2) := by decide +kernel
theorem d_Mo_isBlock_4 : decode (am_c m_Mo_isBlock) 4 = .ok (.invokestatic 122, 3) := by decide +kernel
theorem d_Mo_isBlock_7 : decode (am_c m_Mo_isBlock) 7 = .ok (.ireturn, 1) := by decide +kernel
theorem d_Mo_split_0 : decode (am_c m_Mo_split) 0 = .ok (.iload_n 1, 1) := by decide +kernel
theorem d_Mo_split_1 : decode (am_c m_Mo_split) 1 = .ok (.invokestatic 138, 3) := by decide +kernel
theorem d_Mo_split_4 : decode (am_c m_Mo_split) 4 = .ok (.ifCond .ne 6, 3) := by decide +kernel
theorem d_Mo_split_7 : decode (am_c m_Mo_split) 7 = .ok (.bipush (-2), 2) := by decide +kernel
theorem d_Mo_split_9 : decode (am_c m_Mo_split) 9 = .ok (.ireturn, 1) := by decide +kernel
theorem d_Mo_split_10 : decode (am_c m_Mo_split) 10 = .ok (.iload_n 2, 1) := by decide +kernel
theorem d_Mo_split_11 : decode (am_c m_Mo_split) 11 = .ok (.iconst 0, 1) := by decide +kernel
theorem d_Mo_split_12 : decode (am_c m_Mo_split) 12 = .ok (.iconst 1, 1) := by decide +kernel
theorem d_Mo_split_13 : decode (am_c m_Mo_split) 13 = .ok (.aload_n 0, 1) := by decide +kernel
theorem d_Mo_split_14 : decode (am_c m_Mo_split) 14 = .ok (.invokevirtual 118, 3) := by decide +kernel
theorem d_Mo_split_17 : decode (am_c m_Mo_split) 17 = .ok (.ishl, 1) := by decide +kernel
theorem d_Mo_split_18 : decode (am_c m_Mo_split) 18 = .ok (.iconst 1, 1) := by decide +kernel
theorem d_Mo_split_19 : decode (am_c m_Mo_split) 19 = .ok (.isub, 1) := by decide +kernel
theorem d_Mo_split_20 : decode (am_c m_Mo_split) 20 = .ok (.invokestatic 122, 3) := by decide +kernel
theorem d_Mo_split_23 : decode (am_c m_Mo_split) 23 = .ok (.ifCond .ne 6, 3) := by decide +kernel
theorem d_Mo_split_26 : decode (am_c m_Mo_split) 26 = .ok (.bipush (-3), 2) := by decide +kernel
theorem d_Mo_split_28 : decode (am_c m_Mo_split) 28 = .ok (.ireturn, 1) := by decide +kernel
theorem d_Mo_split_29 : decode (am_c m_Mo_split) 29 = .ok (.iconst 0, 1) := by decide +kernel
theorem d_Mo_split_30 : decode (am_c m_Mo_split) 30 = .ok (.istore_n 3, 1) := by decide +kernel
theorem d_Mo_split_31 : decode (am_c m_Mo_split) 31 = .ok (.iconst 0, 1) := by decide +kernel
theorem d_Mo_split_32 : decode (am_c m_Mo_split) 32 = .ok (.istore 4, 2) := by decide +kernel
theorem d_Mo_split_34 : decode (am_c m_Mo_split) 34 = .ok (.iload 4, 2) := by decide +kernel
theorem d_Mo_split_36 : decode (am_c m_Mo_split) 36 = .ok (.aload_n 0, 1) := by decide +kernel
theorem d_Mo_split_37 : decode (am_c m_Mo_split) 37 = .ok (.invokevirtual 118, 3) := by decide +kernel
theorem d_Mo_split_40 : decode (am_c m_Mo_split) 40 = .ok (.if_icmp .ge 33, 3) := by decide +kernel
theorem d_Mo_split_43 : decode (am_c m_Mo_split) 43 = .ok (.iload_n 3, 1) := by decide +kernel
theorem d_Mo_split_44 : decode (am_c m_Mo_split) 44 = .ok (.aload_n 0, 1) := by decide +kernel
theorem d_Mo_split_45 : decode (am_c m_Mo_split) 45 = .ok (.getfield 16, 3) := by decide +kernel
theorem d_Mo_split_48 : decode (am_c m_Mo_split) 48 = .ok (.iload 4, 2) := by decide +kernel
theorem d_Mo_split_50 : decode (am_c m_Mo_split) 50 = .ok (.iaload, 1) := by decide +kernel
theorem d_Mo_split_51 : decode (am_c m_Mo_split) 51 = .ok (.iload_n 1, 1) := by decide +kernel
theorem d_Mo_split_52 : decode (am_c m_Mo_split) 52 = .ok (.if_icmp .ne 12, 3) := by decide +kernel
theorem d_Mo_split_55 : decode (am_c m_Mo_split) 55 = .ok (.iload_n 2, 1) := by decide +kernel
theorem d_Mo_split_56 : decode (am_c m_Mo_split) 56 = .ok (.iload 4, 2) := by decide +kernel
theorem d_Mo_split_58 : decode (am_c m_Mo_split) 58 = .ok (.ishr, 1) := by decide +kernel
theorem d_Mo_split_59 : decode (am_c m_Mo_split) 59 = .ok (.iconst 1, 1) := by decide +kernel
theorem d_Mo_split_60 : decode (am_c m_Mo_split) 60 = .ok (.iand, 1) := by decide +kernel
theorem d_Mo_split_61 : decode (am_c m_Mo_split) 61 = .ok (.goto 4, 3) := by decide +kernel
theorem d_Mo_split_64 : decode (am_c m_Mo_split) 64 = .ok (.iconst 0, 1) := by decide +kernel
theorem d_Mo_split_65 : decode (am_c m_Mo_split) 65 = .ok (.iadd, 1) := by decide +kernel
theorem d_Mo_split_66 : decode (am_c m_Mo_split) 66 = .ok (.istore_n 3, 1) := by decide +kernel
theorem d_Mo_split_67 : decode (am_c m_Mo_split) 67 = .ok (.iinc 4 1, 3) := by decide +kernel
theorem d_Mo_split_70 : decode (am_c m_Mo_split) 70 = .ok (.goto (-36), 3) := by decide +kernel
theorem d_Mo_split_73 : decode (am_c m_Mo_split) 73 = .ok (.iload_n 3, 1) := by decide +kernel
theorem d_Mo_split_74 : decode (am_c m_Mo_split) 74 = .ok (.ifCond .eq 12, 3) := by decide +kernel
theorem d_Mo_split_77 : decode (am_c m_Mo_split) 77 = .ok (.iload_n 3, 1) := by decide +kernel
theorem d_Mo_split_78 : decode (am_c m_Mo_split) 78 = .ok (.aload_n 0, 1) := by decide +kernel
theorem d_Mo_split_79 : decode (am_c m_Mo_split) 79 = .ok (.iload_n 1, 1) := by decide +kernel
theorem d_Mo_split_80 : decode (am_c m_Mo_split) 80 = .ok (.invokevirtual 142, 3) := by decide +kernel
theorem d_Mo_split_83 : decode (am_c m_Mo_split) 83 = .ok (.if_icmp .ne 6, 3) := by decide +kernel
theorem d_Mo_split_86 : decode (am_c m_Mo_split) 86 = .ok (.bipush (-4), 2) := by decide +kernel
theorem d_Mo_split_88 : decode (am_c m_Mo_split) 88 = .ok (.ireturn, 1) := by decide +kernel
theorem d_Mo_split_89 : decode (am_c m_Mo_split) 89 = .ok (.iconst 0, 1) := by decide +kernel
theorem d_Mo_split_90 : decode (am_c m_Mo_split) 90 = .ok (.istore 4, 2) := by decide +kernel
theorem d_Mo_split_92 : decode (am_c m_Mo_split) 92 = .ok (.iload 4, 2) := by decide +kernel
theorem d_Mo_split_94 : decode (am_c m_Mo_split) 94 = .ok (.bipush 8, 2) := by decide +kernel
theorem d_Mo_split_96 : decode (am_c m_Mo_split) 96 = .ok (.if_icmp .ge 18, 3) := by decide +kernel
theorem d_Mo_split_99 : decode (am_c m_Mo_split) 99 = .ok (.aload_n 0, 1) := by decide +kernel
theorem d_Mo_split_100 : decode (am_c m_Mo_split) 100 = .ok (.iload 4, 2) := by decide +kernel
theorem d_Mo_split_102 : decode (am_c m_Mo_split) 102 = .ok (.invokevirtual 142, 3) := by decide +kernel
theorem d_Mo_split_105 : decode (am_c m_Mo_split) 105 = .ok (.ifCond .le 9, 3) := by decide +kernel
theorem d_Mo_split_108 : decode (am_c m_Mo_split) 108 = .ok (.iinc 4 1, 3) := by decide +kernel
theorem d_Mo_split_111 : decode (am_c m_Mo_split) 111 = .ok (.goto (-19), 3) := by decide +kernel
theorem d_Mo_split_114 : decode (am_c m_Mo_split) 114 = .ok (.iload 4, 2) := by decide +kernel
theorem d_Mo_split_116 : decode (am_c m_Mo_split) 116 = .ok (.bipush 8, 2) := by decide +kernel
theorem d_Mo_split_118 : decode (am_c m_Mo_split) 118 = .ok (.if_icmp .ne 6, 3) := by decide +kernel
theorem d_Mo_split_121 : decode (am_c m_Mo_split) 121 = .ok (.bipush (-5), 2) := by decide +kernel
theorem d_Mo_split_123 : decode (am_c m_Mo_split) 123 = .ok (.ireturn, 1) := by decide +kernel
theorem d_Mo_split_124 : decode (am_c m_Mo_split) 124 = .ok (.iconst 0, 1) := by decide +kernel
theorem d_Mo_split_125 : decode (am_c m_Mo_split) 125 = .ok (.istore 5, 2) := by decide +kernel
theorem d_Mo_split_127 : decode (am_c m_Mo_split) 127 = .ok (.iload 5, 2) := by decide +kernel
theorem d_Mo_split_129 : decode (am_c m_Mo_split) 129 = .ok (.aload_n 0, 1) := by decide +kernel
theorem d_Mo_split_130 : decode (am_c m_Mo_split) 130 = .ok (.invokevirtual 118, 3) := by decide +kernel
theorem d_Mo_split_133 : decode (am_c m_Mo_split) 133 = .ok (.if_icmp .ge 49, 3) := by decide +kernel
theorem d_Mo_split_136 : decode (am_c m_Mo_split) 136 = .ok (.aload_n 0, 1) := by decide +kernel
theorem d_Mo_split_137 : decode (am_c m_Mo_split) 137 = .ok (.getfield 16, 3) := by decide +kernel
theorem d_Mo_split_140 : decode (am_c m_Mo_split) 140 = .ok (.iload 5, 2) := by decide +kernel
theorem d_Mo_split_142 : decode (am_c m_Mo_split) 142 = .ok (.aload_n 0, 1) := by decide +kernel
theorem d_Mo_split_143 : decode (am_c m_Mo_split) 143 = .ok (.getfield 16, 3) := by decide +kernel
theorem d_Mo_split_146 : decode (am_c m_Mo_split) 146 = .ok (.iload 5, 2) := by decide +kernel
theorem d_Mo_split_148 : decode (am_c m_Mo_split) 148 = .ok (.iaload, 1) := by decide +kernel
theorem d_Mo_split_149 : decode (am_c m_Mo_split) 149 = .ok (.iload_n 1, 1) := by decide +kernel
theorem d_Mo_split_150 : decode (am_c m_Mo_split) 150 = .ok (.if_icmp .ne 18, 3) := by decide +kernel
theorem d_Mo_split_153 : decode (am_c m_Mo_split) 153 = .ok (.iload_n 2, 1) := by decide +kernel
theorem d_Mo_split_154 : decode (am_c m_Mo_split) 154 = .ok (.iload 5, 2) := by decide +kernel
theorem d_Mo_split_156 : decode (am_c m_Mo_split) 156 = .ok (.ishr, 1) := by decide +kernel
theorem d_Mo_split_157 : decode (am_c m_Mo_split) 157 = .ok (.iconst 1, 1) := by decide +kernel
theorem d_Mo_split_158 : decode (am_c m_Mo_split) 158 = .ok (.iand, 1) := by decide +kernel
theorem d_Mo_split_159 : decode (am_c m_Mo_split) 159 = .ok (.iconst 1, 1) := by decide +kernel
theorem d_Mo_split_160 : decode (am_c m_Mo_split) 160 = .ok (.if_icmp .ne 8, 3) := by decide +kernel
theorem d_Mo_split_163 : decode (am_c m_Mo_split) 163 = .ok (.iload 4, 2) := by decide +kernel
theorem d_Mo_split_165 : decode (am_c m_Mo_split) 165 = .ok (.goto 10, 3) := by decide +kernel
theorem d_Mo_split_168 : decode (am_c m_Mo_split) 168 = .ok (.aload_n 0, 1) := by decide +kernel
theorem d_Mo_split_169 : decode (am_c m_Mo_split) 169 = .ok (.getfield 16, 3) := by decide +kernel
theorem d_Mo_split_172 : decode (am_c m_Mo_split) 172 = .ok (.iload 5, 2) := by decide +kernel
theorem d_Mo_split_174 : decode (am_c m_Mo_split) 174 = .ok (.iaload, 1) := by decide +kernel
theorem d_Mo_split_175 : decode (am_c m_Mo_split) 175 = .ok (.iastore, 1) := by decide +kernel
theorem d_Mo_split_176 : decode (am_c m_Mo_split) 176 = .ok (.iinc 5 1, 3) := by decide +kernel
theorem d_Mo_split_179 : decode (am_c m_Mo_split) 179 = .ok (.goto (-52), 3) := by decide +kernel
theorem d_Mo_split_182 : decode (am_c m_Mo_split) 182 = .ok (.aload_n 0, 1) := by decide +kernel
theorem d_Mo_split_183 : decode (am_c m_Mo_split) 183 = .ok (.getfield 20, 3) := by decide +kernel
theorem d_Mo_split_186 : decode (am_c m_Mo_split) 186 = .ok (.iload 4, 2) := by decide +kernel
theorem d_Mo_split_188 : decode (am_c m_Mo_split) 188 = .ok (.aload_n 0, 1) := by decide +kernel
theorem d_Mo_split_189 : decode (am_c m_Mo_split) 189 = .ok (.getfield 20, 3) := by decide +kernel
theorem d_Mo_split_192 : decode (am_c m_Mo_split) 192 = .ok (.iload_n 1, 1) := by decide +kernel
theorem d_Mo_split_193 : decode (am_c m_Mo_split) 193 = .ok (.iaload, 1) := by decide +kernel
theorem d_Mo_split_194 : decode (am_c m_Mo_split) 194 = .ok (.iastore, 1) := by decide +kernel
theorem d_Mo_split_195 : decode (am_c m_Mo_split) 195 = .ok (.iload 4, 2) := by decide +kernel
theorem d_Mo_split_197 : decode (am_c m_Mo_split) 197 = .ok (.ireturn, 1) := by decide +kernel
theorem d_Mo_sizeOf_0 : decode (am_c m_Mo_sizeOf) 0 = .ok (.iconst 0, 1) := by decide +kernel
theorem d_Mo_sizeOf_1 : decode (am_c m_Mo_sizeOf) 1 = .ok (.istore_n 2, 1) := by decide +kernel
theorem d_Mo_sizeOf_2 : decode (am_c m_Mo_sizeOf) 2 = .ok (.iconst 0, 1) := by decide +kernel
theorem d_Mo_sizeOf_3 : decode (am_c m_Mo_sizeOf) 3 = .ok (.istore_n 3, 1) := by decide +kernel
theorem d_Mo_sizeOf_4 : decode (am_c m_Mo_sizeOf) 4 = .ok (.iload_n 3, 1) := by decide +kernel
theorem d_Mo_sizeOf_5 : decode (am_c m_Mo_sizeOf) 5 = .ok (.aload_n 0, 1) := by decide +kernel
theorem d_Mo_sizeOf_6 : decode (am_c m_Mo_sizeOf) 6 = .ok (.invokevirtual 118, 3) := by decide +kernel
theorem d_Mo_sizeOf_9 : decode (am_c m_Mo_sizeOf) 9 = .ok (.if_icmp .ge 27, 3) := by decide +kernel
theorem d_Mo_sizeOf_12 : decode (am_c m_Mo_sizeOf) 12 = .ok (.iload_n 2, 1) := by decide +kernel
theorem d_Mo_sizeOf_13 : decode (am_c m_Mo_sizeOf) 13 = .ok (.aload_n 0, 1) := by decide +kernel
theorem d_Mo_sizeOf_14 : decode (am_c m_Mo_sizeOf) 14 = .ok (.getfield 16, 3) := by decide +kernel
theorem d_Mo_sizeOf_17 : decode (am_c m_Mo_sizeOf) 17 = .ok (.iload_n 3, 1) := by decide +kernel
theorem d_Mo_sizeOf_18 : decode (am_c m_Mo_sizeOf) 18 = .ok (.iaload, 1) := by decide +kernel
theorem d_Mo_sizeOf_19 : decode (am_c m_Mo_sizeOf) 19 = .ok (.iload_n 1, 1) := by decide +kernel
theorem d_Mo_sizeOf_20 : decode (am_c m_Mo_sizeOf) 20 = .ok (.if_icmp .ne 7, 3) := by decide +kernel
theorem d_Mo_sizeOf_23 : decode (am_c m_Mo_sizeOf) 23 = .ok (.iconst 1, 1) := by decide +kernel
theorem d_Mo_sizeOf_24 : decode (am_c m_Mo_sizeOf) 24 = .ok (.goto 4, 3) := by decide +kernel
theorem d_Mo_sizeOf_27 : decode (am_c m_Mo_sizeOf) 27 = .ok (.iconst 0, 1) := by decide +kernel
theorem d_Mo_sizeOf_28 : decode (am_c m_Mo_sizeOf) 28 = .ok (.iadd, 1) := by decide +kernel
theorem d_Mo_sizeOf_29 : decode (am_c m_Mo_sizeOf) 29 = .ok (.istore_n 2, 1) := by decide +kernel
theorem d_Mo_sizeOf_30 : decode (am_c m_Mo_sizeOf) 30 = .ok (.iinc 3 1, 3) := by decide +kernel
theorem d_Mo_sizeOf_33 : decode (am_c m_Mo_sizeOf) 33 = .ok (.goto (-29), 3) := by decide +kernel
theorem d_Mo_sizeOf_36 : decode (am_c m_Mo_sizeOf) 36 = .ok (.iload_n 2, 1) := by decide +kernel
theorem d_Mo_sizeOf_37 : decode (am_c m_Mo_sizeOf) 37 = .ok (.ireturn, 1) := by decide +kernel
theorem d_Mo_join_0 : decode (am_c m_Mo_join) 0 = .ok (.iload_n 1, 1) := by decide +kernel
theorem d_Mo_join_1 : decode (am_c m_Mo_join) 1 = .ok (.invokestatic 138, 3) := by decide +kernel
theorem d_Mo_join_4 : decode (am_c m_Mo_join) 4 = .ok (.ifCond .eq 10, 3) := by decide +kernel
theorem d_Mo_join_7 : decode (am_c m_Mo_join) 7 = .ok (.iload_n 2, 1) := by decide +kernel
theorem d_Mo_join_8 : decode (am_c m_Mo_join) 8 = .ok (.invokestatic 138, 3) := by decide +kernel
theorem d_Mo_join_11 : decode (am_c m_Mo_join) 11 = .ok (.ifCond .ne 6, 3) := by decide +kernel
theorem d_Mo_join_14 : decode (am_c m_Mo_join) 14 = .ok (.bipush (-2), 2) := by decide +kernel
theorem d_Mo_join_16 : decode (am_c m_Mo_join) 16 = .ok (.ireturn, 1) := by decide +kernel
theorem d_Mo_join_17 : decode (am_c m_Mo_join) 17 = .ok (.iload_n 1, 1) := by decide +kernel
theorem d_Mo_join_18 : decode (am_c m_Mo_join) 18 = .ok (.iload_n 2, 1) := by decide +kernel
theorem d_Mo_join_19 : decode (am_c m_Mo_join) 19 = .ok (.if_icmp .ne 6, 3) := by decide +kernel
theorem d_Mo_join_22 : decode (am_c m_Mo_join) 22 = .ok (.bipush (-3), 2) := by decide +kernel
theorem d_Mo_join_24 : decode (am_c m_Mo_join) 24 = .ok (.ireturn, 1) := by decide +kernel
theorem d_Mo_join_25 : decode (am_c m_Mo_join) 25 = .ok (.iconst 0, 1) := by decide +kernel
theorem d_Mo_join_26 : decode (am_c m_Mo_join) 26 = .ok (.istore_n 3, 1) := by decide +kernel
theorem d_Mo_join_27 : decode (am_c m_Mo_join) 27 = .ok (.iload_n 3, 1) := by decide +kernel
theorem d_Mo_join_28 : decode (am_c m_Mo_join) 28 = .ok (.aload_n 0, 1) := by decide +kernel
theorem d_Mo_join_29 : decode (am_c m_Mo_join) 29 = .ok (.invokevirtual 118, 3) := by decide +kernel
theorem d_Mo_join_32 : decode (am_c m_Mo_join) 32 = .ok (.if_icmp .ge 35, 3) := by decide +kernel
theorem d_Mo_join_35 : decode (am_c m_Mo_join) 35 = .ok (.aload_n 0, 1) := by decide +kernel
theorem d_Mo_join_36 : decode (am_c m_Mo_join) 36 = .ok (.getfield 16, 3) := by decide +kernel
theorem d_Mo_join_39 : decode (am_c m_Mo_join) 39 = .ok (.iload_n 3, 1) := by decide +kernel
theorem d_Mo_join_40 : decode (am_c m_Mo_join) 40 = .ok (.aload_n 0, 1) := by decide +kernel
theorem d_Mo_join_41 : decode (am_c m_Mo_join) 41 = .ok (.getfield 16, 3) := by decide +kernel
theorem d_Mo_join_44 : decode (am_c m_Mo_join) 44 = .ok (.iload_n 3, 1) := by decide +kernel
theorem d_Mo_join_45 : decode (am_c m_Mo_join) 45 = .ok (.iaload, 1) := by decide +kernel
theorem d_Mo_join_46 : decode (am_c m_Mo_join) 46 = .ok (.iload_n 2, 1) := by decide +kernel
theorem d_Mo_join_47 : decode (am_c m_Mo_join) 47 = .ok (.if_icmp .ne 7, 3) := by decide +kernel
theorem d_Mo_join_50 : decode (am_c m_Mo_join) 50 = .ok (.iload_n 1, 1) := by decide +kernel
theorem d_Mo_join_51 : decode (am_c m_Mo_join) 51 = .ok (.goto 9, 3) := by decide +kernel
theorem d_Mo_join_54 : decode (am_c m_Mo_join) 54 = .ok (.aload_n 0, 1) := by decide +kernel
theorem d_Mo_join_55 : decode (am_c m_Mo_join) 55 = .ok (.getfield 16, 3) := by decide +kernel
theorem d_Mo_join_58 : decode (am_c m_Mo_join) 58 = .ok (.iload_n 3, 1) := by decide +kernel
theorem d_Mo_join_59 : decode (am_c m_Mo_join) 59 = .ok (.iaload, 1) := by decide +kernel
theorem d_Mo_join_60 : decode (am_c m_Mo_join) 60 = .ok (.iastore, 1) := by decide +kernel
theorem d_Mo_join_61 : decode (am_c m_Mo_join) 61 = .ok (.iinc 3 1, 3) := by decide +kernel
theorem d_Mo_join_64 : decode (am_c m_Mo_join) 64 = .ok (.goto (-37), 3) := by decide +kernel
theorem d_Mo_join_67 : decode (am_c m_Mo_join) 67 = .ok (.aload_n 0, 1) := by decide +kernel
theorem d_Mo_join_68 : decode (am_c m_Mo_join) 68 = .ok (.iload_n 1, 1) := by decide +kernel
theorem d_Mo_join_69 : decode (am_c m_Mo_join) 69 = .ok (.invokevirtual 142, 3) := by decide +kernel
theorem d_Mo_join_72 : decode (am_c m_Mo_join) 72 = .ok (.ireturn, 1) := by decide +kernel
theorem d_Mo_at_0 : decode (am_c m_Mo_at) 0 = .ok (.aload_n 0, 1) := by decide +kernel
theorem d_Mo_at_1 : decode (am_c m_Mo_at) 1 = .ok (.iload_n 1, 1) := by decide +kernel
theorem d_Mo_at_2 : decode (am_c m_Mo_at) 2 = .ok (.invokevirtual 146, 3) := by decide +kernel
theorem d_Mo_at_5 : decode (am_c m_Mo_at) 5 = .ok (.ifCond .ne 6, 3) := by decide +kernel
theorem d_Mo_at_8 : decode (am_c m_Mo_at) 8 = .ok (.bipush (-2), 2) := by decide +kernel
theorem d_Mo_at_10 : decode (am_c m_Mo_at) 10 = .ok (.ireturn, 1) := by decide +kernel
theorem d_Mo_at_11 : decode (am_c m_Mo_at) 11 = .ok (.iload_n 2, 1) := by decide +kernel
theorem d_Mo_at_12 : decode (am_c m_Mo_at) 12 = .ok (.ifCond .ne 12, 3) := by decide +kernel
theorem d_Mo_at_15 : decode (am_c m_Mo_at) 15 = .ok (.aload_n 0, 1) := by decide +kernel
theorem d_Mo_at_16 : decode (am_c m_Mo_at) 16 = .ok (.getfield 16, 3) := by decide +kernel
theorem d_Mo_at_19 : decode (am_c m_Mo_at) 19 = .ok (.iload_n 1, 1) := by decide +kernel
theorem d_Mo_at_20 : decode (am_c m_Mo_at) 20 = .ok (.iaload, 1) := by decide +kernel
theorem d_Mo_at_21 : decode (am_c m_Mo_at) 21 = .ok (.goto 24, 3) := by decide +kernel
theorem d_Mo_at_24 : decode (am_c m_Mo_at) 24 = .ok (.iload_n 2, 1) := by decide +kernel
theorem d_Mo_at_25 : decode (am_c m_Mo_at) 25 = .ok (.iconst 1, 1) := by decide +kernel
theorem d_Mo_at_26 : decode (am_c m_Mo_at) 26 = .ok (.if_icmp .ne 17, 3) := by decide +kernel
theorem d_Mo_at_29 : decode (am_c m_Mo_at) 29 = .ok (.aload_n 0, 1) := by decide +kernel
theorem d_Mo_at_30 : decode (am_c m_Mo_at) 30 = .ok (.getfield 20, 3) := by decide +kernel
theorem d_Mo_at_33 : decode (am_c m_Mo_at) 33 = .ok (.aload_n 0, 1) := by decide +kernel
theorem d_Mo_at_34 : decode (am_c m_Mo_at) 34 = .ok (.getfield 16, 3) := by decide +kernel
theorem d_Mo_at_37 : decode (am_c m_Mo_at) 37 = .ok (.iload_n 1, 1) := by decide +kernel
theorem d_Mo_at_38 : decode (am_c m_Mo_at) 38 = .ok (.iaload, 1) := by decide +kernel
theorem d_Mo_at_39 : decode (am_c m_Mo_at) 39 = .ok (.iaload, 1) := by decide +kernel
theorem d_Mo_at_40 : decode (am_c m_Mo_at) 40 = .ok (.goto 5, 3) := by decide +kernel
theorem d_Mo_at_43 : decode (am_c m_Mo_at) 43 = .ok (.bipush (-3), 2) := by decide +kernel
theorem d_Mo_at_45 : decode (am_c m_Mo_at) 45 = .ok (.ireturn, 1) := by decide +kernel
theorem d_Mo_isCell_0 : decode (am_c m_Mo_isCell) 0 = .ok (.iload_n 1, 1) := by decide +kernel
theorem d_Mo_isCell_1 : decode (am_c m_Mo_isCell) 1 = .ok (.iconst 0, 1) := by decide +kernel
theorem d_Mo_isCell_2 : decode (am_c m_Mo_isCell) 2 = .ok (.aload_n 0, 1) := by decide +kernel
theorem d_Mo_isCell_3 : decode (am_c m_Mo_isCell) 3 = .ok (.invokevirtual 118, 3) := by decide +kernel
theorem d_Mo_isCell_6 : decode (am_c m_Mo_isCell) 6 = .ok (.iconst 1, 1) := by decide +kernel
theorem d_Mo_isCell_7 : decode (am_c m_Mo_isCell) 7 = .ok (.isub, 1) := by decide +kernel
theorem d_Mo_isCell_8 : decode (am_c m_Mo_isCell) 8 = .ok (.invokestatic 122, 3) := by decide +kernel
theorem d_Mo_isCell_11 : decode (am_c m_Mo_isCell) 11 = .ok (.ireturn, 1) := by decide +kernel
theorem d_Mo_time_0 : decode (am_c m_Mo_time) 0 = .ok (.aload_n 0, 1) := by decide +kernel
theorem d_Mo_time_1 : decode (am_c m_Mo_time) 1 = .ok (.iload_n 1, 1) := by decide +kernel
theorem d_Mo_time_2 : decode (am_c m_Mo_time) 2 = .ok (.invokevirtual 146, 3) := by decide +kernel
theorem d_Mo_time_5 : decode (am_c m_Mo_time) 5 = .ok (.ifCond .eq 11, 3) := by decide +kernel
theorem d_Mo_time_8 : decode (am_c m_Mo_time) 8 = .ok (.aload_n 0, 1) := by decide +kernel
theorem d_Mo_time_9 : decode (am_c m_Mo_time) 9 = .ok (.iload_n 2, 1) := by decide +kernel
theorem d_Mo_time_10 : decode (am_c m_Mo_time) 10 = .ok (.invokevirtual 146, 3) := by decide +kernel
theorem d_Mo_time_13 : decode (am_c m_Mo_time) 13 = .ok (.ifCond .ne 6, 3) := by decide +kernel
theorem d_Mo_time_16 : decode (am_c m_Mo_time) 16 = .ok (.bipush (-2), 2) := by decide +kernel
theorem d_Mo_time_18 : decode (am_c m_Mo_time) 18 = .ok (.ireturn, 1) := by decide +kernel
theorem d_Mo_time_19 : decode (am_c m_Mo_time) 19 = .ok (.iload_n 3, 1) := by decide +kernel
theorem d_Mo_time_20 : decode (am_c m_Mo_time) 20 = .ok (.invokestatic 154, 3) := by decide +kernel
theorem d_Mo_time_23 : decode (am_c m_Mo_time) 23 = .ok (.ifCond .ne 6, 3) := by decide +kernel
theorem d_Mo_time_26 : decode (am_c m_Mo_time) 26 = .ok (.bipush (-3), 2) := by decide +kernel
theorem d_Mo_time_28 : decode (am_c m_Mo_time) 28 = .ok (.ireturn, 1) := by decide +kernel
theorem d_Mo_time_29 : decode (am_c m_Mo_time) 29 = .ok (.aload_n 0, 1) := by decide +kernel
theorem d_Mo_time_30 : decode (am_c m_Mo_time) 30 = .ok (.iload_n 1, 1) := by decide +kernel
theorem d_Mo_time_31 : decode (am_c m_Mo_time) 31 = .ok (.iload_n 3, 1) := by decide +kernel
theorem d_Mo_time_32 : decode (am_c m_Mo_time) 32 = .ok (.invokevirtual 157, 3) := by decide +kernel
theorem d_Mo_time_35 : decode (am_c m_Mo_time) 35 = .ok (.aload_n 0, 1) := by decide +kernel
theorem d_Mo_time_36 : decode (am_c m_Mo_time) 36 = .ok (.getfield 69, 3) := by decide +kernel
theorem d_Mo_time_39 : decode (am_c m_Mo_time) 39 = .ok (.iload_n 2, 1) := by decide +kernel
theorem d_Mo_time_40 : decode (am_c m_Mo_time) 40 = .ok (.iaload, 1) := by decide +kernel
theorem d_Mo_time_41 : decode (am_c m_Mo_time) 41 = .ok (.ireturn, 1) := by decide +kernel
theorem d_Mo_isKind_0 : decode (am_c m_Mo_isKind) 0 = .ok (.iload_n 0, 1) := by decide +kernel
theorem d_Mo_isKind_1 : decode (am_c m_Mo_isKind) 1 = .ok (.iconst 0, 1) := by decide +kernel
theorem d_Mo_isKind_2 : decode (am_c m_Mo_isKind) 2 = .ok (.iconst 1, 1) := by decide +kernel
theorem d_Mo_isKind_3 : decode (am_c m_Mo_isKind) 3 = .ok (.invokestatic 122, 3) := by decide +kernel
theorem d_Mo_isKind_6 : decode (am_c m_Mo_isKind) 6 = .ok (.ireturn, 1) := by decide +kernel
theorem d_Mo_findTimes_0 : decode (am_c m_Mo_findTimes) 0 = .ok (.iconst 0, 1) := by decide +kernel
theorem d_Mo_findTimes_1 : decode (am_c m_Mo_findTimes) 1 = .ok (.istore_n 3, 1) := by decide +kernel
theorem d_Mo_findTimes_2 : decode (am_c m_Mo_findTimes) 2 = .ok (.iload_n 3, 1) := by decide +kernel
theorem d_Mo_findTimes_3 : decode (am_c m_Mo_findTimes) 3 = .ok (.bipush 16, 2) := by decide +kernel
theorem d_Mo_findTimes_5 : decode (am_c m_Mo_findTimes) 5 = .ok (.if_icmp .ge 26, 3) := by decide +kernel
theorem d_Mo_findTimes_8 : decode (am_c m_Mo_findTimes) 8 = .ok (.aload_n 0, 1) := by decide +kernel
theorem d_Mo_findTimes_9 : decode (am_c m_Mo_findTimes) 9 = .ok (.getfield 69, 3) := by decide +kernel
theorem d_Mo_findTimes_12 : decode (am_c m_Mo_findTimes) 12 = .ok (.iload_n 3, 1) := by decide +kernel
theorem d_Mo_findTimes_13 : decode (am_c m_Mo_findTimes) 13 = .ok (.iload_n 3, 1) := by decide +kernel
theorem d_Mo_findTimes_14 : decode (am_c m_Mo_findTimes) 14 = .ok (.iload_n 1, 1) := by decide +kernel
theorem d_Mo_findTimes_15 : decode (am_c m_Mo_findTimes) 15 = .ok (.if_icmp .ne 7, 3) := by decide +kernel
theorem d_Mo_findTimes_18 : decode (am_c m_Mo_findTimes) 18 = .ok (.iconst 0, 1) := by decide +kernel
theorem d_Mo_findTimes_19 : decode (am_c m_Mo_findTimes) 19 = .ok (.goto 5, 3) := by decide +kernel
theorem d_Mo_findTimes_22 : decode (am_c m_Mo_findTimes) 22 = .ok (.ldc 149, 2) := by decide +kernel
theorem d_Mo_findTimes_24 : decode (am_c m_Mo_findTimes) 24 = .ok (.iastore, 1) := by decide +kernel
theorem d_Mo_findTimes_25 : decode (am_c m_Mo_findTimes) 25 = .ok (.iinc 3 1, 3) := by decide +kernel
theorem d_Mo_findTimes_28 : decode (am_c m_Mo_findTimes) 28 = .ok (.goto (-26), 3) := by decide +kernel
theorem d_Mo_findTimes_31 : decode (am_c m_Mo_findTimes) 31 = .ok (.iconst 1, 1) := by decide +kernel
theorem d_Mo_findTimes_32 : decode (am_c m_Mo_findTimes) 32 = .ok (.istore_n 3, 1) := by decide +kernel
theorem d_Mo_findTimes_33 : decode (am_c m_Mo_findTimes) 33 = .ok (.iload_n 3, 1) := by decide +kernel
theorem d_Mo_findTimes_34 : decode (am_c m_Mo_findTimes) 34 = .ok (.ifCond .eq 192, 3) := by decide +kernel
theorem d_Mo_findTimes_37 : decode (am_c m_Mo_findTimes) 37 = .ok (.iconst 0, 1) := by decide +kernel
theorem d_Mo_findTimes_38 : decode (am_c m_Mo_findTimes) 38 = .ok (.istore_n 3, 1) := by decide +kernel
theorem d_Mo_findTimes_39 : decode (am_c m_Mo_findTimes) 39 = .ok (.iconst 0, 1) := by decide +kernel
theorem d_Mo_findTimes_40 : decode (am_c m_Mo_findTimes) 40 = .ok (.istore 4, 2) := by decide +kernel
theorem d_Mo_findTimes_42 : decode (am_c m_Mo_findTimes) 42 = .ok (.iload 4, 2) := by decide +kernel
theorem d_Mo_findTimes_44 : decode (am_c m_Mo_findTimes) 44 = .ok (.aload_n 0, 1) := by decide +kernel
theorem d_Mo_findTimes_45 : decode (am_c m_Mo_findTimes) 45 = .ok (.invokevirtual 118, 3) := by decide +kernel
theorem d_Mo_findTimes_48 : decode (am_c m_Mo_findTimes) 48 = .ok (.if_icmp .ge 175, 3) := by decide +kernel
theorem d_Mo_findTimes_51 : decode (am_c m_Mo_findTimes) 51 = .ok (.iconst 0, 1) := by decide +kernel
theorem d_Mo_findTimes_52 : decode (am_c m_Mo_findTimes) 52 = .ok (.istore 5, 2) := by decide +kernel
theorem d_Mo_findTimes_54 : decode (am_c m_Mo_findTimes) 54 = .ok (.iload 5, 2) := by decide +kernel
theorem d_Mo_findTimes_56 : decode (am_c m_Mo_findTimes) 56 = .ok (.iconst 4, 1) := by decide +kernel
theorem d_Mo_findTimes_57 : decode (am_c m_Mo_findTimes) 57 = .ok (.if_icmp .ge 160, 3) := by decide +kernel
theorem d_Mo_findTimes_60 : decode (am_c m_Mo_findTimes) 60 = .ok (.iload 4, 2) := by decide +kernel
theorem d_Mo_findTimes_62 : decode (am_c m_Mo_findTimes) 62 = .ok (.aload_n 0, 1) := by decide +kernel
theorem d_Mo_findTimes_63 : decode (am_c m_Mo_findTimes) 63 = .ok (.getfield 7, 3) := by decide +kernel
theorem d_Mo_findTimes_66 : decode (am_c m_Mo_findTimes) 66 = .ok (.irem, 1) := by decide +kernel
theorem d_Mo_findTimes_67 : decode (am_c m_Mo_findTimes) 67 = .ok (.iload 5, 2) := by decide +kernel
theorem d_Mo_findTimes_69 : decode (am_c m_Mo_findTimes) 69 = .ok (.ifCond .ne 7, 3) := by decide +kernel
theorem d_Mo_findTimes_72 : decode (am_c m_Mo_findTimes) 72 = .ok (.iconst 1, 1) := by decide +kernel
theorem d_Mo_findTimes_73 : decode (am_c m_Mo_findTimes) 73 = .ok (.goto 14, 3) := by decide +kernel
theorem d_Mo_findTimes_76 : decode (am_c m_Mo_findTimes) 76 = .ok (.iload 5, 2) := by decide +kernel
theorem d_Mo_findTimes_78 : decode (am_c m_Mo_findTimes) 78 = .ok (.iconst 1, 1) := by decide +kernel
theorem d_Mo_findTimes_79 : decode (am_c m_Mo_findTimes) 79 = .ok (.if_icmp .ne 7, 3) := by decide +kernel
theorem d_Mo_findTimes_82 : decode (am_c m_Mo_findTimes) 82 = .ok (.iconst (-1), 1) := by decide +kernel
theorem d_Mo_findTimes_83 : decode (am_c m_Mo_findTimes) 83 = .ok (.goto 4, 3) := by decide +kernel
theorem d_Mo_findTimes_86 : decode (am_c m_Mo_findTimes) 86 = .ok (.iconst 0, 1) := by decide +kernel
theorem d_Mo_findTimes_87 : decode (am_c m_Mo_findTimes) 87 = .ok (.iadd, 1) := by decide +kernel
theorem d_Mo_findTimes_88 : decode (am_c m_Mo_findTimes) 88 = .ok (.istore 6, 2) := by decide +kernel
theorem d_Mo_findTimes_90 : decode (am_c m_Mo_findTimes) 90 = .ok (.iload 4, 2) := by decide +kernel
theorem d_Mo_findTimes_92 : decode (am_c m_Mo_findTimes) 92 = .ok (.aload_n 0, 1) := by decide +kernel
theorem d_Mo_findTimes_93 : decode (am_c m_Mo_findTimes) 93 = .ok (.getfield 7, 3) := by decide +kernel
theorem d_Mo_findTimes_96 : decode (am_c m_Mo_findTimes) 96 = .ok (.idiv, 1) := by decide +kernel
theorem d_Mo_findTimes_97 : decode (am_c m_Mo_findTimes) 97 = .ok (.iload 5, 2) := by decide +kernel
theorem d_Mo_findTimes_99 : decode (am_c m_Mo_findTimes) 99 = .ok (.iconst 2, 1) := by decide +kernel
theorem d_Mo_findTimes_100 : decode (am_c m_Mo_findTimes) 100 = .ok (.if_icmp .ne 7, 3) := by decide +kernel
theorem d_Mo_findTimes_103 : decode (am_c m_Mo_findTimes) 103 = .ok (.iconst 1, 1) := by decide +kernel
theorem d_Mo_findTimes_104 : decode (am_c m_Mo_findTimes) 104 = .ok (.goto 14, 3) := by decide +kernel
theorem d_Mo_findTimes_107 : decode (am_c m_Mo_findTimes) 107 = .ok (.iload 5, 2) := by decide +kernel
theorem d_Mo_findTimes_109 : decode (am_c m_Mo_findTimes) 109 = .ok (.iconst 3, 1) := by decide +kernel
theorem d_Mo_findTimes_110 : decode (am_c m_Mo_findTimes) 110 = .ok (.if_icmp .ne 7, 3) := by decide +kernel
theorem d_Mo_findTimes_113 : decode (am_c m_Mo_findTimes) 113 = .ok (.iconst (-1), 1) := by decide +kernel
theorem d_Mo_findTimes_114 : decode (am_c m_Mo_findTimes) 114 = .ok (.goto 4, 3) := by decide +kernel
theorem d_Mo_findTimes_117 : decode (am_c m_Mo_findTimes) 117 = .ok (.iconst 0, 1) := by decide +kernel
theorem d_Mo_findTimes_118 : decode (am_c m_Mo_findTimes) 118 = .ok (.iadd, 1) := by decide +kernel
theorem d_Mo_findTimes_119 : decode (am_c m_Mo_findTimes) 119 = .ok (.istore 7, 2) := by decide +kernel
theorem d_Mo_findTimes_121 : decode (am_c m_Mo_findTimes) 121 = .ok (.iload 6, 2) := by decide +kernel
theorem d_Mo_findTimes_123 : decode (am_c m_Mo_findTimes) 123 = .ok (.iconst 0, 1) := by decide +kernel
theorem d_Mo_findTimes_124 : decode (am_c m_Mo_findTimes) 124 = .ok (.aload_n 0, 1) := by decide +kernel
theorem d_Mo_findTimes_125 : decode (am_c m_Mo_findTimes) 125 = .ok (.getfield 7, 3) := by decide +kernel
theorem d_Mo_findTimes_128 : decode (am_c m_Mo_findTimes) 128 = .ok (.iconst 1, 1) := by decide +kernel
theorem d_Mo_findTimes_129 : decode (am_c m_Mo_findTimes) 129 = .ok (.isub, 1) := by decide +kernel
theorem d_Mo_findTimes_130 : decode (am_c m_Mo_findTimes) 130 = .ok (.invokestatic 122, 3) := by decide +kernel
theorem d_Mo_findTimes_133 : decode (am_c m_Mo_findTimes) 133 = .ok (.ifCond .eq 78, 3) := by decide +kernel
theorem d_Mo_findTimes_136 : decode (am_c m_Mo_findTimes) 136 = .ok (.iload 7, 2) := by decide +kernel
theorem d_Mo_findTimes_138 : decode (am_c m_Mo_findTimes) 138 = .ok (.iconst 0, 1) := by decide +kernel
theorem d_Mo_findTimes_139 : decode (am_c m_Mo_findTimes) 139 = .ok (.aload_n 0, 1) := by decide +kernel
theorem d_Mo_findTimes_140 : decode (am_c m_Mo_findTimes) 140 = .ok (.getfield 13, 3) := by decide +kernel
theorem d_Mo_findTimes_143 : decode (am_c m_Mo_findTimes) 143 = .ok (.iconst 1, 1) := by decide +kernel
theorem d_Mo_findTimes_144 : decode (am_c m_Mo_findTimes) 144 = .ok (.isub, 1) := by decide +kernel
theorem d_Mo_findTimes_145 : decode (am_c m_Mo_findTimes) 145 = .ok (.invokestatic 122, 3) := by decide +kernel
theorem d_Mo_findTimes_148 : decode (am_c m_Mo_findTimes) 148 = .ok (.ifCond .eq 63, 3) := by decide +kernel
theorem d_Mo_findTimes_151 : decode (am_c m_Mo_findTimes) 151 = .ok (.aload_n 0, 1) := by decide +kernel
theorem d_Mo_findTimes_152 : decode (am_c m_Mo_findTimes) 152 = .ok (.getfield 7, 3) := by decide +kernel
theorem d_Mo_findTimes_155 : decode (am_c m_Mo_findTimes) 155 = .ok (.iload 7, 2) := by decide +kernel
theorem d_Mo_findTimes_157 : decode (am_c m_Mo_findTimes) 157 = .ok (.imul, 1) := by decide +kernel
theorem d_Mo_findTimes_158 : decode (am_c m_Mo_findTimes) 158 = .ok (.iload 6, 2) := by decide +kernel
theorem d_Mo_findTimes_160 : decode (am_c m_Mo_findTimes) 160 = .ok (.iadd, 1) := by decide +kernel
theorem d_Mo_findTimes_161 : decode (am_c m_Mo_findTimes) 161 = .ok (.istore 8, 2) := by decide +kernel
theorem d_Mo_findTimes_163 : decode (am_c m_Mo_findTimes) 163 = .ok (.aload_n 0, 1) := by decide +kernel
theorem d_Mo_findTimes_164 : decode (am_c m_Mo_findTimes) 164 = .ok (.getfield 69, 3) := by decide +kernel
theorem d_Mo_findTimes_167 : decode (am_c m_Mo_findTimes) 167 = .ok (.iload 4, 2) := by decide +kernel
theorem d_Mo_findTimes_169 : decode (am_c m_Mo_findTimes) 169 = .ok (.iaload, 1) := by decide +kernel
theorem d_Mo_findTimes_170 : decode (am_c m_Mo_findTimes) 170 = .ok (.aload_n 0, 1) := by decide +kernel
theorem d_Mo_findTimes_171 : decode (am_c m_Mo_findTimes) 171 = .ok (.iload 4, 2) := by decide +kernel
theorem d_Mo_findTimes_173 : decode (am_c m_Mo_findTimes) 173 = .ok (.iload_n 2, 1) := by decide +kernel
theorem d_Mo_findTimes_174 : decode (am_c m_Mo_findTimes) 174 = .ok (.invokevirtual 150, 3) := by decide +kernel
theorem d_Mo_findTimes_177 : decode (am_c m_Mo_findTimes) 177 = .ok (.iadd, 1) := by decide +kernel
theorem d_Mo_findTimes_178 : decode (am_c m_Mo_findTimes) 178 = .ok (.aload_n 0, 1) := by decide +kernel
theorem d_Mo_findTimes_179 : decode (am_c m_Mo_findTimes) 179 = .ok (.iload 8, 2) := by decide +kernel
theorem d_Mo_findTimes_181 : decode (am_c m_Mo_findTimes) 181 = .ok (.iload_n 2, 1) := by decide +kernel
theorem d_Mo_findTimes_182 : decode (am_c m_Mo_findTimes) 182 = .ok (.invokevirtual 150, 3) := by decide +kernel
theorem d_Mo_findTimes_185 : decode (am_c m_Mo_findTimes) 185 = .ok (.iadd, 1) := by decide +kernel
theorem d_Mo_findTimes_186 : decode (am_c m_Mo_findTimes) 186 = .ok (.istore 9, 2) := by decide +kernel
theorem d_Mo_findTimes_188 : decode (am_c m_Mo_findTimes) 188 = .ok (.iload 9, 2) := by decide +kernel
theorem d_Mo_findTimes_190 : decode (am_c m_Mo_findTimes) 190 = .ok (.aload_n 0, 1) := by decide +kernel
theorem d_Mo_findTimes_191 : decode (am_c m_Mo_findTimes) 191 = .ok (.getfield 69, 3) := by decide +kernel
theorem d_Mo_findTimes_194 : decode (am_c m_Mo_findTimes) 194 = .ok (.iload 8, 2) := by decide +kernel
theorem d_Mo_findTimes_196 : decode (am_c m_Mo_findTimes) 196 = .ok (.iaload, 1) := by decide +kernel
theorem d_Mo_findTimes_197 : decode (am_c m_Mo_findTimes) 197 = .ok (.if_icmp .ge 14, 3) := by decide +kernel
theorem d_Mo_findTimes_200 : decode (am_c m_Mo_findTimes) 200 = .ok (.aload_n 0, 1) := by decide +kernel
theorem d_Mo_findTimes_201 : decode (am_c m_Mo_findTimes) 201 = .ok (.getfield 69, 3) := by decide +kernel
theorem d_Mo_findTimes_204 : decode (am_c m_Mo_findTimes) 204 = .ok (.iload 8, 2) := by decide +kernel
theorem d_Mo_findTimes_206 : decode (am_c m_Mo_findTimes) 206 = .ok (.iload 9, 2) := by decide +kernel
theorem d_Mo_findTimes_208 : decode (am_c m_Mo_findTimes) 208 = .ok (.iastore, 1) := by decide +kernel
theorem d_Mo_findTimes_209 : decode (am_c m_Mo_findTimes) 209 = .ok (.iconst 1, 1) := by decide +kernel
theorem d_Mo_findTimes_210 : decode (am_c m_Mo_findTimes) 210 = .ok (.istore_n 3, 1) := by decide +kernel
theorem d_Mo_findTimes_211 : decode (am_c m_Mo_findTimes) 211 = .ok (.iinc 5 1, 3) := by decide +kernel
theorem d_Mo_findTimes_214 : decode (am_c m_Mo_findTimes) 214 = .ok (.goto (-160), 3) := by decide +kernel
theorem d_Mo_findTimes_217 : decode (am_c m_Mo_findTimes) 217 = .ok (.iinc 4 1, 3) := by decide +kernel
theorem d_Mo_findTimes_220 : decode (am_c m_Mo_findTimes) 220 = .ok (.goto (-178), 3) := by decide +kernel
theorem d_Mo_findTimes_223 : decode (am_c m_Mo_findTimes) 223 = .ok (.goto (-190), 3) := by decide +kernel
theorem d_Mo_findTimes_226 : decode (am_c m_Mo_findTimes) 226 = .ok (.return_, 1) := by decide +kernel
theorem d_Mo_slowAt_0 : decode (am_c m_Mo_slowAt) 0 = .ok (.aload_n 0, 1) := by decide +kernel
theorem d_Mo_slowAt_1 : decode (am_c m_Mo_slowAt) 1 = .ok (.getfield 20, 3) := by decide +kernel
theorem d_Mo_slowAt_4 : decode (am_c m_Mo_slowAt) 4 = .ok (.aload_n 0, 1) := by decide +kernel
theorem d_Mo_slowAt_5 : decode (am_c m_Mo_slowAt) 5 = .ok (.getfield 16, 3) := by decide +kernel
theorem d_Mo_slowAt_8 : decode (am_c m_Mo_slowAt) 8 = .ok (.iload_n 1, 1) := by decide +kernel
theorem d_Mo_slowAt_9 : decode (am_c m_Mo_slowAt) 9 = .ok (.iaload, 1) := by decide +kernel
theorem d_Mo_slowAt_10 : decode (am_c m_Mo_slowAt) 10 = .ok (.iaload, 1) := by decide +kernel
theorem d_Mo_slowAt_11 : decode (am_c m_Mo_slowAt) 11 = .ok (.istore_n 3, 1) := by decide +kernel
theorem d_Mo_slowAt_12 : decode (am_c m_Mo_slowAt) 12 = .ok (.iload_n 2, 1) := by decide +kernel
theorem d_Mo_slowAt_13 : decode (am_c m_Mo_slowAt) 13 = .ok (.ifCond .ne 7, 3) := by decide +kernel
theorem d_Mo_slowAt_16 : decode (am_c m_Mo_slowAt) 16 = .ok (.iload_n 3, 1) := by decide +kernel
theorem d_Mo_slowAt_17 : decode (am_c m_Mo_slowAt) 17 = .ok (.goto 12, 3) := by decide +kernel
theorem d_Mo_slowAt_20 : decode (am_c m_Mo_slowAt) 20 = .ok (.iload_n 3, 1) := by decide +kernel
theorem d_Mo_slowAt_21 : decode (am_c m_Mo_slowAt) 21 = .ok (.aload_n 0, 1) := by decide +kernel
theorem d_Mo_slowAt_22 : decode (am_c m_Mo_slowAt) 22 = .ok (.getfield 23, 3) := by decide +kernel
theorem d_Mo_slowAt_25 : decode (am_c m_Mo_slowAt) 25 = .ok (.imul, 1) := by decide +kernel
theorem d_Mo_slowAt_26 : decode (am_c m_Mo_slowAt) 26 = .ok (.bipush 10, 2) := by decide +kernel
theorem d_Mo_slowAt_28 : decode (am_c m_Mo_slowAt) 28 = .ok (.idiv, 1) := by decide +kernel
theorem d_Mo_slowAt_29 : decode (am_c m_Mo_slowAt) 29 = .ok (.ireturn, 1) := by decide +kernel
theorem d_Mo_way_0 : decode (am_c m_Mo_way) 0 = .ok (.aload_n 0, 1) := by decide +kernel
theorem d_Mo_way_1 : decode (am_c m_Mo_way) 1 = .ok (.iload_n 1, 1) := by decide +kernel
theorem d_Mo_way_2 : decode (am_c m_Mo_way) 2 = .ok (.invokevirtual 146, 3) := by decide +kernel
theorem d_Mo_way_5 : decode (am_c m_Mo_way) 5 = .ok (.ifCond .eq 11, 3) := by decide +kernel
theorem d_Mo_way_8 : decode (am_c m_Mo_way) 8 = .ok (.aload_n 0, 1) := by decide +kernel
theorem d_Mo_way_9 : decode (am_c m_Mo_way) 9 = .ok (.iload_n 2, 1) := by decide +kernel
theorem d_Mo_way_10 : decode (am_c m_Mo_way) 10 = .ok (.invokevirtual 146, 3) := by decide +kernel
theorem d_Mo_way_13 : decode (am_c m_Mo_way) 13 = .ok (.ifCond .ne 6, 3) := by decide +kernel
theorem d_Mo_way_16 : decode (am_c m_Mo_way) 16 = .ok (.bipush (-2), 2) := by decide +kernel
theorem d_Mo_way_18 : decode (am_c m_Mo_way) 18 = .ok (.ireturn, 1) := by decide +kernel
theorem d_Mo_way_19 : decode (am_c m_Mo_way) 19 = .ok (.iload_n 3, 1) := by decide +kernel
theorem d_Mo_way_20 : decode (am_c m_Mo_way) 20 = .ok (.invokestatic 154, 3) := by decide +kernel
theorem d_Mo_way_23 : decode (am_c m_Mo_way) 23 = .ok (.ifCond .eq 8, 3) := by decide +kernel
theorem d_Mo_way_26 : decode (am_c m_Mo_way) 26 = .ok (.iload 4, 2) := by decide +kernel
theorem d_Mo_way_28 : decode (am_c m_Mo_way) 28 = .ok (.ifCond .ge 6, 3) := by decide +kernel
theorem d_Mo_way_31 : decode (am_c m_Mo_way) 31 = .ok (.bipush (-3), 2) := by decide +kernel
theorem d_Mo_way_33 : decode (am_c m_Mo_way) 33 = .ok (.ireturn, 1) := by decide +kernel
theorem d_Mo_way_34 : decode (am_c m_Mo_way) 34 = .ok (.aload_n 0, 1) := by decide +kernel
theorem d_Mo_way_35 : decode (am_c m_Mo_way) 35 = .ok (.iload_n 2, 1) := by decide +kernel
theorem d_Mo_way_36 : decode (am_c m_Mo_way) 36 = .ok (.iload_n 3, 1) := by decide +kernel
theorem d_Mo_way_37 : decode (am_c m_Mo_way) 37 = .ok (.invokevirtual 157, 3) := by decide +kernel
theorem d_Mo_way_40 : decode (am_c m_Mo_way) 40 = .ok (.iload_n 1, 1) := by decide +kernel
theorem d_Mo_way_41 : decode (am_c m_Mo_way) 41 = .ok (.istore 5, 2) := by decide +kernel
theorem d_Mo_way_43 : decode (am_c m_Mo_way) 43 = .ok (.iconst 0, 1) := by decide +kernel
theorem d_Mo_way_44 : decode (am_c m_Mo_way) 44 = .ok (.istore 6, 2) := by decide +kernel
theorem d_Mo_way_46 : decode (am_c m_Mo_way) 46 = .ok (.iload 6, 2) := by decide +kernel
theorem d_Mo_way_48 : decode (am_c m_Mo_way) 48 = .ok (.iload 4, 2) := by decide +kernel
theorem d_Mo_way_50 : decode (am_c m_Mo_way) 50 = .ok (.if_icmp .ge 24, 3) := by decide +kernel
theorem d_Mo_way_53 : decode (am_c m_Mo_way) 53 = .ok (.iload 5, 2) := by decide +kernel
theorem d_Mo_way_55 : decode (am_c m_Mo_way) 55 = .ok (.iload_n 2, 1) := by decide +kernel
theorem d_Mo_way_56 : decode (am_c m_Mo_way) 56 = .ok (.if_icmp .eq 18, 3) := by decide +kernel
theorem d_Mo_way_59 : decode (am_c m_Mo_way) 59 = .ok (.aload_n 0, 1) := by decide +kernel
theorem d_Mo_way_60 : decode (am_c m_Mo_way) 60 = .ok (.iload 5, 2) := by decide +kernel
theorem d_Mo_way_62 : decode (am_c m_Mo_way) 62 = .ok (.iload_n 3, 1) := by decide +kernel
theorem d_Mo_way_63 : decode (am_c m_Mo_way) 63 = .ok (.invokevirtual 165, 3) := by decide +kernel
theorem d_Mo_way_66 : decode (am_c m_Mo_way) 66 = .ok (.istore 5, 2) := by decide +kernel
theorem d_Mo_way_68 : decode (am_c m_Mo_way) 68 = .ok (.iinc 6 1, 3) := by decide +kernel
theorem d_Mo_way_71 : decode (am_c m_Mo_way) 71 = .ok (.goto (-25), 3) := by decide +kernel
theorem d_Mo_way_74 : decode (am_c m_Mo_way) 74 = .ok (.iload 6, 2) := by decide +kernel
theorem d_Mo_way_76 : decode (am_c m_Mo_way) 76 = .ok (.iload 4, 2) := by decide +kernel
theorem d_Mo_way_78 : decode (am_c m_Mo_way) 78 = .ok (.if_icmp .ne 8, 3) := by decide +kernel
theorem d_Mo_way_81 : decode (am_c m_Mo_way) 81 = .ok (.iload 5, 2) := by decide +kernel
theorem d_Mo_way_83 : decode (am_c m_Mo_way) 83 = .ok (.goto 4, 3) := by decide +kernel
theorem d_Mo_way_86 : decode (am_c m_Mo_way) 86 = .ok (.iconst (-1), 1) := by decide +kernel
theorem d_Mo_way_87 : decode (am_c m_Mo_way) 87 = .ok (.ireturn, 1) := by decide +kernel
theorem d_Mo_nextOf_0 : decode (am_c m_Mo_nextOf) 0 = .ok (.iconst 0, 1) := by decide +kernel
theorem d_Mo_nextOf_1 : decode (am_c m_Mo_nextOf) 1 = .ok (.istore_n 3, 1) := by decide +kernel
theorem d_Mo_nextOf_2 : decode (am_c m_Mo_nextOf) 2 = .ok (.aload_n 0, 1) := by decide +kernel
theorem d_Mo_nextOf_3 : decode (am_c m_Mo_nextOf) 3 = .ok (.iload_n 1, 1) := by decide +kernel
theorem d_Mo_nextOf_4 : decode (am_c m_Mo_nextOf) 4 = .ok (.iload_n 3, 1) := by decide +kernel
theorem d_Mo_nextOf_5 : decode (am_c m_Mo_nextOf) 5 = .ok (.invokevirtual 161, 3) := by decide +kernel
theorem d_Mo_nextOf_8 : decode (am_c m_Mo_nextOf) 8 = .ok (.ifCond .eq 32, 3) := by decide +kernel
theorem d_Mo_nextOf_11 : decode (am_c m_Mo_nextOf) 11 = .ok (.aload_n 0, 1) := by decide +kernel
theorem d_Mo_nextOf_12 : decode (am_c m_Mo_nextOf) 12 = .ok (.getfield 69, 3) := by decide +kernel
theorem d_Mo_nextOf_15 : decode (am_c m_Mo_nextOf) 15 = .ok (.iload_n 3, 1) := by decide +kernel
theorem d_Mo_nextOf_16 : decode (am_c m_Mo_nextOf) 16 = .ok (.iaload, 1) := by decide +kernel
theorem d_Mo_nextOf_17 : decode (am_c m_Mo_nextOf) 17 = .ok (.aload_n 0, 1) := by decide +kernel
theorem d_Mo_nextOf_18 : decode (am_c m_Mo_nextOf) 18 = .ok (.iload_n 1, 1) := by decide +kernel
theorem d_Mo_nextOf_19 : decode (am_c m_Mo_nextOf) 19 = .ok (.iload_n 2, 1) := by decide +kernel
theorem d_Mo_nextOf_20 : decode (am_c m_Mo_nextOf) 20 = .ok (.invokevirtual 150, 3) := by decide +kernel
theorem d_Mo_nextOf_23 : decode (am_c m_Mo_nextOf) 23 = .ok (.iadd, 1) := by decide +kernel
theorem d_Mo_nextOf_24 : decode (am_c m_Mo_nextOf) 24 = .ok (.aload_n 0, 1) := by decide +kernel
theorem d_Mo_nextOf_25 : decode (am_c m_Mo_nextOf) 25 = .ok (.iload_n 3, 1) := by decide +kernel
theorem d_Mo_nextOf_26 : decode (am_c m_Mo_nextOf) 26 = .ok (.iload_n 2, 1) := by decide +kernel
theorem d_Mo_nextOf_27 : decode (am_c m_Mo_nextOf) 27 = .ok (.invokevirtual 150, 3) := by decide +kernel
theorem d_Mo_nextOf_30 : decode (am_c m_Mo_nextOf) 30 = .ok (.iadd, 1) := by decide +kernel
theorem d_Mo_nextOf_31 : decode (am_c m_Mo_nextOf) 31 = .ok (.aload_n 0, 1) := by decide +kernel
theorem d_Mo_nextOf_32 : decode (am_c m_Mo_nextOf) 32 = .ok (.getfield 69, 3) := by decide +kernel
theorem d_Mo_nextOf_35 : decode (am_c m_Mo_nextOf) 35 = .ok (.iload_n 1, 1) := by decide +kernel
theorem d_Mo_nextOf_36 : decode (am_c m_Mo_nextOf) 36 = .ok (.iaload, 1) := by decide +kernel
theorem d_Mo_nextOf_37 : decode (am_c m_Mo_nextOf) 37 = .ok (.if_icmp .eq 9, 3) := by decide +kernel
theorem d_Mo_nextOf_40 : decode (am_c m_Mo_nextOf) 40 = .ok (.iinc 3 1, 3) := by decide +kernel
theorem d_Mo_nextOf_43 : decode (am_c m_Mo_nextOf) 43 = .ok (.goto (-41), 3) := by decide +kernel
theorem d_Mo_nextOf_46 : decode (am_c m_Mo_nextOf) 46 = .ok (.iload_n 3, 1) := by decide +kernel
theorem d_Mo_nextOf_47 : decode (am_c m_Mo_nextOf) 47 = .ok (.ireturn, 1) := by decide +kernel
theorem d_Mo_areBeside_0 : decode (am_c m_Mo_areBeside) 0 = .ok (.iload_n 1, 1) := by decide +kernel
theorem d_Mo_areBeside_1 : decode (am_c m_Mo_areBeside) 1 = .ok (.aload_n 0, 1) := by decide +kernel
theorem d_Mo_areBeside_2 : decode (am_c m_Mo_areBeside) 2 = .ok (.getfield 7, 3) := by decide +kernel
theorem d_Mo_areBeside_5 : decode (am_c m_Mo_areBeside) 5 = .ok (.irem, 1) := by decide +kernel
theorem d_Mo_areBeside_6 : decode (am_c m_Mo_areBeside) 6 = .ok (.iload_n 2, 1) := by decide +kernel
theorem d_Mo_areBeside_7 : decode (am_c m_Mo_areBeside) 7 = .ok (.aload_n 0, 1) := by decide +kernel
theorem d_Mo_areBeside_8 : decode (am_c m_Mo_areBeside) 8 = .ok (.getfield 7, 3) := by decide +kernel
theorem d_Mo_areBeside_11 : decode (am_c m_Mo_areBeside) 11 = .ok (.irem, 1) := by decide +kernel
theorem d_Mo_areBeside_12 : decode (am_c m_Mo_areBeside) 12 = .ok (.isub, 1) := by decide +kernel
theorem d_Mo_areBeside_13 : decode (am_c m_Mo_areBeside) 13 = .ok (.istore_n 3, 1) := by decide +kernel
theorem d_Mo_areBeside_14 : decode (am_c m_Mo_areBeside) 14 = .ok (.iload_n 1, 1) := by decide +kernel
theorem d_Mo_areBeside_15 : decode (am_c m_Mo_areBeside) 15 = .ok (.aload_n 0, 1) := by decide +kernel
theorem d_Mo_areBeside_16 : decode (am_c m_Mo_areBeside) 16 = .ok (.getfield 7, 3) := by decide +kernel
theorem d_Mo_areBeside_19 : decode (am_c m_Mo_areBeside) 19 = .ok (.idiv, 1) := by decide +kernel
theorem d_Mo_areBeside_20 : decode (am_c m_Mo_areBeside) 20 = .ok (.iload_n 2, 1) := by decide +kernel
theorem d_Mo_areBeside_21 : decode (am_c m_Mo_areBeside) 21 = .ok (.aload_n 0, 1) := by decide +kernel
theorem d_Mo_areBeside_22 : decode (am_c m_Mo_areBeside) 22 = .ok (.getfield 7, 3) := by decide +kernel
theorem d_Mo_areBeside_25 : decode (am_c m_Mo_areBeside) 25 = .ok (.idiv, 1) := by decide +kernel
theorem d_Mo_areBeside_26 : decode (am_c m_Mo_areBeside) 26 = .ok (.isub, 1) := by decide +kernel
theorem d_Mo_areBeside_27 : decode (am_c m_Mo_areBeside) 27 = .ok (.istore 4, 2) := by decide +kernel
theorem d_Mo_areBeside_29 : decode (am_c m_Mo_areBeside) 29 = .ok (.iload_n 3, 1) := by decide +kernel
theorem d_Mo_areBeside_30 : decode (am_c m_Mo_areBeside) 30 = .ok (.iload_n 3, 1) := by decide +kernel
theorem d_Mo_areBeside_31 : decode (am_c m_Mo_areBeside) 31 = .ok (.imul, 1) := by decide +kernel
theorem d_Mo_areBeside_32 : decode (am_c m_Mo_areBeside) 32 = .ok (.iload 4, 2) := by decide +kernel
theorem d_Mo_areBeside_34 : decode (am_c m_Mo_areBeside) 34 = .ok (.iload 4, 2) := by decide +kernel
theorem d_Mo_areBeside_36 : decode (am_c m_Mo_areBeside) 36 = .ok (.imul, 1) := by decide +kernel
theorem d_Mo_areBeside_37 : decode (am_c m_Mo_areBeside) 37 = .ok (.iadd, 1) := by decide +kernel
theorem d_Mo_areBeside_38 : decode (am_c m_Mo_areBeside) 38 = .ok (.iconst 1, 1) := by decide +kernel
theorem d_Mo_areBeside_39 : decode (am_c m_Mo_areBeside) 39 = .ok (.if_icmp .ne 7, 3) := by decide +kernel
theorem d_Mo_areBeside_42 : decode (am_c m_Mo_areBeside) 42 = .ok (.iconst 1, 1) := by decide +kernel
theorem d_Mo_areBeside_43 : decode (am_c m_Mo_areBeside) 43 = .ok (.goto 4, 3) := by decide +kernel
theorem d_Mo_areBeside_46 : decode (am_c m_Mo_areBeside) 46 = .ok (.iconst 0, 1) := by decide +kernel
theorem d_Mo_areBeside_47 : decode (am_c m_Mo_areBeside) 47 = .ok (.ireturn, 1) := by decide +kernel
theorem d_Mo_ear_0 : decode (am_c m_Mo_ear) 0 = .ok (.aload_n 0, 1) := by decide +kernel
theorem d_Mo_ear_1 : decode (am_c m_Mo_ear) 1 = .ok (.iload_n 1, 1) := by decide +kernel
theorem d_Mo_ear_2 : decode (am_c m_Mo_ear) 2 = .ok (.invokevirtual 146, 3) := by decide +kernel
theorem d_Mo_ear_5 : decode (am_c m_Mo_ear) 5 = .ok (.ifCond .ne 6, 3) := by decide +kernel
theorem d_Mo_ear_8 : decode (am_c m_Mo_ear) 8 = .ok (.bipush (-2), 2) := by decide +kernel
theorem d_Mo_ear_10 : decode (am_c m_Mo_ear) 10 = .ok (.ireturn, 1) := by decide +kernel
theorem d_Mo_ear_11 : decode (am_c m_Mo_ear) 11 = .ok (.aload_n 0, 1) := by decide +kernel
theorem d_Mo_ear_12 : decode (am_c m_Mo_ear) 12 = .ok (.getfield 126, 3) := by decide +kernel
theorem d_Mo_ear_15 : decode (am_c m_Mo_ear) 15 = .ok (.bipush 6, 2) := by decide +kernel
theorem d_Mo_ear_17 : decode (am_c m_Mo_ear) 17 = .ok (.if_icmp .ne 6, 3) := by decide +kernel
theorem d_Mo_ear_20 : decode (am_c m_Mo_ear) 20 = .ok (.bipush (-5), 2) := by decide +kernel
theorem d_Mo_ear_22 : decode (am_c m_Mo_ear) 22 = .ok (.ireturn, 1) := by decide +kernel
theorem d_Mo_ear_23 : decode (am_c m_Mo_ear) 23 = .ok (.aload_n 0, 1) := by decide +kernel
theorem d_Mo_ear_24 : decode (am_c m_Mo_ear) 24 = .ok (.getfield 26, 3) := by decide +kernel
theorem d_Mo_ear_27 : decode (am_c m_Mo_ear) 27 = .ok (.aload_n 0, 1) := by decide +kernel
theorem d_Mo_ear_28 : decode (am_c m_Mo_ear) 28 = .ok (.getfield 126, 3) := by decide +kernel
theorem d_Mo_ear_31 : decode (am_c m_Mo_ear) 31 = .ok (.iload_n 1, 1) := by decide +kernel
theorem d_Mo_ear_32 : decode (am_c m_Mo_ear) 32 = .ok (.iastore, 1) := by decide +kernel
theorem d_Mo_ear_33 : decode (am_c m_Mo_ear) 33 = .ok (.aload_n 0, 1) := by decide +kernel
theorem d_Mo_ear_34 : decode (am_c m_Mo_ear) 34 = .ok (.getfield 29, 3) := by decide +kernel
theorem d_Mo_ear_37 : decode (am_c m_Mo_ear) 37 = .ok (.aload_n 0, 1) := by decide +kernel
theorem d_Mo_ear_38 : decode (am_c m_Mo_ear) 38 = .ok (.getfield 126, 3) := by decide +kernel
theorem d_Mo_ear_41 : decode (am_c m_Mo_ear) 41 = .ok (.iconst 0, 1) := by decide +kernel
theorem d_Mo_ear_42 : decode (am_c m_Mo_ear) 42 = .ok (.iastore, 1) := by decide +kernel
theorem d_Mo_ear_43 : decode (am_c m_Mo_ear) 43 = .ok (.aload_n 0, 1) := by decide +kernel
theorem d_Mo_ear_44 : decode (am_c m_Mo_ear) 44 = .ok (.dup, 1) := by decide +kernel
theorem d_Mo_ear_45 : decode (am_c m_Mo_ear) 45 = .ok (.getfield 126, 3) := by decide +kernel
theorem d_Mo_ear_48 : decode (am_c m_Mo_ear) 48 = .ok (.iconst 1, 1) := by decide +kernel
theorem d_Mo_ear_49 : decode (am_c m_Mo_ear) 49 = .ok (.iadd, 1) := by decide +kernel
theorem d_Mo_ear_50 : decode (am_c m_Mo_ear) 50 = .ok (.putfield 126, 3) := by decide +kernel
theorem d_Mo_ear_53 : decode (am_c m_Mo_ear) 53 = .ok (.aload_n 0, 1) := by decide +kernel
theorem d_Mo_ear_54 : decode (am_c m_Mo_ear) 54 = .ok (.getfield 126, 3) := by decide +kernel
theorem d_Mo_ear_57 : decode (am_c m_Mo_ear) 57 = .ok (.iconst 1, 1) := by decide +kernel
theorem d_Mo_ear_58 : decode (am_c m_Mo_ear) 58 = .ok (.isub, 1) := by decide +kernel
theorem d_Mo_ear_59 : decode (am_c m_Mo_ear) 59 = .ok (.ireturn, 1) := by decide +kernel
theorem d_Mo_clock_0 : decode (am_c m_Mo_clock) 0 = .ok (.aload_n 0, 1) := by decide +kernel
theorem d_Mo_clock_1 : decode (am_c m_Mo_clock) 1 = .ok (.iload_n 1, 1) := by decide +kernel
theorem d_Mo_clock_2 : decode (am_c m_Mo_clock) 2 = .ok (.invokevirtual 168, 3) := by decide +kernel
theorem d_Mo_clock_5 : decode (am_c m_Mo_clock) 5 = .ok (.ifCond .ne 6, 3) := by decide +kernel
theorem d_Mo_clock_8 : decode (am_c m_Mo_clock) 8 = .ok (.bipush (-2), 2) := by decide +kernel
theorem d_Mo_clock_10 : decode (am_c m_Mo_clock) 10 = .ok (.ireturn, 1) := by decide +kernel
theorem d_Mo_clock_11 : decode (am_c m_Mo_clock) 11 = .ok (.iload_n 2, 1) := by decide +kernel
theorem d_Mo_clock_12 : decode (am_c m_Mo_clock) 12 = .ok (.bipush (-99), 2) := by decide +kernel
theorem d_Mo_clock_14 : decode (am_c m_Mo_clock) 14 = .ok (.bipush 99, 2) := by decide +kernel
theorem d_Mo_clock_16 : decode (am_c m_Mo_clock) 16 = .ok (.invokestatic 122, 3) := by decide +kernel
theorem d_Mo_clock_19 : decode (am_c m_Mo_clock) 19 = .ok (.ifCond .ne 6, 3) := by decide +kernel
theorem d_Mo_clock_22 : decode (am_c m_Mo_clock) 22 = .ok (.bipush (-3), 2) := by decide +kernel
theorem d_Mo_clock_24 : decode (am_c m_Mo_clock) 24 = .ok (.ireturn, 1) := by decide +kernel
theorem d_Mo_clock_25 : decode (am_c m_Mo_clock) 25 = .ok (.aload_n 0, 1) := by decide +kernel
theorem d_Mo_clock_26 : decode (am_c m_Mo_clock) 26 = .ok (.getfield 29, 3) := by decide +kernel
theorem d_Mo_clock_29 : decode (am_c m_Mo_clock) 29 = .ok (.iload_n 1, 1) := by decide +kernel
theorem d_Mo_clock_30 : decode (am_c m_Mo_clock) 30 = .ok (.iload_n 2, 1) := by decide +kernel
theorem d_Mo_clock_31 : decode (am_c m_Mo_clock) 31 = .ok (.iastore, 1) := by decide +kernel
theorem d_Mo_clock_32 : decode (am_c m_Mo_clock) 32 = .ok (.iconst 1, 1) := by decide +kernel
theorem d_Mo_clock_33 : decode (am_c m_Mo_clock) 33 = .ok (.ireturn, 1) := by decide +kernel
theorem d_Mo_isEar_0 : decode (am_c m_Mo_isEar) 0 = .ok (.iload_n 1, 1) := by decide +kernel
theorem d_Mo_isEar_1 : decode (am_c m_Mo_isEar) 1 = .ok (.iconst 0, 1) := by decide +kernel
theorem d_Mo_isEar_2 : decode (am_c m_Mo_isEar) 2 = .ok (.aload_n 0, 1) := by decide +kernel
theorem d_Mo_isEar_3 : decode (am_c m_Mo_isEar) 3 = .ok (.getfield 126, 3) := by decide +kernel
theorem d_Mo_isEar_6 : decode (am_c m_Mo_isEar) 6 = .ok (.iconst 1, 1) := by decide +kernel
theorem d_Mo_isEar_7 : decode (am_c m_Mo_isEar) 7 = .ok (.isub, 1) := by decide +kernel
theorem d_Mo_isEar_8 : decode (am_c m_Mo_isEar) 8 = .ok (.invokestatic 122, 3) := by decide +kernel
theorem d_Mo_isEar_11 : decode (am_c m_Mo_isEar) 11 = .ok (.ireturn, 1) := by decide +kernel
theorem d_Mo_shake_0 : decode (am_c m_Mo_shake) 0 = .ok (.aload_n 0, 1) := by decide +kernel
theorem d_Mo_shake_1 : decode (am_c m_Mo_shake) 1 = .ok (.iload_n 1, 1) := by decide +kernel
theorem d_Mo_shake_2 : decode (am_c m_Mo_shake) 2 = .ok (.invokevirtual 146, 3) := by decide +kernel
theorem d_Mo_shake_5 : decode (am_c m_Mo_shake) 5 = .ok (.ifCond .ne 6, 3) := by decide +kernel
theorem d_Mo_shake_8 : decode (am_c m_Mo_shake) 8 = .ok (.bipush (-2), 2) := by decide +kernel
theorem d_Mo_shake_10 : decode (am_c m_Mo_shake) 10 = .ok (.ireturn, 1) := by decide +kernel
theorem d_Mo_shake_11 : decode (am_c m_Mo_shake) 11 = .ok (.iload_n 2, 1) := by decide +kernel
theorem d_Mo_shake_12 : decode (am_c m_Mo_shake) 12 = .ok (.iconst 0, 1) := by decide +kernel
theorem d_Mo_shake_13 : decode (am_c m_Mo_shake) 13 = .ok (.sipush 1000, 3) := by decide +kernel
theorem d_Mo_shake_16 : decode (am_c m_Mo_shake) 16 = .ok (.invokestatic 122, 3) := by decide +kernel
theorem d_Mo_shake_19 : decode (am_c m_Mo_shake) 19 = .ok (.ifCond .ne 6, 3) := by decide +kernel
theorem d_Mo_shake_22 : decode (am_c m_Mo_shake) 22 = .ok (.bipush (-3), 2) := by decide +kernel
theorem d_Mo_shake_24 : decode (am_c m_Mo_shake) 24 = .ok (.ireturn, 1) := by decide +kernel
theorem d_Mo_shake_25 : decode (am_c m_Mo_shake) 25 = .ok (.aload_n 0, 1) := by decide +kernel
theorem d_Mo_shake_26 : decode (am_c m_Mo_shake) 26 = .ok (.getfield 129, 3) := by decide +kernel
theorem d_Mo_shake_29 : decode (am_c m_Mo_shake) 29 = .ok (.iconst 5, 1) := by decide +kernel
theorem d_Mo_shake_30 : decode (am_c m_Mo_shake) 30 = .ok (.if_icmp .ne 6, 3) := by decide +kernel
theorem d_Mo_shake_33 : decode (am_c m_Mo_shake) 33 = .ok (.bipush (-5), 2) := by decide +kernel
theorem d_Mo_shake_35 : decode (am_c m_Mo_shake) 35 = .ok (.ireturn, 1) := by decide +kernel
theorem d_Mo_shake_36 : decode (am_c m_Mo_shake) 36 = .ok (.aload_n 0, 1) := by decide +kernel
theorem d_Mo_shake_37 : decode (am_c m_Mo_shake) 37 = .ok (.getfield 32, 3) := by decide +kernel
theorem d_Mo_shake_40 : decode (am_c m_Mo_shake) 40 = .ok (.aload_n 0, 1) := by decide +kernel
theorem d_Mo_shake_41 : decode (am_c m_Mo_shake) 41 = .ok (.getfield 129, 3) := by decide +kernel
theorem d_Mo_shake_44 : decode (am_c m_Mo_shake) 44 = .ok (.iload_n 1, 1) := by decide +kernel
theorem d_Mo_shake_45 : decode (am_c m_Mo_shake) 45 = .ok (.iastore, 1) := by decide +kernel
theorem d_Mo_shake_46 : decode (am_c m_Mo_shake) 46 = .ok (.aload_n 0, 1) := by decide +kernel
theorem d_Mo_shake_47 : decode (am_c m_Mo_shake) 47 = .ok (.getfield 35, 3) := by decide +kernel
theorem d_Mo_shake_50 : decode (am_c m_Mo_shake) 50 = .ok (.aload_n 0, 1) := by decide +kernel
theorem d_Mo_shake_51 : decode (am_c m_Mo_shake) 51 = .ok (.getfield 129, 3) := by decide +kernel
theorem d_Mo_shake_54 : decode (am_c m_Mo_shake) 54 = .ok (.iload_n 2, 1) := by decide +kernel
theorem d_Mo_shake_55 : decode (am_c m_Mo_shake) 55 = .ok (.iastore, 1) := by decide +kernel
theorem d_Mo_shake_56 : decode (am_c m_Mo_shake) 56 = .ok (.aload_n 0, 1) := by decide +kernel
theorem d_Mo_shake_57 : decode (am_c m_Mo_shake) 57 = .ok (.dup, 1) := by decide +kernel
theorem d_Mo_shake_58 : decode (am_c m_Mo_shake) 58 = .ok (.getfield 129, 3) := by decide +kernel
theorem d_Mo_shake_61 : decode (am_c m_Mo_shake) 61 = .ok (.iconst 1, 1) := by decide +kernel
theorem d_Mo_shake_62 : decode (am_c m_Mo_shake) 62 = .ok (.iadd, 1) := by decide +kernel
theorem d_Mo_shake_63 : decode (am_c m_Mo_shake) 63 = .ok (.putfield 129, 3) := by decide +kernel
theorem d_Mo_shake_66 : decode (am_c m_Mo_shake) 66 = .ok (.aload_n 0, 1) := by decide +kernel
theorem d_Mo_shake_67 : decode (am_c m_Mo_shake) 67 = .ok (.getfield 129, 3) := by decide +kernel
theorem d_Mo_shake_70 : decode (am_c m_Mo_shake) 70 = .ok (.iconst 1, 1) := by decide +kernel
theorem d_Mo_shake_71 : decode (am_c m_Mo_shake) 71 = .ok (.isub, 1) := by decide +kernel
theorem d_Mo_shake_72 : decode (am_c m_Mo_shake) 72 = .ok (.ireturn, 1) := by decide +kernel
theorem d_Mo_put_0 : decode (am_c m_Mo_put) 0 = .ok (.aload_n 0, 1) := by decide +kernel
theorem d_Mo_put_1 : decode (am_c m_Mo_put) 1 = .ok (.iload_n 1, 1) := by decide +kernel
theorem d_Mo_put_2 : decode (am_c m_Mo_put) 2 = .ok (.invokevirtual 171, 3) := by decide +kernel
theorem d_Mo_put_5 : decode (am_c m_Mo_put) 5 = .ok (.ifCond .eq 11, 3) := by decide +kernel
theorem d_Mo_put_8 : decode (am_c m_Mo_put) 8 = .ok (.aload_n 0, 1) := by decide +kernel
theorem d_Mo_put_9 : decode (am_c m_Mo_put) 9 = .ok (.iload_n 2, 1) := by decide +kernel
theorem d_Mo_put_10 : decode (am_c m_Mo_put) 10 = .ok (.invokevirtual 146, 3) := by decide +kernel
theorem d_Mo_put_13 : decode (am_c m_Mo_put) 13 = .ok (.ifCond .ne 6, 3) := by decide +kernel
theorem d_Mo_put_16 : decode (am_c m_Mo_put) 16 = .ok (.bipush (-2), 2) := by decide +kernel
theorem d_Mo_put_18 : decode (am_c m_Mo_put) 18 = .ok (.ireturn, 1) := by decide +kernel
theorem d_Mo_put_19 : decode (am_c m_Mo_put) 19 = .ok (.iload_n 3, 1) := by decide +kernel
theorem d_Mo_put_20 : decode (am_c m_Mo_put) 20 = .ok (.iconst 0, 1) := by decide +kernel
theorem d_Mo_put_21 : decode (am_c m_Mo_put) 21 = .ok (.sipush 1000, 3) := by decide +kernel
theorem d_Mo_put_24 : decode (am_c m_Mo_put) 24 = .ok (.invokestatic 122, 3) := by decide +kernel
theorem d_Mo_put_27 : decode (am_c m_Mo_put) 27 = .ok (.ifCond .ne 6, 3) := by decide +kernel
theorem d_Mo_put_30 : decode (am_c m_Mo_put) 30 = .ok (.bipush (-3), 2) := by decide +kernel
theorem d_Mo_put_32 : decode (am_c m_Mo_put) 32 = .ok (.ireturn, 1) := by decide +kernel
theorem d_Mo_put_33 : decode (am_c m_Mo_put) 33 = .ok (.aload_n 0, 1) := by decide +kernel
theorem d_Mo_put_34 : decode (am_c m_Mo_put) 34 = .ok (.getfield 32, 3) := by decide +kernel
theorem d_Mo_put_37 : decode (am_c m_Mo_put) 37 = .ok (.iload_n 1, 1) := by decide +kernel
theorem d_Mo_put_38 : decode (am_c m_Mo_put) 38 = .ok (.iload_n 2, 1) := by decide +kernel
theorem d_Mo_put_39 : decode (am_c m_Mo_put) 39 = .ok (.iastore, 1) := by decide +kernel
theorem d_Mo_put_40 : decode (am_c m_Mo_put) 40 = .ok (.aload_n 0, 1) := by decide +kernel
theorem d_Mo_put_41 : decode (am_c m_Mo_put) 41 = .ok (.getfield 35, 3) := by decide +kernel
theorem d_Mo_put_44 : decode (am_c m_Mo_put) 44 = .ok (.iload_n 1, 1) := by decide +kernel
theorem d_Mo_put_45 : decode (am_c m_Mo_put) 45 = .ok (.iload_n 3, 1) := by decide +kernel
theorem d_Mo_put_46 : decode (am_c m_Mo_put) 46 = .ok (.iastore, 1) := by decide +kernel
theorem d_Mo_put_47 : decode (am_c m_Mo_put) 47 = .ok (.iconst 1, 1) := by decide +kernel
theorem d_Mo_put_48 : decode (am_c m_Mo_put) 48 = .ok (.ireturn, 1) := by decide +kernel
theorem d_Mo_isShake_0 : decode (am_c m_Mo_isShake) 0 = .ok (.iload_n 1, 1) := by decide +kernel
theorem d_Mo_isShake_1 : decode (am_c m_Mo_isShake) 1 = .ok (.iconst 0, 1) := by decide +kernel
theorem d_Mo_isShake_2 : decode (am_c m_Mo_isShake) 2 = .ok (.aload_n 0, 1) := by decide +kernel
theorem d_Mo_isShake_3 : decode (am_c m_Mo_isShake) 3 = .ok (.getfield 129, 3) := by decide +kernel
theorem d_Mo_isShake_6 : decode (am_c m_Mo_isShake) 6 = .ok (.iconst 1, 1) := by decide +kernel
theorem d_Mo_isShake_7 : decode (am_c m_Mo_isShake) 7 = .ok (.isub, 1) := by decide +kernel
theorem d_Mo_isShake_8 : decode (am_c m_Mo_isShake) 8 = .ok (.invokestatic 122, 3) := by decide +kernel
theorem d_Mo_isShake_11 : decode (am_c m_Mo_isShake) 11 = .ok (.ireturn, 1) := by decide +kernel
theorem d_Mo_pick_0 : decode (am_c m_Mo_pick) 0 = .ok (.aload_n 0, 1) := by decide +kernel
theorem d_Mo_pick_1 : decode (am_c m_Mo_pick) 1 = .ok (.iload_n 1, 1) := by decide +kernel
theorem d_Mo_pick_2 : decode (am_c m_Mo_pick) 2 = .ok (.invokevirtual 168, 3) := by decide +kernel
theorem d_Mo_pick_5 : decode (am_c m_Mo_pick) 5 = .ok (.ifCond .eq 11, 3) := by decide +kernel
theorem d_Mo_pick_8 : decode (am_c m_Mo_pick) 8 = .ok (.aload_n 0, 1) := by decide +kernel
theorem d_Mo_pick_9 : decode (am_c m_Mo_pick) 9 = .ok (.iload_n 2, 1) := by decide +kernel
theorem d_Mo_pick_10 : decode (am_c m_Mo_pick) 10 = .ok (.invokevirtual 171, 3) := by decide +kernel
theorem d_Mo_pick_13 : decode (am_c m_Mo_pick) 13 = .ok (.ifCond .ne 6, 3) := by decide +kernel
theorem d_Mo_pick_16 : decode (am_c m_Mo_pick) 16 = .ok (.bipush (-2), 2) := by decide +kernel
theorem d_Mo_pick_18 : decode (am_c m_Mo_pick) 18 = .ok (.ireturn, 1) := by decide +kernel
theorem d_Mo_pick_19 : decode (am_c m_Mo_pick) 19 = .ok (.iload_n 3, 1) := by decide +kernel
theorem d_Mo_pick_20 : decode (am_c m_Mo_pick) 20 = .ok (.invokestatic 154, 3) := by decide +kernel
theorem d_Mo_pick_23 : decode (am_c m_Mo_pick) 23 = .ok (.ifCond .eq 13, 3) := by decide +kernel
theorem d_Mo_pick_26 : decode (am_c m_Mo_pick) 26 = .ok (.iload 4, 2) := by decide +kernel
theorem d_Mo_pick_28 : decode (am_c m_Mo_pick) 28 = .ok (.iload 5, 2) := by decide +kernel
theorem d_Mo_pick_30 : decode (am_c m_Mo_pick) 30 = .ok (.invokestatic 177, 3) := by decide +kernel
theorem d_Mo_pick_33 : decode (am_c m_Mo_pick) 33 = .ok (.ifCond .ne 6, 3) := by decide +kernel
theorem d_Mo_pick_36 : decode (am_c m_Mo_pick) 36 = .ok (.bipush (-3), 2) := by decide +kernel
theorem d_Mo_pick_38 : decode (am_c m_Mo_pick) 38 = .ok (.ireturn, 1) := by decide +kernel
theorem d_Mo_pick_39 : decode (am_c m_Mo_pick) 39 = .ok (.aload_n 0, 1) := by decide +kernel
theorem d_Mo_pick_40 : decode (am_c m_Mo_pick) 40 = .ok (.getfield 132, 3) := by decide +kernel
theorem d_Mo_pick_43 : decode (am_c m_Mo_pick) 43 = .ok (.bipush 12, 2) := by decide +kernel
theorem d_Mo_pick_45 : decode (am_c m_Mo_pick) 45 = .ok (.if_icmp .eq 12, 3) := by decide +kernel
theorem d_Mo_pick_48 : decode (am_c m_Mo_pick) 48 = .ok (.aload_n 0, 1) := by decide +kernel
theorem d_Mo_pick_49 : decode (am_c m_Mo_pick) 49 = .ok (.getfield 135, 3) := by decide +kernel
theorem d_Mo_pick_52 : decode (am_c m_Mo_pick) 52 = .ok (.bipush 40, 2) := by decide +kernel
theorem d_Mo_pick_54 : decode (am_c m_Mo_pick) 54 = .ok (.if_icmp .ne 6, 3) := by decide +kernel
theorem d_Mo_pick_57 : decode (am_c m_Mo_pick) 57 = .ok (.bipush (-5), 2) := by decide +kernel
theorem d_Mo_pick_59 : decode (am_c m_Mo_pick) 59 = .ok (.ireturn, 1) := by decide +kernel
theorem d_Mo_pick_60 : decode (am_c m_Mo_pick) 60 = .ok (.aload_n 0, 1) := by decide +kernel
theorem d_Mo_pick_61 : decode (am_c m_Mo_pick) 61 = .ok (.getfield 38, 3) := by decide +kernel
theorem d_Mo_pick_64 : decode (am_c m_Mo_pick) 64 = .ok (.aload_n 0, 1) := by decide +kernel
theorem d_Mo_pick_65 : decode (am_c m_Mo_pick) 65 = .ok (.getfield 132, 3) := by decide +kernel
theorem d_Mo_pick_68 : decode (am_c m_Mo_pick) 68 = .ok (.iload_n 1, 1) := by decide +kernel
theorem d_Mo_pick_69 : decode (am_c m_Mo_pick) 69 = .ok (.iastore, 1) := by decide +kernel
theorem d_Mo_pick_70 : decode (am_c m_Mo_pick) 70 = .ok (.aload_n 0, 1) := by decide +kernel
theorem d_Mo_pick_71 : decode (am_c m_Mo_pick) 71 = .ok (.getfield 41, 3) := by decide +kernel
theorem d_Mo_pick_74 : decode (am_c m_Mo_pick) 74 = .ok (.aload_n 0, 1) := by decide +kernel
theorem d_Mo_pick_75 : decode (am_c m_Mo_pick) 75 = .ok (.getfield 132, 3) := by decide +kernel
theorem d_Mo_pick_78 : decode (am_c m_Mo_pick) 78 = .ok (.iload_n 2, 1) := by decide +kernel
theorem d_Mo_pick_79 : decode (am_c m_Mo_pick) 79 = .ok (.iastore, 1) := by decide +kernel
theorem d_Mo_pick_80 : decode (am_c m_Mo_pick) 80 = .ok (.aload_n 0, 1) := by decide +kernel
theorem d_Mo_pick_81 : decode (am_c m_Mo_pick) 81 = .ok (.getfield 44, 3) := by decide +kernel
theorem d_Mo_pick_84 : decode (am_c m_Mo_pick) 84 = .ok (.aload_n 0, 1) := by decide +kernel
theorem d_Mo_pick_85 : decode (am_c m_Mo_pick) 85 = .ok (.getfield 132, 3) := by decide +kernel
theorem d_Mo_pick_88 : decode (am_c m_Mo_pick) 88 = .ok (.iload_n 3, 1) := by decide +kernel
theorem d_Mo_pick_89 : decode (am_c m_Mo_pick) 89 = .ok (.iastore, 1) := by decide +kernel
theorem d_Mo_pick_90 : decode (am_c m_Mo_pick) 90 = .ok (.aload_n 0, 1) := by decide +kernel
theorem d_Mo_pick_91 : decode (am_c m_Mo_pick) 91 = .ok (.aload_n 0, 1) := by decide +kernel
theorem d_Mo_pick_92 : decode (am_c m_Mo_pick) 92 = .ok (.getfield 132, 3) := by decide +kernel
theorem d_Mo_pick_95 : decode (am_c m_Mo_pick) 95 = .ok (.iload 4, 2) := by decide +kernel
theorem d_Mo_pick_97 : decode (am_c m_Mo_pick) 97 = .ok (.iload 5, 2) := by decide +kernel
theorem d_Mo_pick_99 : decode (am_c m_Mo_pick) 99 = .ok (.invokevirtual 180, 3) := by decide +kernel
theorem d_Mo_pick_102 : decode (am_c m_Mo_pick) 102 = .ok (.aload_n 0, 1) := by decide +kernel
theorem d_Mo_pick_103 : decode (am_c m_Mo_pick) 103 = .ok (.dup, 1) := by decide +kernel
theorem d_Mo_pick_104 : decode (am_c m_Mo_pick) 104 = .ok (.getfield 132, 3) := by decide +kernel
theorem d_Mo_pick_107 : decode (am_c m_Mo_pick) 107 = .ok (.iconst 1, 1) := by decide +kernel
theorem d_Mo_pick_108 : decode (am_c m_Mo_pick) 108 = .ok (.iadd, 1) := by decide +kernel
theorem d_Mo_pick_109 : decode (am_c m_Mo_pick) 109 = .ok (.putfield 132, 3) := by decide +kernel
theorem d_Mo_pick_112 : decode (am_c m_Mo_pick) 112 = .ok (.aload_n 0, 1) := by decide +kernel
theorem d_Mo_pick_113 : decode (am_c m_Mo_pick) 113 = .ok (.getfield 132, 3) := by decide +kernel
theorem d_Mo_pick_116 : decode (am_c m_Mo_pick) 116 = .ok (.iconst 1, 1) := by decide +kernel
theorem d_Mo_pick_117 : decode (am_c m_Mo_pick) 117 = .ok (.isub, 1) := by decide +kernel
theorem d_Mo_pick_118 : decode (am_c m_Mo_pick) 118 = .ok (.ireturn, 1) := by decide +kernel
theorem d_Mo_isSpan_0 : decode (am_c m_Mo_isSpan) 0 = .ok (.iload_n 0, 1) := by decide +kernel
theorem d_Mo_isSpan_1 : decode (am_c m_Mo_isSpan) 1 = .ok (.iconst 0, 1) := by decide +kernel
theorem d_Mo_isSpan_2 : decode (am_c m_Mo_isSpan) 2 = .ok (.sipush 3000, 3) := by decide +kernel
theorem d_Mo_isSpan_5 : decode (am_c m_Mo_isSpan) 5 = .ok (.invokestatic 122, 3) := by decide +kernel
theorem d_Mo_isSpan_8 : decode (am_c m_Mo_isSpan) 8 = .ok (.ifCond .eq 18, 3) := by decide +kernel
theorem d_Mo_isSpan_11 : decode (am_c m_Mo_isSpan) 11 = .ok (.iload_n 1, 1) := by decide +kernel
theorem d_Mo_isSpan_12 : decode (am_c m_Mo_isSpan) 12 = .ok (.iload_n 0, 1) := by decide +kernel
theorem d_Mo_isSpan_13 : decode (am_c m_Mo_isSpan) 13 = .ok (.sipush 3000, 3) := by decide +kernel
theorem d_Mo_isSpan_16 : decode (am_c m_Mo_isSpan) 16 = .ok (.invokestatic 122, 3) := by decide +kernel
theorem d_Mo_isSpan_19 : decode (am_c m_Mo_isSpan) 19 = .ok (.ifCond .eq 7, 3) := by decide +kernel
theorem d_Mo_isSpan_22 : decode (am_c m_Mo_isSpan) 22 = .ok (.iconst 1, 1) := by decide +kernel
theorem d_Mo_isSpan_23 : decode (am_c m_Mo_isSpan) 23 = .ok (.goto 4, 3) := by decide +kernel
theorem d_Mo_isSpan_26 : decode (am_c m_Mo_isSpan) 26 = .ok (.iconst 0, 1) := by decide +kernel
theorem d_Mo_isSpan_27 : decode (am_c m_Mo_isSpan) 27 = .ok (.ireturn, 1) := by decide +kernel
theorem d_Mo_addTelling_0 : decode (am_c m_Mo_addTelling) 0 = .ok (.aload_n 0, 1) := by decide +kernel
theorem d_Mo_addTelling_1 : decode (am_c m_Mo_addTelling) 1 = .ok (.getfield 47, 3) := by decide +kernel
theorem d_Mo_addTelling_4 : decode (am_c m_Mo_addTelling) 4 = .ok (.aload_n 0, 1) := by decide +kernel
theorem d_Mo_addTelling_5 : decode (am_c m_Mo_addTelling) 5 = .ok (.getfield 135, 3) := by decide +kernel
theorem d_Mo_addTelling_8 : decode (am_c m_Mo_addTelling) 8 = .ok (.iload_n 1, 1) := by decide +kernel
theorem d_Mo_addTelling_9 : decode (am_c m_Mo_addTelling) 9 = .ok (.iastore, 1) := by decide +kernel
theorem d_Mo_addTelling_10 : decode (am_c m_Mo_addTelling) 10 = .ok (.aload_n 0, 1) := by decide +kernel
theorem d_Mo_addTelling_11 : decode (am_c m_Mo_addTelling) 11 = .ok (.getfield 50, 3) := by decide +kernel
theorem d_Mo_addTelling_14 : decode (am_c m_Mo_addTelling) 14 = .ok (.aload_n 0, 1) := by decide +kernel
theorem d_Mo_addTelling_15 : decode (am_c m_Mo_addTelling) 15 = .ok (.getfield 135, 3) := by decide +kernel
theorem d_Mo_addTelling_18 : decode (am_c m_Mo_addTelling) 18 = .ok (.aload_n 0, 1) := by decide +kernel
theorem d_Mo_addTelling_19 : decode (am_c m_Mo_addTelling) 19 = .ok (.getfield 174, 3) := by decide +kernel
theorem d_Mo_addTelling_22 : decode (am_c m_Mo_addTelling) 22 = .ok (.iastore, 1) := by decide +kernel
theorem d_Mo_addTelling_23 : decode (am_c m_Mo_addTelling) 23 = .ok (.aload_n 0, 1) := by decide +kernel
theorem d_Mo_addTelling_24 : decode (am_c m_Mo_addTelling) 24 = .ok (.getfield 53, 3) := by decide +kernel
theorem d_Mo_addTelling_27 : decode (am_c m_Mo_addTelling) 27 = .ok (.aload_n 0, 1) := by decide +kernel
theorem d_Mo_addTelling_28 : decode (am_c m_Mo_addTelling) 28 = .ok (.getfield 135, 3) := by decide +kernel
theorem d_Mo_addTelling_31 : decode (am_c m_Mo_addTelling) 31 = .ok (.iload_n 2, 1) := by decide +kernel
theorem d_Mo_addTelling_32 : decode (am_c m_Mo_addTelling) 32 = .ok (.iastore, 1) := by decide +kernel
theorem d_Mo_addTelling_33 : decode (am_c m_Mo_addTelling) 33 = .ok (.aload_n 0, 1) := by decide +kernel
theorem d_Mo_addTelling_34 : decode (am_c m_Mo_addTelling) 34 = .ok (.getfield 56, 3) := by decide +kernel
theorem d_Mo_addTelling_37 : decode (am_c m_Mo_addTelling) 37 = .ok (.aload_n 0, 1) := by decide +kernel
theorem d_Mo_addTelling_38 : decode (am_c m_Mo_addTelling) 38 = .ok (.getfield 135, 3) := by decide +kernel
theorem d_Mo_addTelling_41 : decode (am_c m_Mo_addTelling) 41 = .ok (.iload_n 3, 1) := by decide +kernel
theorem d_Mo_addTelling_42 : decode (am_c m_Mo_addTelling) 42 = .ok (.iastore, 1) := by decide +kernel
theorem d_Mo_addTelling_43 : decode (am_c m_Mo_addTelling) 43 = .ok (.aload_n 0, 1) := by decide +kernel
theorem d_Mo_addTelling_44 : decode (am_c m_Mo_addTelling) 44 = .ok (.dup, 1) := by decide +kernel
theorem d_Mo_addTelling_45 : decode (am_c m_Mo_addTelling) 45 = .ok (.getfield 135, 3) := by decide +kernel
theorem d_Mo_addTelling_48 : decode (am_c m_Mo_addTelling) 48 = .ok (.iconst 1, 1) := by decide +kernel
theorem d_Mo_addTelling_49 : decode (am_c m_Mo_addTelling) 49 = .ok (.iadd, 1) := by decide +kernel
theorem d_Mo_addTelling_50 : decode (am_c m_Mo_addTelling) 50 = .ok (.putfield 135, 3) := by decide +kernel
theorem d_Mo_addTelling_53 : decode (am_c m_Mo_addTelling) 53 = .ok (.return_, 1) := by decide +kernel
theorem d_Mo_tell_0 : decode (am_c m_Mo_tell) 0 = .ok (.aload_n 0, 1) := by decide +kernel
theorem d_Mo_tell_1 : decode (am_c m_Mo_tell) 1 = .ok (.iload_n 1, 1) := by decide +kernel
theorem d_Mo_tell_2 : decode (am_c m_Mo_tell) 2 = .ok (.invokevirtual 184, 3) := by decide +kernel
theorem d_Mo_tell_5 : decode (am_c m_Mo_tell) 5 = .ok (.ifCond .ne 6, 3) := by decide +kernel
theorem d_Mo_tell_8 : decode (am_c m_Mo_tell) 8 = .ok (.bipush (-2), 2) := by decide +kernel
theorem d_Mo_tell_10 : decode (am_c m_Mo_tell) 10 = .ok (.ireturn, 1) := by decide +kernel
theorem d_Mo_tell_11 : decode (am_c m_Mo_tell) 11 = .ok (.iload_n 2, 1) := by decide +kernel
theorem d_Mo_tell_12 : decode (am_c m_Mo_tell) 12 = .ok (.iload_n 3, 1) := by decide +kernel
theorem d_Mo_tell_13 : decode (am_c m_Mo_tell) 13 = .ok (.invokestatic 177, 3) := by decide +kernel
theorem d_Mo_tell_16 : decode (am_c m_Mo_tell) 16 = .ok (.ifCond .ne 6, 3) := by decide +kernel
theorem d_Mo_tell_19 : decode (am_c m_Mo_tell) 19 = .ok (.bipush (-3), 2) := by decide +kernel
theorem d_Mo_tell_21 : decode (am_c m_Mo_tell) 21 = .ok (.ireturn, 1) := by decide +kernel
theorem d_Mo_tell_22 : decode (am_c m_Mo_tell) 22 = .ok (.aload_n 0, 1) := by decide +kernel
theorem d_Mo_tell_23 : decode (am_c m_Mo_tell) 23 = .ok (.getfield 135, 3) := by decide +kernel
theorem d_Mo_tell_26 : decode (am_c m_Mo_tell) 26 = .ok (.bipush 40, 2) := by decide +kernel
theorem d_Mo_tell_28 : decode (am_c m_Mo_tell) 28 = .ok (.if_icmp .ne 6, 3) := by decide +kernel
theorem d_Mo_tell_31 : decode (am_c m_Mo_tell) 31 = .ok (.bipush (-5), 2) := by decide +kernel
theorem d_Mo_tell_33 : decode (am_c m_Mo_tell) 33 = .ok (.ireturn, 1) := by decide +kernel
theorem d_Mo_tell_34 : decode (am_c m_Mo_tell) 34 = .ok (.aload_n 0, 1) := by decide +kernel
theorem d_Mo_tell_35 : decode (am_c m_Mo_tell) 35 = .ok (.iload_n 1, 1) := by decide +kernel
theorem d_Mo_tell_36 : decode (am_c m_Mo_tell) 36 = .ok (.iload_n 2, 1) := by decide +kernel
theorem d_Mo_tell_37 : decode (am_c m_Mo_tell) 37 = .ok (.iload_n 3, 1) := by decide +kernel
theorem d_Mo_tell_38 : decode (am_c m_Mo_tell) 38 = .ok (.invokevirtual 180, 3) := by decide +kernel
theorem d_Mo_tell_41 : decode (am_c m_Mo_tell) 41 = .ok (.aload_n 0, 1) := by decide +kernel
theorem d_Mo_tell_42 : decode (am_c m_Mo_tell) 42 = .ok (.getfield 135, 3) := by decide +kernel
theorem d_Mo_tell_45 : decode (am_c m_Mo_tell) 45 = .ok (.ireturn, 1) := by decide +kernel
theorem d_Mo_isPick_0 : decode (am_c m_Mo_isPick) 0 = .ok (.iload_n 1, 1) := by decide +kernel
theorem d_Mo_isPick_1 : decode (am_c m_Mo_isPick) 1 = .ok (.iconst 0, 1) := by decide +kernel
theorem d_Mo_isPick_2 : decode (am_c m_Mo_isPick) 2 = .ok (.aload_n 0, 1) := by decide +kernel
theorem d_Mo_isPick_3 : decode (am_c m_Mo_isPick) 3 = .ok (.getfield 132, 3) := by decide +kernel
theorem d_Mo_isPick_6 : decode (am_c m_Mo_isPick) 6 = .ok (.iconst 1, 1) := by decide +kernel
theorem d_Mo_isPick_7 : decode (am_c m_Mo_isPick) 7 = .ok (.isub, 1) := by decide +kernel
theorem d_Mo_isPick_8 : decode (am_c m_Mo_isPick) 8 = .ok (.invokestatic 122, 3) := by decide +kernel
theorem d_Mo_isPick_11 : decode (am_c m_Mo_isPick) 11 = .ok (.ireturn, 1) := by decide +kernel
theorem d_Mo_days_0 : decode (am_c m_Mo_days) 0 = .ok (.iload_n 1, 1) := by decide +kernel
theorem d_Mo_days_1 : decode (am_c m_Mo_days) 1 = .ok (.iconst 1, 1) := by decide +kernel
theorem d_Mo_days_2 : decode (am_c m_Mo_days) 2 = .ok (.bipush 50, 2) := by decide +kernel
theorem d_Mo_days_4 : decode (am_c m_Mo_days) 4 = .ok (.invokestatic 122, 3) := by decide +kernel
theorem d_Mo_days_7 : decode (am_c m_Mo_days) 7 = .ok (.ifCond .eq 15, 3) := by decide +kernel
theorem d_Mo_days_10 : decode (am_c m_Mo_days) 10 = .ok (.aload_n 0, 1) := by decide +kernel
theorem d_Mo_days_11 : decode (am_c m_Mo_days) 11 = .ok (.getfield 174, 3) := by decide +kernel
theorem d_Mo_days_14 : decode (am_c m_Mo_days) 14 = .ok (.iload_n 1, 1) := by decide +kernel
theorem d_Mo_days_15 : decode (am_c m_Mo_days) 15 = .ok (.iadd, 1) := by decide +kernel
theorem d_Mo_days_16 : decode (am_c m_Mo_days) 16 = .ok (.sipush 500, 3) := by decide +kernel
theorem d_Mo_days_19 : decode (am_c m_Mo_days) 19 = .ok (.if_icmp .le 6, 3) := by decide +kernel
theorem d_Mo_days_22 : decode (am_c m_Mo_days) 22 = .ok (.bipush (-3), 2) := by decide +kernel
theorem d_Mo_days_24 : decode (am_c m_Mo_days) 24 = .ok (.ireturn, 1) := by decide +kernel
theorem d_Mo_days_25 : decode (am_c m_Mo_days) 25 = .ok (.aload_n 0, 1) := by decide +kernel
theorem d_Mo_days_26 : decode (am_c m_Mo_days) 26 = .ok (.dup, 1) := by decide +kernel
theorem d_Mo_days_27 : decode (am_c m_Mo_days) 27 = .ok (.getfield 174, 3) := by decide +kernel
theorem d_Mo_days_30 : decode (am_c m_Mo_days) 30 = .ok (.iload_n 1, 1) := by decide +kernel
theorem d_Mo_days_31 : decode (am_c m_Mo_days) 31 = .ok (.iadd, 1) := by decide +kernel
theorem d_Mo_days_32 : decode (am_c m_Mo_days) 32 = .ok (.putfield 174, 3) := by decide +kernel
theorem d_Mo_days_35 : decode (am_c m_Mo_days) 35 = .ok (.aload_n 0, 1) := by decide +kernel
theorem d_Mo_days_36 : decode (am_c m_Mo_days) 36 = .ok (.getfield 174, 3) := by decide +kernel
theorem d_Mo_days_39 : decode (am_c m_Mo_days) 39 = .ok (.ireturn, 1) := by decide +kernel
theorem d_Mo_of_0 : decode (am_c m_Mo_of) 0 = .ok (.aload_n 0, 1) := by decide +kernel
theorem d_Mo_of_1 : decode (am_c m_Mo_of) 1 = .ok (.iload_n 1, 1) := by decide +kernel
theorem d_Mo_of_2 : decode (am_c m_Mo_of) 2 = .ok (.invokevirtual 184, 3) := by decide +kernel
theorem d_Mo_of_5 : decode (am_c m_Mo_of) 5 = .ok (.ifCond .ne 6, 3) := by decide +kernel
theorem d_Mo_of_8 : decode (am_c m_Mo_of) 8 = .ok (.bipush (-2), 2) := by decide +kernel
theorem d_Mo_of_10 : decode (am_c m_Mo_of) 10 = .ok (.ireturn, 1) := by decide +kernel
theorem d_Mo_of_11 : decode (am_c m_Mo_of) 11 = .ok (.iload_n 2, 1) := by decide +kernel
theorem d_Mo_of_12 : decode (am_c m_Mo_of) 12 = .ok (.iconst 0, 1) := by decide +kernel
theorem d_Mo_of_13 : decode (am_c m_Mo_of) 13 = .ok (.iconst 4, 1) := by decide +kernel
theorem d_Mo_of_14 : decode (am_c m_Mo_of) 14 = .ok (.invokestatic 122, 3) := by decide +kernel
theorem d_Mo_of_17 : decode (am_c m_Mo_of) 17 = .ok (.ifCond .ne 6, 3) := by decide +kernel
theorem d_Mo_of_20 : decode (am_c m_Mo_of) 20 = .ok (.bipush (-3), 2) := by decide +kernel
theorem d_Mo_of_22 : decode (am_c m_Mo_of) 22 = .ok (.ireturn, 1) := by decide +kernel
theorem d_Mo_of_23 : decode (am_c m_Mo_of) 23 = .ok (.aload_n 0, 1) := by decide +kernel
theorem d_Mo_of_24 : decode (am_c m_Mo_of) 24 = .ok (.aload_n 0, 1) := by decide +kernel
theorem d_Mo_of_25 : decode (am_c m_Mo_of) 25 = .ok (.getfield 174, 3) := by decide +kernel
theorem d_Mo_of_28 : decode (am_c m_Mo_of) 28 = .ok (.invokevirtual 196, 3) := by decide +kernel
theorem d_Mo_of_31 : decode (am_c m_Mo_of) 31 = .ok (.aload_n 0, 1) := by decide +kernel
theorem d_Mo_of_32 : decode (am_c m_Mo_of) 32 = .ok (.invokevirtual 187, 3) := by decide +kernel
theorem d_Mo_of_35 : decode (am_c m_Mo_of) 35 = .ok (.iconst 1, 1) := by decide +kernel
theorem d_Mo_of_36 : decode (am_c m_Mo_of) 36 = .ok (.istore_n 3, 1) := by decide +kernel
theorem d_Mo_of_37 : decode (am_c m_Mo_of) 37 = .ok (.aload_n 0, 1) := by decide +kernel
theorem d_Mo_of_38 : decode (am_c m_Mo_of) 38 = .ok (.aload_n 0, 1) := by decide +kernel
theorem d_Mo_of_39 : decode (am_c m_Mo_of) 39 = .ok (.getfield 26, 3) := by decide +kernel
theorem d_Mo_of_42 : decode (am_c m_Mo_of) 42 = .ok (.aload_n 0, 1) := by decide +kernel
theorem d_Mo_of_43 : decode (am_c m_Mo_of) 43 = .ok (.getfield 38, 3) := by decide +kernel
theorem d_Mo_of_46 : decode (am_c m_Mo_of) 46 = .ok (.iload_n 1, 1) := by decide +kernel
theorem d_Mo_of_47 : decode (am_c m_Mo_of) 47 = .ok (.iaload, 1) := by decide +kernel
theorem d_Mo_of_48 : decode (am_c m_Mo_of) 48 = .ok (.iaload, 1) := by decide +kernel
theorem d_Mo_of_49 : decode (am_c m_Mo_of) 49 = .ok (.aload_n 0, 1) := by decide +kernel
theorem d_Mo_of_50 : decode (am_c m_Mo_of) 50 = .ok (.getfield 44, 3) := by decide +kernel
theorem d_Mo_of_53 : decode (am_c m_Mo_of) 53 = .ok (.iload_n 1, 1) := by decide +kernel
theorem d_Mo_of_54 : decode (am_c m_Mo_of) 54 = .ok (.iaload, 1) := by decide +kernel
theorem d_Mo_of_55 : decode (am_c m_Mo_of) 55 = .ok (.invokevirtual 157, 3) := by decide +kernel
theorem d_Mo_of_58 : decode (am_c m_Mo_of) 58 = .ok (.aload_n 0, 1) := by decide +kernel
theorem d_Mo_of_59 : decode (am_c m_Mo_of) 59 = .ok (.getfield 32, 3) := by decide +kernel
theorem d_Mo_of_62 : decode (am_c m_Mo_of) 62 = .ok (.aload_n 0, 1) := by decide +kernel
theorem d_Mo_of_63 : decode (am_c m_Mo_of) 63 = .ok (.getfield 41, 3) := by decide +kernel
theorem d_Mo_of_66 : decode (am_c m_Mo_of) 66 = .ok (.iload_n 1, 1) := by decide +kernel
theorem d_Mo_of_67 : decode (am_c m_Mo_of) 67 = .ok (.iaload, 1) := by decide +kernel
theorem d_Mo_of_68 : decode (am_c m_Mo_of) 68 = .ok (.iaload, 1) := by decide +kernel
theorem d_Mo_of_69 : decode (am_c m_Mo_of) 69 = .ok (.istore 4, 2) := by decide +kernel
theorem d_Mo_of_71 : decode (am_c m_Mo_of) 71 = .ok (.iload 4, 2) := by decide +kernel
theorem d_Mo_of_73 : decode (am_c m_Mo_of) 73 = .ok (.aload_n 0, 1) := by decide +kernel
theorem d_Mo_of_74 : decode (am_c m_Mo_of) 74 = .ok (.getfield 26, 3) := by decide +kernel
theorem d_Mo_of_77 : decode (am_c m_Mo_of) 77 = .ok (.aload_n 0, 1) := by decide +kernel
theorem d_Mo_of_78 : decode (am_c m_Mo_of) 78 = .ok (.getfield 38, 3) := by decide +kernel
theorem d_Mo_of_81 : decode (am_c m_Mo_of) 81 = .ok (.iload_n 1, 1) := by decide +kernel
theorem d_Mo_of_82 : decode (am_c m_Mo_of) 82 = .ok (.iaload, 1) := by decide +kernel
theorem d_Mo_of_83 : decode (am_c m_Mo_of) 83 = .ok (.iaload, 1) := by decide +kernel
theorem d_Mo_of_84 : decode (am_c m_Mo_of) 84 = .ok (.if_icmp .eq 23, 3) := by decide +kernel
theorem d_Mo_of_87 : decode (am_c m_Mo_of) 87 = .ok (.iinc 3 1, 3) := by decide +kernel
theorem d_Mo_of_90 : decode (am_c m_Mo_of) 90 = .ok (.aload_n 0, 1) := by decide +kernel
theorem d_Mo_of_91 : decode (am_c m_Mo_of) 91 = .ok (.iload 4, 2) := by decide +kernel
theorem d_Mo_of_93 : decode (am_c m_Mo_of) 93 = .ok (.aload_n 0, 1) := by decide +kernel
theorem d_Mo_of_94 : decode (am_c m_Mo_of) 94 = .ok (.getfield 44, 3) := by decide +kernel
theorem d_Mo_of_97 : decode (am_c m_Mo_of) 97 = .ok (.iload_n 1, 1) := by decide +kernel
theorem d_Mo_of_98 : decode (am_c m_Mo_of) 98 = .ok (.iaload, 1) := by decide +kernel
theorem d_Mo_of_99 : decode (am_c m_Mo_of) 99 = .ok (.invokevirtual 165, 3) := by decide +kernel
theorem d_Mo_of_102 : decode (am_c m_Mo_of) 102 = .ok (.istore 4, 2) := by decide +kernel
theorem d_Mo_of_104 : decode (am_c m_Mo_of) 104 = .ok (.goto (-33), 3) := by decide +kernel
theorem d_Mo_of_107 : decode (am_c m_Mo_of) 107 = .ok (.iload_n 2, 1) := by decide +kernel
theorem d_Mo_of_108 : decode (am_c m_Mo_of) 108 = .ok (.ifCond .ne 11, 3) := by decide +kernel
theorem d_Mo_of_111 : decode (am_c m_Mo_of) 111 = .ok (.aload_n 0, 1) := by decide +kernel
theorem d_Mo_of_112 : decode (am_c m_Mo_of) 112 = .ok (.iload_n 1, 1) := by decide +kernel
theorem d_Mo_of_113 : decode (am_c m_Mo_of) 113 = .ok (.invokevirtual 190, 3) := by decide +kernel
theorem d_Mo_of_116 : decode (am_c m_Mo_of) 116 = .ok (.goto 50, 3) := by decide +kernel
theorem d_Mo_of_119 : decode (am_c m_Mo_of) 119 = .ok (.iload_n 2, 1) := by decide +kernel
theorem d_Mo_of_120 : decode (am_c m_Mo_of) 120 = .ok (.iconst 1, 1) := by decide +kernel
theorem d_Mo_of_121 : decode (am_c m_Mo_of) 121 = .ok (.if_icmp .ne 16, 3) := by decide +kernel
theorem d_Mo_of_124 : decode (am_c m_Mo_of) 124 = .ok (.aload_n 0, 1) := by decide +kernel
theorem d_Mo_of_125 : decode (am_c m_Mo_of) 125 = .ok (.iload_n 1, 1) := by decide +kernel
theorem d_Mo_of_126 : decode (am_c m_Mo_of) 126 = .ok (.aload_n 0, 1) := by decide +kernel
theorem d_Mo_of_127 : decode (am_c m_Mo_of) 127 = .ok (.iload_n 1, 1) := by decide +kernel
theorem d_Mo_of_128 : decode (am_c m_Mo_of) 128 = .ok (.invokevirtual 190, 3) := by decide +kernel
theorem d_Mo_of_131 : decode (am_c m_Mo_of) 131 = .ok (.invokevirtual 193, 3) := by decide +kernel
theorem d_Mo_of_134 : decode (am_c m_Mo_of) 134 = .ok (.goto 32, 3) := by decide +kernel
theorem d_Mo_of_137 : decode (am_c m_Mo_of) 137 = .ok (.iload_n 2, 1) := by decide +kernel
theorem d_Mo_of_138 : decode (am_c m_Mo_of) 138 = .ok (.iconst 2, 1) := by decide +kernel
theorem d_Mo_of_139 : decode (am_c m_Mo_of) 139 = .ok (.if_icmp .ne 12, 3) := by decide +kernel
theorem d_Mo_of_142 : decode (am_c m_Mo_of) 142 = .ok (.aload_n 0, 1) := by decide +kernel
theorem d_Mo_of_143 : decode (am_c m_Mo_of) 143 = .ok (.getfield 59, 3) := by decide +kernel
theorem d_Mo_of_146 : decode (am_c m_Mo_of) 146 = .ok (.iload_n 1, 1) := by decide +kernel
theorem d_Mo_of_147 : decode (am_c m_Mo_of) 147 = .ok (.iaload, 1) := by decide +kernel
theorem d_Mo_of_148 : decode (am_c m_Mo_of) 148 = .ok (.goto 18, 3) := by decide +kernel
theorem d_Mo_of_151 : decode (am_c m_Mo_of) 151 = .ok (.iload_n 2, 1) := by decide +kernel
theorem d_Mo_of_152 : decode (am_c m_Mo_of) 152 = .ok (.iconst 3, 1) := by decide +kernel
theorem d_Mo_of_153 : decode (am_c m_Mo_of) 153 = .ok (.if_icmp .ne 12, 3) := by decide +kernel
theorem d_Mo_of_156 : decode (am_c m_Mo_of) 156 = .ok (.aload_n 0, 1) := by decide +kernel
theorem d_Mo_of_157 : decode (am_c m_Mo_of) 157 = .ok (.getfield 62, 3) := by decide +kernel
theorem d_Mo_of_160 : decode (am_c m_Mo_of) 160 = .ok (.iload_n 1, 1) := by decide +kernel
theorem d_Mo_of_161 : decode (am_c m_Mo_of) 161 = .ok (.iaload, 1) := by decide +kernel
theorem d_Mo_of_162 : decode (am_c m_Mo_of) 162 = .ok (.goto 4, 3) := by decide +kernel
theorem d_Mo_of_165 : decode (am_c m_Mo_of) 165 = .ok (.iload_n 3, 1) := by decide +kernel
theorem d_Mo_of_166 : decode (am_c m_Mo_of) 166 = .ok (.ireturn, 1) := by decide +kernel
theorem d_Mo_findSpans_0 : decode (am_c m_Mo_findSpans) 0 = .ok (.iconst 0, 1) := by decide +kernel
theorem d_Mo_findSpans_1 : decode (am_c m_Mo_findSpans) 1 = .ok (.istore_n 2, 1) := by decide +kernel
theorem d_Mo_findSpans_2 : decode (am_c m_Mo_findSpans) 2 = .ok (.iload_n 2, 1) := by decide +kernel
theorem d_Mo_findSpans_3 : decode (am_c m_Mo_findSpans) 3 = .ok (.aload_n 0, 1) := by decide +kernel
theorem d_Mo_findSpans_4 : decode (am_c m_Mo_findSpans) 4 = .ok (.getfield 132, 3) := by decide +kernel
theorem d_Mo_findSpans_7 : decode (am_c m_Mo_findSpans) 7 = .ok (.if_icmp .ge 16, 3) := by decide +kernel
theorem d_Mo_findSpans_10 : decode (am_c m_Mo_findSpans) 10 = .ok (.aload_n 0, 1) := by decide +kernel
theorem d_Mo_findSpans_11 : decode (am_c m_Mo_findSpans) 11 = .ok (.getfield 65, 3) := by decide +kernel
theorem d_Mo_findSpans_14 : decode (am_c m_Mo_findSpans) 14 = .ok (.iload_n 2, 1) := by decide +kernel
theorem d_Mo_findSpans_15 : decode (am_c m_Mo_findSpans) 15 = .ok (.iconst 0, 1) := by decide +kernel
theorem d_Mo_findSpans_16 : decode (am_c m_Mo_findSpans) 16 = .ok (.bastore, 1) := by decide +kernel
theorem d_Mo_findSpans_17 : decode (am_c m_Mo_findSpans) 17 = .ok (.iinc 2 1, 3) := by decide +kernel
theorem d_Mo_findSpans_20 : decode (am_c m_Mo_findSpans) 20 = .ok (.goto (-18), 3) := by decide +kernel
theorem d_Mo_findSpans_23 : decode (am_c m_Mo_findSpans) 23 = .ok (.iconst 0, 1) := by decide +kernel
theorem d_Mo_findSpans_24 : decode (am_c m_Mo_findSpans) 24 = .ok (.istore_n 2, 1) := by decide +kernel
theorem d_Mo_findSpans_25 : decode (am_c m_Mo_findSpans) 25 = .ok (.iload_n 2, 1) := by decide +kernel
theorem d_Mo_findSpans_26 : decode (am_c m_Mo_findSpans) 26 = .ok (.aload_n 0, 1) := by decide +kernel
theorem d_Mo_findSpans_27 : decode (am_c m_Mo_findSpans) 27 = .ok (.getfield 135, 3) := by decide +kernel
theorem d_Mo_findSpans_30 : decode (am_c m_Mo_findSpans) 30 = .ok (.if_icmp .ge 65, 3) := by decide +kernel
theorem d_Mo_findSpans_33 : decode (am_c m_Mo_findSpans) 33 = .ok (.aload_n 0, 1) := by decide +kernel
theorem d_Mo_findSpans_34 : decode (am_c m_Mo_findSpans) 34 = .ok (.getfield 50, 3) := by decide +kernel
theorem d_Mo_findSpans_37 : decode (am_c m_Mo_findSpans) 37 = .ok (.iload_n 2, 1) := by decide +kernel
theorem d_Mo_findSpans_38 : decode (am_c m_Mo_findSpans) 38 = .ok (.iaload, 1) := by decide +kernel
theorem d_Mo_findSpans_39 : decode (am_c m_Mo_findSpans) 39 = .ok (.iload_n 1, 1) := by decide +kernel
theorem d_Mo_findSpans_40 : decode (am_c m_Mo_findSpans) 40 = .ok (.if_icmp .gt 49, 3) := by decide +kernel
theorem d_Mo_findSpans_43 : decode (am_c m_Mo_findSpans) 43 = .ok (.aload_n 0, 1) := by decide +kernel
theorem d_Mo_findSpans_44 : decode (am_c m_Mo_findSpans) 44 = .ok (.getfield 65, 3) := by decide +kernel
theorem d_Mo_findSpans_47 : decode (am_c m_Mo_findSpans) 47 = .ok (.aload_n 0, 1) := by decide +kernel
theorem d_Mo_findSpans_48 : decode (am_c m_Mo_findSpans) 48 = .ok (.getfield 47, 3) := by decide +kernel
theorem d_Mo_findSpans_51 : decode (am_c m_Mo_findSpans) 51 = .ok (.iload_n 2, 1) := by decide +kernel
theorem d_Mo_findSpans_52 : decode (am_c m_Mo_findSpans) 52 = .ok (.iaload, 1) := by decide +kernel
theorem d_Mo_findSpans_53 : decode (am_c m_Mo_findSpans) 53 = .ok (.iconst 1, 1) := by decide +kernel
theorem d_Mo_findSpans_54 : decode (am_c m_Mo_findSpans) 54 = .ok (.bastore, 1) := by decide +kernel
theorem d_Mo_findSpans_55 : decode (am_c m_Mo_findSpans) 55 = .ok (.aload_n 0, 1) := by decide +kernel
theorem d_Mo_findSpans_56 : decode (am_c m_Mo_findSpans) 56 = .ok (.getfield 59, 3) := by decide +kernel
theorem d_Mo_findSpans_59 : decode (am_c m_Mo_findSpans) 59 = .ok (.aload_n 0, 1) := by decide +kernel
theorem d_Mo_findSpans_60 : decode (am_c m_Mo_findSpans) 60 = .ok (.getfield 47, 3) := by decide +kernel
theorem d_Mo_findSpans_63 : decode (am_c m_Mo_findSpans) 63 = .ok (.iload_n 2, 1) := by decide +kernel
theorem d_Mo_findSpans_64 : decode (am_c m_Mo_findSpans) 64 = .ok (.iaload, 1) := by decide +kernel
theorem d_Mo_findSpans_65 : decode (am_c m_Mo_findSpans) 65 = .ok (.aload_n 0, 1) := by decide +kernel
theorem d_Mo_findSpans_66 : decode (am_c m_Mo_findSpans) 66 = .ok (.getfield 53, 3) := by decide +kernel
theorem d_Mo_findSpans_69 : decode (am_c m_Mo_findSpans) 69 = .ok (.iload_n 2, 1) := by decide +kernel
theorem d_Mo_findSpans_70 : decode (am_c m_Mo_findSpans) 70 = .ok (.iaload, 1) := by decide +kernel
theorem d_Mo_findSpans_71 : decode (am_c m_Mo_findSpans) 71 = .ok (.iastore, 1) := by decide +kernel
theorem d_Mo_findSpans_72 : decode (am_c m_Mo_findSpans) 72 = .ok (.aload_n 0, 1) := by decide +kernel
theorem d_Mo_findSpans_73 : decode (am_c m_Mo_findSpans) 73 = .ok (.getfield 62, 3) := by decide +kernel
theorem d_Mo_findSpans_76 : decode (am_c m_Mo_findSpans) 76 = .ok (.aload_n 0, 1) := by decide +kernel
theorem d_Mo_findSpans_77 : decode (am_c m_Mo_findSpans) 77 = .ok (.getfield 47, 3) := by decide +kernel
theorem d_Mo_findSpans_80 : decode (am_c m_Mo_findSpans) 80 = .ok (.iload_n 2, 1) := by decide +kernel
theorem d_Mo_findSpans_81 : decode (am_c m_Mo_findSpans) 81 = .ok (.iaload, 1) := by decide +kernel
theorem d_Mo_findSpans_82 : decode (am_c m_Mo_findSpans) 82 = .ok (.aload_n 0, 1) := by decide +kernel
theorem d_Mo_findSpans_83 : decode (am_c m_Mo_findSpans) 83 = .ok (.getfield 56, 3) := by decide +kernel
theorem d_Mo_findSpans_86 : decode (am_c m_Mo_findSpans) 86 = .ok (.iload_n 2, 1) := by decide +kernel
theorem d_Mo_findSpans_87 : decode (am_c m_Mo_findSpans) 87 = .ok (.iaload, 1) := by decide +kernel
theorem d_Mo_findSpans_88 : decode (am_c m_Mo_findSpans) 88 = .ok (.iastore, 1) := by decide +kernel
theorem d_Mo_findSpans_89 : decode (am_c m_Mo_findSpans) 89 = .ok (.iinc 2 1, 3) := by decide +kernel
theorem d_Mo_findSpans_92 : decode (am_c m_Mo_findSpans) 92 = .ok (.goto (-67), 3) := by decide +kernel
theorem d_Mo_findSpans_95 : decode (am_c m_Mo_findSpans) 95 = .ok (.return_, 1) := by decide +kernel
theorem d_Mo_findShakeTimes_0 : decode (am_c m_Mo_findShakeTimes) 0 = .ok (.iconst 0, 1) := by decide +kernel
theorem d_Mo_findShakeTimes_1 : decode (am_c m_Mo_findShakeTimes) 1 = .ok (.istore_n 1, 1) := by decide +kernel
theorem d_Mo_findShakeTimes_2 : decode (am_c m_Mo_findShakeTimes) 2 = .ok (.iload_n 1, 1) := by decide +kernel
theorem d_Mo_findShakeTimes_3 : decode (am_c m_Mo_findShakeTimes) 3 = .ok (.iconst 2, 1) := by decide +kernel
theorem d_Mo_findShakeTimes_4 : decode (am_c m_Mo_findShakeTimes) 4 = .ok (.aload_n 0, 1) := by decide +kernel
theorem d_Mo_findShakeTimes_5 : decode (am_c m_Mo_findShakeTimes) 5 = .ok (.getfield 129, 3) := by decide +kernel
theorem d_Mo_findShakeTimes_8 : decode (am_c m_Mo_findShakeTimes) 8 = .ok (.imul, 1) := by decide +kernel
theorem d_Mo_findShakeTimes_9 : decode (am_c m_Mo_findShakeTimes) 9 = .ok (.if_icmp .ge 55, 3) := by decide +kernel
theorem d_Mo_findShakeTimes_12 : decode (am_c m_Mo_findShakeTimes) 12 = .ok (.aload_n 0, 1) := by decide +kernel
theorem d_Mo_findShakeTimes_13 : decode (am_c m_Mo_findShakeTimes) 13 = .ok (.aload_n 0, 1) := by decide +kernel
theorem d_Mo_findShakeTimes_14 : decode (am_c m_Mo_findShakeTimes) 14 = .ok (.getfield 32, 3) := by decide +kernel
theorem d_Mo_findShakeTimes_17 : decode (am_c m_Mo_findShakeTimes) 17 = .ok (.iload_n 1, 1) := by decide +kernel
theorem d_Mo_findShakeTimes_18 : decode (am_c m_Mo_findShakeTimes) 18 = .ok (.iconst 2, 1) := by decide +kernel
theorem d_Mo_findShakeTimes_19 : decode (am_c m_Mo_findShakeTimes) 19 = .ok (.idiv, 1) := by decide +kernel
theorem d_Mo_findShakeTimes_20 : decode (am_c m_Mo_findShakeTimes) 20 = .ok (.iaload, 1) := by decide +kernel
theorem d_Mo_findShakeTimes_21 : decode (am_c m_Mo_findShakeTimes) 21 = .ok (.iload_n 1, 1) := by decide +kernel
theorem d_Mo_findShakeTimes_22 : decode (am_c m_Mo_findShakeTimes) 22 = .ok (.iconst 2, 1) := by decide +kernel
theorem d_Mo_findShakeTimes_23 : decode (am_c m_Mo_findShakeTimes) 23 = .ok (.irem, 1) := by decide +kernel
theorem d_Mo_findShakeTimes_24 : decode (am_c m_Mo_findShakeTimes) 24 = .ok (.invokevirtual 157, 3) := by decide +kernel
theorem d_Mo_findShakeTimes_27 : decode (am_c m_Mo_findShakeTimes) 27 = .ok (.iconst 0, 1) := by decide +kernel
theorem d_Mo_findShakeTimes_28 : decode (am_c m_Mo_findShakeTimes) 28 = .ok (.istore_n 2, 1) := by decide +kernel
theorem d_Mo_findShakeTimes_29 : decode (am_c m_Mo_findShakeTimes) 29 = .ok (.iload_n 2, 1) := by decide +kernel
theorem d_Mo_findShakeTimes_30 : decode (am_c m_Mo_findShakeTimes) 30 = .ok (.bipush 16, 2) := by decide +kernel
theorem d_Mo_findShakeTimes_32 : decode (am_c m_Mo_findShakeTimes) 32 = .ok (.if_icmp .ge 26, 3) := by decide +kernel
theorem d_Mo_findShakeTimes_35 : decode (am_c m_Mo_findShakeTimes) 35 = .ok (.aload_n 0, 1) := by decide +kernel
theorem d_Mo_findShakeTimes_36 : decode (am_c m_Mo_findShakeTimes) 36 = .ok (.getfield 72, 3) := by decide +kernel
theorem d_Mo_findShakeTimes_39 : decode (am_c m_Mo_findShakeTimes) 39 = .ok (.bipush 16, 2) := by decide +kernel
theorem d_Mo_findShakeTimes_41 : decode (am_c m_Mo_findShakeTimes) 41 = .ok (.iload_n 1, 1) := by decide +kernel
theorem d_Mo_findShakeTimes_42 : decode (am_c m_Mo_findShakeTimes) 42 = .ok (.imul, 1) := by decide +kernel
theorem d_Mo_findShakeTimes_43 : decode (am_c m_Mo_findShakeTimes) 43 = .ok (.iload_n 2, 1) := by decide +kernel
theorem d_Mo_findShakeTimes_44 : decode (am_c m_Mo_findShakeTimes) 44 = .ok (.iadd, 1) := by decide +kernel
theorem d_Mo_findShakeTimes_45 : decode (am_c m_Mo_findShakeTimes) 45 = .ok (.aload_n 0, 1) := by decide +kernel
theorem d_Mo_findShakeTimes_46 : decode (am_c m_Mo_findShakeTimes) 46 = .ok (.getfield 69, 3) := by decide +kernel
theorem d_Mo_findShakeTimes_49 : decode (am_c m_Mo_findShakeTimes) 49 = .ok (.iload_n 2, 1) := by decide +kernel
theorem d_Mo_findShakeTimes_50 : decode (am_c m_Mo_findShakeTimes) 50 = .ok (.iaload, 1) := by decide +kernel
theorem d_Mo_findShakeTimes_51 : decode (am_c m_Mo_findShakeTimes) 51 = .ok (.iastore, 1) := by decide +kernel
theorem d_Mo_findShakeTimes_52 : decode (am_c m_Mo_findShakeTimes) 52 = .ok (.iinc 2 1, 3) := by decide +kernel
theorem d_Mo_findShakeTimes_55 : decode (am_c m_Mo_findShakeTimes) 55 = .ok (.goto (-26), 3) := by decide +kernel
theorem d_Mo_findShakeTimes_58 : decode (am_c m_Mo_findShakeTimes) 58 = .ok (.iinc 1 1, 3) := by decide +kernel
theorem d_Mo_findShakeTimes_61 : decode (am_c m_Mo_findShakeTimes) 61 = .ok (.goto (-59), 3) := by decide +kernel
theorem d_Mo_findShakeTimes_64 : decode (am_c m_Mo_findShakeTimes) 64 = .ok (.return_, 1) := by decide +kernel
theorem d_Mo_foretold_0 : decode (am_c m_Mo_foretold) 0 = .ok (.aload_n 0, 1) := by decide +kernel
theorem d_Mo_foretold_1 : decode (am_c m_Mo_foretold) 1 = .ok (.getfield 41, 3) := by decide +kernel
theorem d_Mo_foretold_4 : decode (am_c m_Mo_foretold) 4 = .ok (.iload_n 1, 1) := by decide +kernel
theorem d_Mo_foretold_5 : decode (am_c m_Mo_foretold) 5 = .ok (.iaload, 1) := by decide +kernel
theorem d_Mo_foretold_6 : decode (am_c m_Mo_foretold) 6 = .ok (.istore_n 2, 1) := by decide +kernel
theorem d_Mo_foretold_7 : decode (am_c m_Mo_foretold) 7 = .ok (.aload_n 0, 1) := by decide +kernel
theorem d_Mo_foretold_8 : decode (am_c m_Mo_foretold) 8 = .ok (.getfield 35, 3) := by decide +kernel
theorem d_Mo_foretold_11 : decode (am_c m_Mo_foretold) 11 = .ok (.iload_n 2, 1) := by decide +kernel
theorem d_Mo_foretold_12 : decode (am_c m_Mo_foretold) 12 = .ok (.iaload, 1) := by decide +kernel
theorem d_Mo_foretold_13 : decode (am_c m_Mo_foretold) 13 = .ok (.aload_n 0, 1) := by decide +kernel
theorem d_Mo_foretold_14 : decode (am_c m_Mo_foretold) 14 = .ok (.getfield 72, 3) := by decide +kernel
theorem d_Mo_foretold_17 : decode (am_c m_Mo_foretold) 17 = .ok (.bipush 16, 2) := by decide +kernel
theorem d_Mo_foretold_19 : decode (am_c m_Mo_foretold) 19 = .ok (.iconst 2, 1) := by decide +kernel
theorem d_Mo_foretold_20 : decode (am_c m_Mo_foretold) 20 = .ok (.iload_n 2, 1) := by decide +kernel
theorem d_Mo_foretold_21 : decode (am_c m_Mo_foretold) 21 = .ok (.imul, 1) := by decide +kernel
theorem d_Mo_foretold_22 : decode (am_c m_Mo_foretold) 22 = .ok (.aload_n 0, 1) := by decide +kernel
theorem d_Mo_foretold_23 : decode (am_c m_Mo_foretold) 23 = .ok (.getfield 44, 3) := by decide +kernel
theorem d_Mo_foretold_26 : decode (am_c m_Mo_foretold) 26 = .ok (.iload_n 1, 1) := by decide +kernel
theorem d_Mo_foretold_27 : decode (am_c m_Mo_foretold) 27 = .ok (.iaload, 1) := by decide +kernel
theorem d_Mo_foretold_28 : decode (am_c m_Mo_foretold) 28 = .ok (.iadd, 1) := by decide +kernel
theorem d_Mo_foretold_29 : decode (am_c m_Mo_foretold) 29 = .ok (.imul, 1) := by decide +kernel
theorem d_Mo_foretold_30 : decode (am_c m_Mo_foretold) 30 = .ok (.aload_n 0, 1) := by decide +kernel
theorem d_Mo_foretold_31 : decode (am_c m_Mo_foretold) 31 = .ok (.getfield 26, 3) := by decide +kernel
theorem d_Mo_foretold_34 : decode (am_c m_Mo_foretold) 34 = .ok (.aload_n 0, 1) := by decide +kernel
theorem d_Mo_foretold_35 : decode (am_c m_Mo_foretold) 35 = .ok (.getfield 38, 3) := by decide +kernel
theorem d_Mo_foretold_38 : decode (am_c m_Mo_foretold) 38 = .ok (.iload_n 1, 1) := by decide +kernel
theorem d_Mo_foretold_39 : decode (am_c m_Mo_foretold) 39 = .ok (.iaload, 1) := by decide +kernel
theorem d_Mo_foretold_40 : decode (am_c m_Mo_foretold) 40 = .ok (.iaload, 1) := by decide +kernel
theorem d_Mo_foretold_41 : decode (am_c m_Mo_foretold) 41 = .ok (.iadd, 1) := by decide +kernel
theorem d_Mo_foretold_42 : decode (am_c m_Mo_foretold) 42 = .ok (.iaload, 1) := by decide +kernel
theorem d_Mo_foretold_43 : decode (am_c m_Mo_foretold) 43 = .ok (.iadd, 1) := by decide +kernel
theorem d_Mo_foretold_44 : decode (am_c m_Mo_foretold) 44 = .ok (.aload_n 0, 1) := by decide +kernel
theorem d_Mo_foretold_45 : decode (am_c m_Mo_foretold) 45 = .ok (.getfield 29, 3) := by decide +kernel
theorem d_Mo_foretold_48 : decode (am_c m_Mo_foretold) 48 = .ok (.aload_n 0, 1) := by decide +kernel
theorem d_Mo_foretold_49 : decode (am_c m_Mo_foretold) 49 = .ok (.getfield 38, 3) := by decide +kernel
theorem d_Mo_foretold_52 : decode (am_c m_Mo_foretold) 52 = .ok (.iload_n 1, 1) := by decide +kernel
theorem d_Mo_foretold_53 : decode (am_c m_Mo_foretold) 53 = .ok (.iaload, 1) := by decide +kernel
theorem d_Mo_foretold_54 : decode (am_c m_Mo_foretold) 54 = .ok (.iaload, 1) := by decide +kernel
theorem d_Mo_foretold_55 : decode (am_c m_Mo_foretold) 55 = .ok (.iadd, 1) := by decide +kernel
theorem d_Mo_foretold_56 : decode (am_c m_Mo_foretold) 56 = .ok (.ireturn, 1) := by decide +kernel
theorem d_Mo_offOf_0 : decode (am_c m_Mo_offOf) 0 = .ok (.iload_n 2, 1) := by decide +kernel
theorem d_Mo_offOf_1 : decode (am_c m_Mo_offOf) 1 = .ok (.aload_n 0, 1) := by decide +kernel
theorem d_Mo_offOf_2 : decode (am_c m_Mo_offOf) 2 = .ok (.getfield 59, 3) := by decide +kernel
theorem d_Mo_offOf_5 : decode (am_c m_Mo_offOf) 5 = .ok (.iload_n 1, 1) := by decide +kernel
theorem d_Mo_offOf_6 : decode (am_c m_Mo_offOf) 6 = .ok (.iaload, 1) := by decide +kernel
theorem d_Mo_offOf_7 : decode (am_c m_Mo_offOf) 7 = .ok (.if_icmp .ge 14, 3) := by decide +kernel
theorem d_Mo_offOf_10 : decode (am_c m_Mo_offOf) 10 = .ok (.aload_n 0, 1) := by decide +kernel
theorem d_Mo_offOf_11 : decode (am_c m_Mo_offOf) 11 = .ok (.getfield 59, 3) := by decide +kernel
theorem d_Mo_offOf_14 : decode (am_c m_Mo_offOf) 14 = .ok (.iload_n 1, 1) := by decide +kernel
theorem d_Mo_offOf_15 : decode (am_c m_Mo_offOf) 15 = .ok (.iaload, 1) := by decide +kernel
theorem d_Mo_offOf_16 : decode (am_c m_Mo_offOf) 16 = .ok (.iload_n 2, 1) := by decide +kernel
theorem d_Mo_offOf_17 : decode (am_c m_Mo_offOf) 17 = .ok (.isub, 1) := by decide +kernel
theorem d_Mo_offOf_18 : decode (am_c m_Mo_offOf) 18 = .ok (.goto 25, 3) := by decide +kernel
theorem d_Mo_offOf_21 : decode (am_c m_Mo_offOf) 21 = .ok (.iload_n 2, 1) := by decide +kernel
theorem d_Mo_offOf_22 : decode (am_c m_Mo_offOf) 22 = .ok (.aload_n 0, 1) := by decide +kernel
theorem d_Mo_offOf_23 : decode (am_c m_Mo_offOf) 23 = .ok (.getfield 62, 3) := by decide +kernel
theorem d_Mo_offOf_26 : decode (am_c m_Mo_offOf) 26 = .ok (.iload_n 1, 1) := by decide +kernel
theorem d_Mo_offOf_27 : decode (am_c m_Mo_offOf) 27 = .ok (.iaload, 1) := by decide +kernel
theorem d_Mo_offOf_28 : decode (am_c m_Mo_offOf) 28 = .ok (.if_icmp .le 14, 3) := by decide +kernel
theorem d_Mo_offOf_31 : decode (am_c m_Mo_offOf) 31 = .ok (.iload_n 2, 1) := by decide +kernel
theorem d_Mo_offOf_32 : decode (am_c m_Mo_offOf) 32 = .ok (.aload_n 0, 1) := by decide +kernel
theorem d_Mo_offOf_33 : decode (am_c m_Mo_offOf) 33 = .ok (.getfield 62, 3) := by decide +kernel
theorem d_Mo_offOf_36 : decode (am_c m_Mo_offOf) 36 = .ok (.iload_n 1, 1) := by decide +kernel
theorem d_Mo_offOf_37 : decode (am_c m_Mo_offOf) 37 = .ok (.iaload, 1) := by decide +kernel
theorem d_Mo_offOf_38 : decode (am_c m_Mo_offOf) 38 = .ok (.isub, 1) := by decide +kernel
theorem d_Mo_offOf_39 : decode (am_c m_Mo_offOf) 39 = .ok (.goto 4, 3) := by decide +kernel
theorem d_Mo_offOf_42 : decode (am_c m_Mo_offOf) 42 = .ok (.iconst 0, 1) := by decide +kernel
theorem d_Mo_offOf_43 : decode (am_c m_Mo_offOf) 43 = .ok (.ireturn, 1) := by decide +kernel
theorem d_Mo_misfit_0 : decode (am_c m_Mo_misfit) 0 = .ok (.iload_n 1, 1) := by decide +kernel
theorem d_Mo_misfit_1 : decode (am_c m_Mo_misfit) 1 = .ok (.iconst 0, 1) := by decide +kernel
theorem d_Mo_misfit_2 : decode (am_c m_Mo_misfit) 2 = .ok (.aload_n 0, 1) := by decide +kernel
theorem d_Mo_misfit_3 : decode (am_c m_Mo_misfit) 3 = .ok (.getfield 174, 3) := by decide +kernel
theorem d_Mo_misfit_6 : decode (am_c m_Mo_misfit) 6 = .ok (.invokestatic 122, 3) := by decide +kernel
theorem d_Mo_misfit_9 : decode (am_c m_Mo_misfit) 9 = .ok (.ifCond .eq 12, 3) := by decide +kernel
theorem d_Mo_misfit_12 : decode (am_c m_Mo_misfit) 12 = .ok (.iload_n 2, 1) := by decide +kernel
theorem d_Mo_misfit_13 : decode (am_c m_Mo_misfit) 13 = .ok (.iconst 0, 1) := by decide +kernel
theorem d_Mo_misfit_14 : decode (am_c m_Mo_misfit) 14 = .ok (.iconst 1, 1) := by decide +kernel
theorem d_Mo_misfit_15 : decode (am_c m_Mo_misfit) 15 = .ok (.invokestatic 122, 3) := by decide +kernel
theorem d_Mo_misfit_18 : decode (am_c m_Mo_misfit) 18 = .ok (.ifCond .ne 6, 3) := by decide +kernel
theorem d_Mo_misfit_21 : decode (am_c m_Mo_misfit) 21 = .ok (.bipush (-3), 2) := by decide +kernel
theorem d_Mo_misfit_23 : decode (am_c m_Mo_misfit) 23 = .ok (.ireturn, 1) := by decide +kernel
theorem d_Mo_misfit_24 : decode (am_c m_Mo_misfit) 24 = .ok (.aload_n 0, 1) := by decide +kernel
theorem d_Mo_misfit_25 : decode (am_c m_Mo_misfit) 25 = .ok (.iload_n 1, 1) := by decide +kernel
theorem d_Mo_misfit_26 : decode (am_c m_Mo_misfit) 26 = .ok (.invokevirtual 196, 3) := by decide +kernel
theorem d_Mo_misfit_29 : decode (am_c m_Mo_misfit) 29 = .ok (.aload_n 0, 1) := by decide +kernel
theorem d_Mo_misfit_30 : decode (am_c m_Mo_misfit) 30 = .ok (.invokevirtual 200, 3) := by decide +kernel
theorem d_Mo_misfit_33 : decode (am_c m_Mo_misfit) 33 = .ok (.istore_n 3, 1) := by decide +kernel
theorem d_Mo_misfit_34 : decode (am_c m_Mo_misfit) 34 = .ok (.iconst 0, 1) := by decide +kernel
theorem d_Mo_misfit_35 : decode (am_c m_Mo_misfit) 35 = .ok (.istore 4, 2) := by decide +kernel
theorem d_Mo_misfit_37 : decode (am_c m_Mo_misfit) 37 = .ok (.iconst 0, 1) := by decide +kernel
theorem d_Mo_misfit_38 : decode (am_c m_Mo_misfit) 38 = .ok (.istore 5, 2) := by decide +kernel
theorem d_Mo_misfit_40 : decode (am_c m_Mo_misfit) 40 = .ok (.iload 5, 2) := by decide +kernel
theorem d_Mo_misfit_42 : decode (am_c m_Mo_misfit) 42 = .ok (.aload_n 0, 1) := by decide +kernel
theorem d_Mo_misfit_43 : decode (am_c m_Mo_misfit) 43 = .ok (.getfield 132, 3) := by decide +kernel
theorem d_Mo_misfit_46 : decode (am_c m_Mo_misfit) 46 = .ok (.if_icmp .ge 44, 3) := by decide +kernel
theorem d_Mo_misfit_49 : decode (am_c m_Mo_misfit) 49 = .ok (.iload 4, 2) := by decide +kernel
theorem d_Mo_misfit_51 : decode (am_c m_Mo_misfit) 51 = .ok (.aload_n 0, 1) := by decide +kernel
theorem d_Mo_misfit_52 : decode (am_c m_Mo_misfit) 52 = .ok (.getfield 65, 3) := by decide +kernel
theorem d_Mo_misfit_55 : decode (am_c m_Mo_misfit) 55 = .ok (.iload 5, 2) := by decide +kernel
theorem d_Mo_misfit_57 : decode (am_c m_Mo_misfit) 57 = .ok (.baload, 1) := by decide +kernel
theorem d_Mo_misfit_58 : decode (am_c m_Mo_misfit) 58 = .ok (.ifCond .eq 22, 3) := by decide +kernel
theorem d_Mo_misfit_61 : decode (am_c m_Mo_misfit) 61 = .ok (.aload_n 0, 1) := by decide +kernel
theorem d_Mo_misfit_62 : decode (am_c m_Mo_misfit) 62 = .ok (.iload 5, 2) := by decide +kernel
theorem d_Mo_misfit_64 : decode (am_c m_Mo_misfit) 64 = .ok (.aload_n 0, 1) := by decide +kernel
theorem d_Mo_misfit_65 : decode (am_c m_Mo_misfit) 65 = .ok (.iload 5, 2) := by decide +kernel
theorem d_Mo_misfit_67 : decode (am_c m_Mo_misfit) 67 = .ok (.invokevirtual 190, 3) := by decide +kernel
theorem d_Mo_misfit_70 : decode (am_c m_Mo_misfit) 70 = .ok (.invokevirtual 193, 3) := by decide +kernel
theorem d_Mo_misfit_73 : decode (am_c m_Mo_misfit) 73 = .ok (.ifCond .ne 7, 3) := by decide +kernel
theorem d_Mo_misfit_76 : decode (am_c m_Mo_misfit) 76 = .ok (.iconst 1, 1) := by decide +kernel
theorem d_Mo_misfit_77 : decode (am_c m_Mo_misfit) 77 = .ok (.goto 4, 3) := by decide +kernel
theorem d_Mo_misfit_80 : decode (am_c m_Mo_misfit) 80 = .ok (.iconst 0, 1) := by decide +kernel
theorem d_Mo_misfit_81 : decode (am_c m_Mo_misfit) 81 = .ok (.iadd, 1) := by decide +kernel
theorem d_Mo_misfit_82 : decode (am_c m_Mo_misfit) 82 = .ok (.istore 4, 2) := by decide +kernel
theorem d_Mo_misfit_84 : decode (am_c m_Mo_misfit) 84 = .ok (.iinc 5 1, 3) := by decide +kernel
theorem d_Mo_misfit_87 : decode (am_c m_Mo_misfit) 87 = .ok (.goto (-47), 3) := by decide +kernel
theorem d_Mo_misfit_90 : decode (am_c m_Mo_misfit) 90 = .ok (.iload_n 2, 1) := by decide +kernel
theorem d_Mo_misfit_91 : decode (am_c m_Mo_misfit) 91 = .ok (.ifCond .ne 7, 3) := by decide +kernel
theorem d_Mo_misfit_94 : decode (am_c m_Mo_misfit) 94 = .ok (.iload_n 3, 1) := by decide +kernel
theorem d_Mo_misfit_95 : decode (am_c m_Mo_misfit) 95 = .ok (.goto 5, 3) := by decide +kernel
theorem d_Mo_misfit_98 : decode (am_c m_Mo_misfit) 98 = .ok (.iload 4, 2) := by decide +kernel
theorem d_Mo_misfit_100 : decode (am_c m_Mo_misfit) 100 = .ok (.ireturn, 1) := by decide +kernel
theorem d_Mo_misfitNow_0 : decode (am_c m_Mo_misfitNow) 0 = .ok (.aload_n 0, 1) := by decide +kernel
theorem d_Mo_misfitNow_1 : decode (am_c m_Mo_misfitNow) 1 = .ok (.invokevirtual 187, 3) := by decide +kernel
theorem d_Mo_misfitNow_4 : decode (am_c m_Mo_misfitNow) 4 = .ok (.iconst 0, 1) := by decide +kernel
theorem d_Mo_misfitNow_5 : decode (am_c m_Mo_misfitNow) 5 = .ok (.istore_n 1, 1) := by decide +kernel
theorem d_Mo_misfitNow_6 : decode (am_c m_Mo_misfitNow) 6 = .ok (.iconst 0, 1) := by decide +kernel
theorem d_Mo_misfitNow_7 : decode (am_c m_Mo_misfitNow) 7 = .ok (.istore_n 2, 1) := by decide +kernel
theorem d_Mo_misfitNow_8 : decode (am_c m_Mo_misfitNow) 8 = .ok (.iload_n 2, 1) := by decide +kernel
theorem d_Mo_misfitNow_9 : decode (am_c m_Mo_misfitNow) 9 = .ok (.aload_n 0, 1) := by decide +kernel
theorem d_Mo_misfitNow_10 : decode (am_c m_Mo_misfitNow) 10 = .ok (.getfield 132, 3) := by decide +kernel
theorem d_Mo_misfitNow_13 : decode (am_c m_Mo_misfitNow) 13 = .ok (.if_icmp .ge 35, 3) := by decide +kernel
theorem d_Mo_misfitNow_16 : decode (am_c m_Mo_misfitNow) 16 = .ok (.iload_n 1, 1) := by decide +kernel
theorem d_Mo_misfitNow_17 : decode (am_c m_Mo_misfitNow) 17 = .ok (.aload_n 0, 1) := by decide +kernel
theorem d_Mo_misfitNow_18 : decode (am_c m_Mo_misfitNow) 18 = .ok (.getfield 65, 3) := by decide +kernel
theorem d_Mo_misfitNow_21 : decode (am_c m_Mo_misfitNow) 21 = .ok (.iload_n 2, 1) := by decide +kernel
theorem d_Mo_misfitNow_22 : decode (am_c m_Mo_misfitNow) 22 = .ok (.baload, 1) := by decide +kernel
theorem d_Mo_misfitNow_23 : decode (am_c m_Mo_misfitNow) 23 = .ok (.ifCond .eq 16, 3) := by decide +kernel
theorem d_Mo_misfitNow_26 : decode (am_c m_Mo_misfitNow) 26 = .ok (.aload_n 0, 1) := by decide +kernel
theorem d_Mo_misfitNow_27 : decode (am_c m_Mo_misfitNow) 27 = .ok (.iload_n 2, 1) := by decide +kernel
theorem d_Mo_misfitNow_28 : decode (am_c m_Mo_misfitNow) 28 = .ok (.aload_n 0, 1) := by decide +kernel
theorem d_Mo_misfitNow_29 : decode (am_c m_Mo_misfitNow) 29 = .ok (.iload_n 2, 1) := by decide +kernel
theorem d_Mo_misfitNow_30 : decode (am_c m_Mo_misfitNow) 30 = .ok (.invokevirtual 190, 3) := by decide +kernel
theorem d_Mo_misfitNow_33 : decode (am_c m_Mo_misfitNow) 33 = .ok (.invokevirtual 193, 3) := by decide +kernel
theorem d_Mo_misfitNow_36 : decode (am_c m_Mo_misfitNow) 36 = .ok (.goto 4, 3) := by decide +kernel
theorem d_Mo_misfitNow_39 : decode (am_c m_Mo_misfitNow) 39 = .ok (.iconst 0, 1) := by decide +kernel
theorem d_Mo_misfitNow_40 : decode (am_c m_Mo_misfitNow) 40 = .ok (.iadd, 1) := by decide +kernel
theorem d_Mo_misfitNow_41 : decode (am_c m_Mo_misfitNow) 41 = .ok (.istore_n 1, 1) := by decide +kernel
theorem d_Mo_misfitNow_42 : decode (am_c m_Mo_misfitNow) 42 = .ok (.iinc 2 1, 3) := by decide +kernel
theorem d_Mo_misfitNow_45 : decode (am_c m_Mo_misfitNow) 45 = .ok (.goto (-37), 3) := by decide +kernel
theorem d_Mo_misfitNow_48 : decode (am_c m_Mo_misfitNow) 48 = .ok (.iload_n 1, 1) := by decide +kernel
theorem d_Mo_misfitNow_49 : decode (am_c m_Mo_misfitNow) 49 = .ok (.ireturn, 1) := by decide +kernel
