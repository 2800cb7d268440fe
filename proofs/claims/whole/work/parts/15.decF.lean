/-! ===== what the bytes are ===== -/
theorem d_La_law_0 : decode (am_c m_La_law) 0 = .ok (.new 7, 3) := by decide +kernel
theorem d_La_law_3 : decode (am_c m_La_law) 3 = .ok (.dup, 1) := by decide +kernel
theorem d_La_law_4 : decode (am_c m_La_law) 4 = .ok (.invokespecial 9, 3) := by decide +kernel
theorem d_La_law_7 : decode (am_c m_La_law) 7 = .ok (.astore_n 1, 1) := by decide +kernel
theorem d_La_law_8 : decode (am_c m_La_law) 8 = .ok (.new 10, 3) := by decide +kernel
theorem d_La_law_11 : decode (am_c m_La_law) 11 = .ok (.dup, 1) := by decide +kernel
theorem d_La_law_12 : decode (am_c m_La_law) 12 = .ok (.invokespecial 12, 3) := by decide +kernel
theorem d_La_law_15 : decode (am_c m_La_law) 15 = .ok (.astore_n 2, 1) := by decide +kernel
theorem d_La_law_16 : decode (am_c m_La_law) 16 = .ok (.iconst 0, 1) := by decide +kernel
theorem d_La_law_17 : decode (am_c m_La_law) 17 = .ok (.istore_n 3, 1) := by decide +kernel
theorem d_La_law_18 : decode (am_c m_La_law) 18 = .ok (.iload_n 3, 1) := by decide +kernel
theorem d_La_law_19 : decode (am_c m_La_law) 19 = .ok (.aload_n 0, 1) := by decide +kernel
theorem d_La_law_20 : decode (am_c m_La_law) 20 = .ok (.arraylength, 1) := by decide +kernel
theorem d_La_law_21 : decode (am_c m_La_law) 21 = .ok (.bipush 6, 2) := by decide +kernel
theorem d_La_law_23 : decode (am_c m_La_law) 23 = .ok (.isub, 1) := by decide +kernel
theorem d_La_law_24 : decode (am_c m_La_law) 24 = .ok (.if_icmp .gt 1154, 3) := by decide +kernel
theorem d_La_law_27 : decode (am_c m_La_law) 27 = .ok (.aload_n 0, 1) := by decide +kernel
theorem d_La_law_28 : decode (am_c m_La_law) 28 = .ok (.iload_n 3, 1) := by decide +kernel
theorem d_La_law_29 : decode (am_c m_La_law) 29 = .ok (.iaload, 1) := by decide +kernel
theorem d_La_law_30 : decode (am_c m_La_law) 30 = .ok (.bipush 31, 2) := by decide +kernel
theorem d_La_law_32 : decode (am_c m_La_law) 32 = .ok (.iand, 1) := by decide +kernel
theorem d_La_law_33 : decode (am_c m_La_law) 33 = .ok (.tableswitch 1139 0 31 #[143, 176, 199, 232, 265, 298, 331, 374, 427, 450, 483, 516, 559, 622, 665, 688, 721, 754, 777, 810, 823, 836, 859, 882, 925, 948, 971, 1014, 1077, 1090, 1103, 1116], 143) := by decide +kernel
theorem d_La_law_176 : decode (am_c m_La_law) 176 = .ok (.aload_n 1, 1) := by decide +kernel
theorem d_La_law_177 : decode (am_c m_La_law) 177 = .ok (.aload_n 0, 1) := by decide +kernel
theorem d_La_law_178 : decode (am_c m_La_law) 178 = .ok (.iload_n 3, 1) := by decide +kernel
theorem d_La_law_179 : decode (am_c m_La_law) 179 = .ok (.iconst 1, 1) := by decide +kernel
theorem d_La_law_180 : decode (am_c m_La_law) 180 = .ok (.iadd, 1) := by decide +kernel
theorem d_La_law_181 : decode (am_c m_La_law) 181 = .ok (.iaload, 1) := by decide +kernel
theorem d_La_law_182 : decode (am_c m_La_law) 182 = .ok (.aload_n 0, 1) := by decide +kernel
theorem d_La_law_183 : decode (am_c m_La_law) 183 = .ok (.iload_n 3, 1) := by decide +kernel
theorem d_La_law_184 : decode (am_c m_La_law) 184 = .ok (.iconst 2, 1) := by decide +kernel
theorem d_La_law_185 : decode (am_c m_La_law) 185 = .ok (.iadd, 1) := by decide +kernel
theorem d_La_law_186 : decode (am_c m_La_law) 186 = .ok (.iaload, 1) := by decide +kernel
theorem d_La_law_187 : decode (am_c m_La_law) 187 = .ok (.invokevirtual 13, 3) := by decide +kernel
theorem d_La_law_190 : decode (am_c m_La_law) 190 = .ok (.aload_n 2, 1) := by decide +kernel
theorem d_La_law_191 : decode (am_c m_La_law) 191 = .ok (.aload_n 0, 1) := by decide +kernel
theorem d_La_law_192 : decode (am_c m_La_law) 192 = .ok (.iload_n 3, 1) := by decide +kernel
theorem d_La_law_193 : decode (am_c m_La_law) 193 = .ok (.iconst 1, 1) := by decide +kernel
theorem d_La_law_194 : decode (am_c m_La_law) 194 = .ok (.iadd, 1) := by decide +kernel
theorem d_La_law_195 : decode (am_c m_La_law) 195 = .ok (.iaload, 1) := by decide +kernel
theorem d_La_law_196 : decode (am_c m_La_law) 196 = .ok (.aload_n 0, 1) := by decide +kernel
theorem d_La_law_197 : decode (am_c m_La_law) 197 = .ok (.iload_n 3, 1) := by decide +kernel
theorem d_La_law_198 : decode (am_c m_La_law) 198 = .ok (.iconst 2, 1) := by decide +kernel
theorem d_La_law_199 : decode (am_c m_La_law) 199 = .ok (.iadd, 1) := by decide +kernel
theorem d_La_law_200 : decode (am_c m_La_law) 200 = .ok (.iaload, 1) := by decide +kernel
theorem d_La_law_201 : decode (am_c m_La_law) 201 = .ok (.invokevirtual 17, 3) := by decide +kernel
theorem d_La_law_204 : decode (am_c m_La_law) 204 = .ok (.if_icmp .eq 968, 3) := by decide +kernel
theorem d_La_law_207 : decode (am_c m_La_law) 207 = .ok (.iconst 0, 1) := by decide +kernel
theorem d_La_law_208 : decode (am_c m_La_law) 208 = .ok (.ireturn, 1) := by decide +kernel
theorem d_La_law_209 : decode (am_c m_La_law) 209 = .ok (.aload_n 1, 1) := by decide +kernel
theorem d_La_law_210 : decode (am_c m_La_law) 210 = .ok (.aload_n 0, 1) := by decide +kernel
theorem d_La_law_211 : decode (am_c m_La_law) 211 = .ok (.iload_n 3, 1) := by decide +kernel
theorem d_La_law_212 : decode (am_c m_La_law) 212 = .ok (.iconst 1, 1) := by decide +kernel
theorem d_La_law_213 : decode (am_c m_La_law) 213 = .ok (.iadd, 1) := by decide +kernel
theorem d_La_law_214 : decode (am_c m_La_law) 214 = .ok (.iaload, 1) := by decide +kernel
theorem d_La_law_215 : decode (am_c m_La_law) 215 = .ok (.invokevirtual 18, 3) := by decide +kernel
theorem d_La_law_218 : decode (am_c m_La_law) 218 = .ok (.aload_n 2, 1) := by decide +kernel
theorem d_La_law_219 : decode (am_c m_La_law) 219 = .ok (.aload_n 0, 1) := by decide +kernel
theorem d_La_law_220 : decode (am_c m_La_law) 220 = .ok (.iload_n 3, 1) := by decide +kernel
theorem d_La_law_221 : decode (am_c m_La_law) 221 = .ok (.iconst 1, 1) := by decide +kernel
theorem d_La_law_222 : decode (am_c m_La_law) 222 = .ok (.iadd, 1) := by decide +kernel
theorem d_La_law_223 : decode (am_c m_La_law) 223 = .ok (.iaload, 1) := by decide +kernel
theorem d_La_law_224 : decode (am_c m_La_law) 224 = .ok (.invokevirtual 22, 3) := by decide +kernel
theorem d_La_law_227 : decode (am_c m_La_law) 227 = .ok (.if_icmp .eq 945, 3) := by decide +kernel
theorem d_La_law_230 : decode (am_c m_La_law) 230 = .ok (.iconst 0, 1) := by decide +kernel
theorem d_La_law_231 : decode (am_c m_La_law) 231 = .ok (.ireturn, 1) := by decide +kernel
theorem d_La_law_232 : decode (am_c m_La_law) 232 = .ok (.aload_n 1, 1) := by decide +kernel
theorem d_La_law_233 : decode (am_c m_La_law) 233 = .ok (.aload_n 0, 1) := by decide +kernel
theorem d_La_law_234 : decode (am_c m_La_law) 234 = .ok (.iload_n 3, 1) := by decide +kernel
theorem d_La_law_235 : decode (am_c m_La_law) 235 = .ok (.iconst 1, 1) := by decide +kernel
theorem d_La_law_236 : decode (am_c m_La_law) 236 = .ok (.iadd, 1) := by decide +kernel
theorem d_La_law_237 : decode (am_c m_La_law) 237 = .ok (.iaload, 1) := by decide +kernel
theorem d_La_law_238 : decode (am_c m_La_law) 238 = .ok (.aload_n 0, 1) := by decide +kernel
theorem d_La_law_239 : decode (am_c m_La_law) 239 = .ok (.iload_n 3, 1) := by decide +kernel
theorem d_La_law_240 : decode (am_c m_La_law) 240 = .ok (.iconst 2, 1) := by decide +kernel
theorem d_La_law_241 : decode (am_c m_La_law) 241 = .ok (.iadd, 1) := by decide +kernel
theorem d_La_law_242 : decode (am_c m_La_law) 242 = .ok (.iaload, 1) := by decide +kernel
theorem d_La_law_243 : decode (am_c m_La_law) 243 = .ok (.invokevirtual 23, 3) := by decide +kernel
theorem d_La_law_246 : decode (am_c m_La_law) 246 = .ok (.aload_n 2, 1) := by decide +kernel
theorem d_La_law_247 : decode (am_c m_La_law) 247 = .ok (.aload_n 0, 1) := by decide +kernel
theorem d_La_law_248 : decode (am_c m_La_law) 248 = .ok (.iload_n 3, 1) := by decide +kernel
theorem d_La_law_249 : decode (am_c m_La_law) 249 = .ok (.iconst 1, 1) := by decide +kernel
theorem d_La_law_250 : decode (am_c m_La_law) 250 = .ok (.iadd, 1) := by decide +kernel
theorem d_La_law_251 : decode (am_c m_La_law) 251 = .ok (.iaload, 1) := by decide +kernel
theorem d_La_law_252 : decode (am_c m_La_law) 252 = .ok (.aload_n 0, 1) := by decide +kernel
theorem d_La_law_253 : decode (am_c m_La_law) 253 = .ok (.iload_n 3, 1) := by decide +kernel
theorem d_La_law_254 : decode (am_c m_La_law) 254 = .ok (.iconst 2, 1) := by decide +kernel
theorem d_La_law_255 : decode (am_c m_La_law) 255 = .ok (.iadd, 1) := by decide +kernel
theorem d_La_law_256 : decode (am_c m_La_law) 256 = .ok (.iaload, 1) := by decide +kernel
theorem d_La_law_257 : decode (am_c m_La_law) 257 = .ok (.invokevirtual 26, 3) := by decide +kernel
theorem d_La_law_260 : decode (am_c m_La_law) 260 = .ok (.if_icmp .eq 912, 3) := by decide +kernel
theorem d_La_law_263 : decode (am_c m_La_law) 263 = .ok (.iconst 0, 1) := by decide +kernel
theorem d_La_law_264 : decode (am_c m_La_law) 264 = .ok (.ireturn, 1) := by decide +kernel
theorem d_La_law_265 : decode (am_c m_La_law) 265 = .ok (.aload_n 1, 1) := by decide +kernel
theorem d_La_law_266 : decode (am_c m_La_law) 266 = .ok (.aload_n 0, 1) := by decide +kernel
theorem d_La_law_267 : decode (am_c m_La_law) 267 = .ok (.iload_n 3, 1) := by decide +kernel
theorem d_La_law_268 : decode (am_c m_La_law) 268 = .ok (.iconst 1, 1) := by decide +kernel
theorem d_La_law_269 : decode (am_c m_La_law) 269 = .ok (.iadd, 1) := by decide +kernel
theorem d_La_law_270 : decode (am_c m_La_law) 270 = .ok (.iaload, 1) := by decide +kernel
theorem d_La_law_271 : decode (am_c m_La_law) 271 = .ok (.aload_n 0, 1) := by decide +kernel
theorem d_La_law_272 : decode (am_c m_La_law) 272 = .ok (.iload_n 3, 1) := by decide +kernel
theorem d_La_law_273 : decode (am_c m_La_law) 273 = .ok (.iconst 2, 1) := by decide +kernel
theorem d_La_law_274 : decode (am_c m_La_law) 274 = .ok (.iadd, 1) := by decide +kernel
theorem d_La_law_275 : decode (am_c m_La_law) 275 = .ok (.iaload, 1) := by decide +kernel
theorem d_La_law_276 : decode (am_c m_La_law) 276 = .ok (.invokevirtual 27, 3) := by decide +kernel
theorem d_La_law_279 : decode (am_c m_La_law) 279 = .ok (.aload_n 2, 1) := by decide +kernel
theorem d_La_law_280 : decode (am_c m_La_law) 280 = .ok (.aload_n 0, 1) := by decide +kernel
theorem d_La_law_281 : decode (am_c m_La_law) 281 = .ok (.iload_n 3, 1) := by decide +kernel
theorem d_La_law_282 : decode (am_c m_La_law) 282 = .ok (.iconst 1, 1) := by decide +kernel
theorem d_La_law_283 : decode (am_c m_La_law) 283 = .ok (.iadd, 1) := by decide +kernel
theorem d_La_law_284 : decode (am_c m_La_law) 284 = .ok (.iaload, 1) := by decide +kernel
theorem d_La_law_285 : decode (am_c m_La_law) 285 = .ok (.aload_n 0, 1) := by decide +kernel
theorem d_La_law_286 : decode (am_c m_La_law) 286 = .ok (.iload_n 3, 1) := by decide +kernel
theorem d_La_law_287 : decode (am_c m_La_law) 287 = .ok (.iconst 2, 1) := by decide +kernel
theorem d_La_law_288 : decode (am_c m_La_law) 288 = .ok (.iadd, 1) := by decide +kernel
theorem d_La_law_289 : decode (am_c m_La_law) 289 = .ok (.iaload, 1) := by decide +kernel
theorem d_La_law_290 : decode (am_c m_La_law) 290 = .ok (.invokevirtual 30, 3) := by decide +kernel
theorem d_La_law_293 : decode (am_c m_La_law) 293 = .ok (.if_icmp .eq 879, 3) := by decide +kernel
theorem d_La_law_296 : decode (am_c m_La_law) 296 = .ok (.iconst 0, 1) := by decide +kernel
theorem d_La_law_297 : decode (am_c m_La_law) 297 = .ok (.ireturn, 1) := by decide +kernel
theorem d_La_law_298 : decode (am_c m_La_law) 298 = .ok (.aload_n 1, 1) := by decide +kernel
theorem d_La_law_299 : decode (am_c m_La_law) 299 = .ok (.aload_n 0, 1) := by decide +kernel
theorem d_La_law_300 : decode (am_c m_La_law) 300 = .ok (.iload_n 3, 1) := by decide +kernel
theorem d_La_law_301 : decode (am_c m_La_law) 301 = .ok (.iconst 1, 1) := by decide +kernel
theorem d_La_law_302 : decode (am_c m_La_law) 302 = .ok (.iadd, 1) := by decide +kernel
theorem d_La_law_303 : decode (am_c m_La_law) 303 = .ok (.iaload, 1) := by decide +kernel
theorem d_La_law_304 : decode (am_c m_La_law) 304 = .ok (.aload_n 0, 1) := by decide +kernel
theorem d_La_law_305 : decode (am_c m_La_law) 305 = .ok (.iload_n 3, 1) := by decide +kernel
theorem d_La_law_306 : decode (am_c m_La_law) 306 = .ok (.iconst 2, 1) := by decide +kernel
theorem d_La_law_307 : decode (am_c m_La_law) 307 = .ok (.iadd, 1) := by decide +kernel
theorem d_La_law_308 : decode (am_c m_La_law) 308 = .ok (.iaload, 1) := by decide +kernel
theorem d_La_law_309 : decode (am_c m_La_law) 309 = .ok (.invokevirtual 31, 3) := by decide +kernel
theorem d_La_law_312 : decode (am_c m_La_law) 312 = .ok (.aload_n 2, 1) := by decide +kernel
theorem d_La_law_313 : decode (am_c m_La_law) 313 = .ok (.aload_n 0, 1) := by decide +kernel
theorem d_La_law_314 : decode (am_c m_La_law) 314 = .ok (.iload_n 3, 1) := by decide +kernel
theorem d_La_law_315 : decode (am_c m_La_law) 315 = .ok (.iconst 1, 1) := by decide +kernel
theorem d_La_law_316 : decode (am_c m_La_law) 316 = .ok (.iadd, 1) := by decide +kernel
theorem d_La_law_317 : decode (am_c m_La_law) 317 = .ok (.iaload, 1) := by decide +kernel
theorem d_La_law_318 : decode (am_c m_La_law) 318 = .ok (.aload_n 0, 1) := by decide +kernel
theorem d_La_law_319 : decode (am_c m_La_law) 319 = .ok (.iload_n 3, 1) := by decide +kernel
theorem d_La_law_320 : decode (am_c m_La_law) 320 = .ok (.iconst 2, 1) := by decide +kernel
theorem d_La_law_321 : decode (am_c m_La_law) 321 = .ok (.iadd, 1) := by decide +kernel
theorem d_La_law_322 : decode (am_c m_La_law) 322 = .ok (.iaload, 1) := by decide +kernel
theorem d_La_law_323 : decode (am_c m_La_law) 323 = .ok (.invokevirtual 34, 3) := by decide +kernel
theorem d_La_law_326 : decode (am_c m_La_law) 326 = .ok (.if_icmp .eq 846, 3) := by decide +kernel
theorem d_La_law_329 : decode (am_c m_La_law) 329 = .ok (.iconst 0, 1) := by decide +kernel
theorem d_La_law_330 : decode (am_c m_La_law) 330 = .ok (.ireturn, 1) := by decide +kernel
theorem d_La_law_331 : decode (am_c m_La_law) 331 = .ok (.aload_n 1, 1) := by decide +kernel
theorem d_La_law_332 : decode (am_c m_La_law) 332 = .ok (.aload_n 0, 1) := by decide +kernel
theorem d_La_law_333 : decode (am_c m_La_law) 333 = .ok (.iload_n 3, 1) := by decide +kernel
theorem d_La_law_334 : decode (am_c m_La_law) 334 = .ok (.iconst 1, 1) := by decide +kernel
theorem d_La_law_335 : decode (am_c m_La_law) 335 = .ok (.iadd, 1) := by decide +kernel
theorem d_La_law_336 : decode (am_c m_La_law) 336 = .ok (.iaload, 1) := by decide +kernel
theorem d_La_law_337 : decode (am_c m_La_law) 337 = .ok (.aload_n 0, 1) := by decide +kernel
theorem d_La_law_338 : decode (am_c m_La_law) 338 = .ok (.iload_n 3, 1) := by decide +kernel
theorem d_La_law_339 : decode (am_c m_La_law) 339 = .ok (.iconst 2, 1) := by decide +kernel
theorem d_La_law_340 : decode (am_c m_La_law) 340 = .ok (.iadd, 1) := by decide +kernel
theorem d_La_law_341 : decode (am_c m_La_law) 341 = .ok (.iaload, 1) := by decide +kernel
theorem d_La_law_342 : decode (am_c m_La_law) 342 = .ok (.invokevirtual 35, 3) := by decide +kernel
theorem d_La_law_345 : decode (am_c m_La_law) 345 = .ok (.aload_n 2, 1) := by decide +kernel
theorem d_La_law_346 : decode (am_c m_La_law) 346 = .ok (.aload_n 0, 1) := by decide +kernel
theorem d_La_law_347 : decode (am_c m_La_law) 347 = .ok (.iload_n 3, 1) := by decide +kernel
theorem d_La_law_348 : decode (am_c m_La_law) 348 = .ok (.iconst 1, 1) := by decide +kernel
theorem d_La_law_349 : decode (am_c m_La_law) 349 = .ok (.iadd, 1) := by decide +kernel
theorem d_La_law_350 : decode (am_c m_La_law) 350 = .ok (.iaload, 1) := by decide +kernel
theorem d_La_law_351 : decode (am_c m_La_law) 351 = .ok (.aload_n 0, 1) := by decide +kernel
theorem d_La_law_352 : decode (am_c m_La_law) 352 = .ok (.iload_n 3, 1) := by decide +kernel
theorem d_La_law_353 : decode (am_c m_La_law) 353 = .ok (.iconst 2, 1) := by decide +kernel
theorem d_La_law_354 : decode (am_c m_La_law) 354 = .ok (.iadd, 1) := by decide +kernel
theorem d_La_law_355 : decode (am_c m_La_law) 355 = .ok (.iaload, 1) := by decide +kernel
theorem d_La_law_356 : decode (am_c m_La_law) 356 = .ok (.invokevirtual 38, 3) := by decide +kernel
theorem d_La_law_359 : decode (am_c m_La_law) 359 = .ok (.if_icmp .eq 813, 3) := by decide +kernel
theorem d_La_law_362 : decode (am_c m_La_law) 362 = .ok (.iconst 0, 1) := by decide +kernel
theorem d_La_law_363 : decode (am_c m_La_law) 363 = .ok (.ireturn, 1) := by decide +kernel
theorem d_La_law_364 : decode (am_c m_La_law) 364 = .ok (.aload_n 1, 1) := by decide +kernel
theorem d_La_law_365 : decode (am_c m_La_law) 365 = .ok (.aload_n 0, 1) := by decide +kernel
theorem d_La_law_366 : decode (am_c m_La_law) 366 = .ok (.iload_n 3, 1) := by decide +kernel
theorem d_La_law_367 : decode (am_c m_La_law) 367 = .ok (.iconst 1, 1) := by decide +kernel
theorem d_La_law_368 : decode (am_c m_La_law) 368 = .ok (.iadd, 1) := by decide +kernel
theorem d_La_law_369 : decode (am_c m_La_law) 369 = .ok (.iaload, 1) := by decide +kernel
theorem d_La_law_370 : decode (am_c m_La_law) 370 = .ok (.aload_n 0, 1) := by decide +kernel
theorem d_La_law_371 : decode (am_c m_La_law) 371 = .ok (.iload_n 3, 1) := by decide +kernel
theorem d_La_law_372 : decode (am_c m_La_law) 372 = .ok (.iconst 2, 1) := by decide +kernel
theorem d_La_law_373 : decode (am_c m_La_law) 373 = .ok (.iadd, 1) := by decide +kernel
theorem d_La_law_374 : decode (am_c m_La_law) 374 = .ok (.iaload, 1) := by decide +kernel
theorem d_La_law_375 : decode (am_c m_La_law) 375 = .ok (.aload_n 0, 1) := by decide +kernel
theorem d_La_law_376 : decode (am_c m_La_law) 376 = .ok (.iload_n 3, 1) := by decide +kernel
theorem d_La_law_377 : decode (am_c m_La_law) 377 = .ok (.iconst 3, 1) := by decide +kernel
theorem d_La_law_378 : decode (am_c m_La_law) 378 = .ok (.iadd, 1) := by decide +kernel
theorem d_La_law_379 : decode (am_c m_La_law) 379 = .ok (.iaload, 1) := by decide +kernel
theorem d_La_law_380 : decode (am_c m_La_law) 380 = .ok (.invokevirtual 39, 3) := by decide +kernel
theorem d_La_law_383 : decode (am_c m_La_law) 383 = .ok (.aload_n 2, 1) := by decide +kernel
theorem d_La_law_384 : decode (am_c m_La_law) 384 = .ok (.aload_n 0, 1) := by decide +kernel
theorem d_La_law_385 : decode (am_c m_La_law) 385 = .ok (.iload_n 3, 1) := by decide +kernel
theorem d_La_law_386 : decode (am_c m_La_law) 386 = .ok (.iconst 1, 1) := by decide +kernel
theorem d_La_law_387 : decode (am_c m_La_law) 387 = .ok (.iadd, 1) := by decide +kernel
theorem d_La_law_388 : decode (am_c m_La_law) 388 = .ok (.iaload, 1) := by decide +kernel
theorem d_La_law_389 : decode (am_c m_La_law) 389 = .ok (.aload_n 0, 1) := by decide +kernel
theorem d_La_law_390 : decode (am_c m_La_law) 390 = .ok (.iload_n 3, 1) := by decide +kernel
theorem d_La_law_391 : decode (am_c m_La_law) 391 = .ok (.iconst 2, 1) := by decide +kernel
theorem d_La_law_392 : decode (am_c m_La_law) 392 = .ok (.iadd, 1) := by decide +kernel
theorem d_La_law_393 : decode (am_c m_La_law) 393 = .ok (.iaload, 1) := by decide +kernel
theorem d_La_law_394 : decode (am_c m_La_law) 394 = .ok (.aload_n 0, 1) := by decide +kernel
theorem d_La_law_395 : decode (am_c m_La_law) 395 = .ok (.iload_n 3, 1) := by decide +kernel
theorem d_La_law_396 : decode (am_c m_La_law) 396 = .ok (.iconst 3, 1) := by decide +kernel
theorem d_La_law_397 : decode (am_c m_La_law) 397 = .ok (.iadd, 1) := by decide +kernel
theorem d_La_law_398 : decode (am_c m_La_law) 398 = .ok (.iaload, 1) := by decide +kernel
theorem d_La_law_399 : decode (am_c m_La_law) 399 = .ok (.invokevirtual 43, 3) := by decide +kernel
theorem d_La_law_402 : decode (am_c m_La_law) 402 = .ok (.if_icmp .eq 770, 3) := by decide +kernel
theorem d_La_law_405 : decode (am_c m_La_law) 405 = .ok (.iconst 0, 1) := by decide +kernel
theorem d_La_law_406 : decode (am_c m_La_law) 406 = .ok (.ireturn, 1) := by decide +kernel
theorem d_La_law_407 : decode (am_c m_La_law) 407 = .ok (.aload_n 1, 1) := by decide +kernel
theorem d_La_law_408 : decode (am_c m_La_law) 408 = .ok (.aload_n 0, 1) := by decide +kernel
theorem d_La_law_409 : decode (am_c m_La_law) 409 = .ok (.iload_n 3, 1) := by decide +kernel
theorem d_La_law_410 : decode (am_c m_La_law) 410 = .ok (.iconst 1, 1) := by decide +kernel
theorem d_La_law_411 : decode (am_c m_La_law) 411 = .ok (.iadd, 1) := by decide +kernel
theorem d_La_law_412 : decode (am_c m_La_law) 412 = .ok (.iaload, 1) := by decide +kernel
theorem d_La_law_413 : decode (am_c m_La_law) 413 = .ok (.aload_n 0, 1) := by decide +kernel
theorem d_La_law_414 : decode (am_c m_La_law) 414 = .ok (.iload_n 3, 1) := by decide +kernel
theorem d_La_law_415 : decode (am_c m_La_law) 415 = .ok (.iconst 2, 1) := by decide +kernel
theorem d_La_law_416 : decode (am_c m_La_law) 416 = .ok (.iadd, 1) := by decide +kernel
theorem d_La_law_417 : decode (am_c m_La_law) 417 = .ok (.iaload, 1) := by decide +kernel
theorem d_La_law_418 : decode (am_c m_La_law) 418 = .ok (.aload_n 0, 1) := by decide +kernel
theorem d_La_law_419 : decode (am_c m_La_law) 419 = .ok (.iload_n 3, 1) := by decide +kernel
theorem d_La_law_420 : decode (am_c m_La_law) 420 = .ok (.iconst 3, 1) := by decide +kernel
theorem d_La_law_421 : decode (am_c m_La_law) 421 = .ok (.iadd, 1) := by decide +kernel
theorem d_La_law_422 : decode (am_c m_La_law) 422 = .ok (.iaload, 1) := by decide +kernel
theorem d_La_law_423 : decode (am_c m_La_law) 423 = .ok (.aload_n 0, 1) := by decide +kernel
theorem d_La_law_424 : decode (am_c m_La_law) 424 = .ok (.iload_n 3, 1) := by decide +kernel
theorem d_La_law_425 : decode (am_c m_La_law) 425 = .ok (.iconst 4, 1) := by decide +kernel
theorem d_La_law_426 : decode (am_c m_La_law) 426 = .ok (.iadd, 1) := by decide +kernel
theorem d_La_law_427 : decode (am_c m_La_law) 427 = .ok (.iaload, 1) := by decide +kernel
theorem d_La_law_428 : decode (am_c m_La_law) 428 = .ok (.invokevirtual 44, 3) := by decide +kernel
theorem d_La_law_431 : decode (am_c m_La_law) 431 = .ok (.aload_n 2, 1) := by decide +kernel
theorem d_La_law_432 : decode (am_c m_La_law) 432 = .ok (.aload_n 0, 1) := by decide +kernel
theorem d_La_law_433 : decode (am_c m_La_law) 433 = .ok (.iload_n 3, 1) := by decide +kernel
theorem d_La_law_434 : decode (am_c m_La_law) 434 = .ok (.iconst 1, 1) := by decide +kernel
theorem d_La_law_435 : decode (am_c m_La_law) 435 = .ok (.iadd, 1) := by decide +kernel
theorem d_La_law_436 : decode (am_c m_La_law) 436 = .ok (.iaload, 1) := by decide +kernel
theorem d_La_law_437 : decode (am_c m_La_law) 437 = .ok (.aload_n 0, 1) := by decide +kernel
theorem d_La_law_438 : decode (am_c m_La_law) 438 = .ok (.iload_n 3, 1) := by decide +kernel
theorem d_La_law_439 : decode (am_c m_La_law) 439 = .ok (.iconst 2, 1) := by decide +kernel
theorem d_La_law_440 : decode (am_c m_La_law) 440 = .ok (.iadd, 1) := by decide +kernel
theorem d_La_law_441 : decode (am_c m_La_law) 441 = .ok (.iaload, 1) := by decide +kernel
theorem d_La_law_442 : decode (am_c m_La_law) 442 = .ok (.aload_n 0, 1) := by decide +kernel
theorem d_La_law_443 : decode (am_c m_La_law) 443 = .ok (.iload_n 3, 1) := by decide +kernel
theorem d_La_law_444 : decode (am_c m_La_law) 444 = .ok (.iconst 3, 1) := by decide +kernel
theorem d_La_law_445 : decode (am_c m_La_law) 445 = .ok (.iadd, 1) := by decide +kernel
theorem d_La_law_446 : decode (am_c m_La_law) 446 = .ok (.iaload, 1) := by decide +kernel
theorem d_La_law_447 : decode (am_c m_La_law) 447 = .ok (.aload_n 0, 1) := by decide +kernel
theorem d_La_law_448 : decode (am_c m_La_law) 448 = .ok (.iload_n 3, 1) := by decide +kernel
theorem d_La_law_449 : decode (am_c m_La_law) 449 = .ok (.iconst 4, 1) := by decide +kernel
theorem d_La_law_450 : decode (am_c m_La_law) 450 = .ok (.iadd, 1) := by decide +kernel
theorem d_La_law_451 : decode (am_c m_La_law) 451 = .ok (.iaload, 1) := by decide +kernel
theorem d_La_law_452 : decode (am_c m_La_law) 452 = .ok (.invokevirtual 48, 3) := by decide +kernel
theorem d_La_law_455 : decode (am_c m_La_law) 455 = .ok (.if_icmp .eq 717, 3) := by decide +kernel
theorem d_La_law_458 : decode (am_c m_La_law) 458 = .ok (.iconst 0, 1) := by decide +kernel
theorem d_La_law_459 : decode (am_c m_La_law) 459 = .ok (.ireturn, 1) := by decide +kernel
theorem d_La_law_460 : decode (am_c m_La_law) 460 = .ok (.aload_n 1, 1) := by decide +kernel
theorem d_La_law_461 : decode (am_c m_La_law) 461 = .ok (.aload_n 0, 1) := by decide +kernel
theorem d_La_law_462 : decode (am_c m_La_law) 462 = .ok (.iload_n 3, 1) := by decide +kernel
theorem d_La_law_463 : decode (am_c m_La_law) 463 = .ok (.iconst 1, 1) := by decide +kernel
theorem d_La_law_464 : decode (am_c m_La_law) 464 = .ok (.iadd, 1) := by decide +kernel
theorem d_La_law_465 : decode (am_c m_La_law) 465 = .ok (.iaload, 1) := by decide +kernel
theorem d_La_law_466 : decode (am_c m_La_law) 466 = .ok (.invokevirtual 49, 3) := by decide +kernel
theorem d_La_law_469 : decode (am_c m_La_law) 469 = .ok (.aload_n 2, 1) := by decide +kernel
theorem d_La_law_470 : decode (am_c m_La_law) 470 = .ok (.aload_n 0, 1) := by decide +kernel
theorem d_La_law_471 : decode (am_c m_La_law) 471 = .ok (.iload_n 3, 1) := by decide +kernel
theorem d_La_law_472 : decode (am_c m_La_law) 472 = .ok (.iconst 1, 1) := by decide +kernel
theorem d_La_law_473 : decode (am_c m_La_law) 473 = .ok (.iadd, 1) := by decide +kernel
theorem d_La_law_474 : decode (am_c m_La_law) 474 = .ok (.iaload, 1) := by decide +kernel
theorem d_La_law_475 : decode (am_c m_La_law) 475 = .ok (.invokevirtual 52, 3) := by decide +kernel
theorem d_La_law_478 : decode (am_c m_La_law) 478 = .ok (.if_icmp .eq 694, 3) := by decide +kernel
theorem d_La_law_481 : decode (am_c m_La_law) 481 = .ok (.iconst 0, 1) := by decide +kernel
theorem d_La_law_482 : decode (am_c m_La_law) 482 = .ok (.ireturn, 1) := by decide +kernel
theorem d_La_law_483 : decode (am_c m_La_law) 483 = .ok (.aload_n 1, 1) := by decide +kernel
theorem d_La_law_484 : decode (am_c m_La_law) 484 = .ok (.aload_n 0, 1) := by decide +kernel
theorem d_La_law_485 : decode (am_c m_La_law) 485 = .ok (.iload_n 3, 1) := by decide +kernel
theorem d_La_law_486 : decode (am_c m_La_law) 486 = .ok (.iconst 1, 1) := by decide +kernel
theorem d_La_law_487 : decode (am_c m_La_law) 487 = .ok (.iadd, 1) := by decide +kernel
theorem d_La_law_488 : decode (am_c m_La_law) 488 = .ok (.iaload, 1) := by decide +kernel
theorem d_La_law_489 : decode (am_c m_La_law) 489 = .ok (.aload_n 0, 1) := by decide +kernel
theorem d_La_law_490 : decode (am_c m_La_law) 490 = .ok (.iload_n 3, 1) := by decide +kernel
theorem d_La_law_491 : decode (am_c m_La_law) 491 = .ok (.iconst 2, 1) := by decide +kernel
theorem d_La_law_492 : decode (am_c m_La_law) 492 = .ok (.iadd, 1) := by decide +kernel
theorem d_La_law_493 : decode (am_c m_La_law) 493 = .ok (.iaload, 1) := by decide +kernel
theorem d_La_law_494 : decode (am_c m_La_law) 494 = .ok (.invokevirtual 53, 3) := by decide +kernel
theorem d_La_law_497 : decode (am_c m_La_law) 497 = .ok (.aload_n 2, 1) := by decide +kernel
theorem d_La_law_498 : decode (am_c m_La_law) 498 = .ok (.aload_n 0, 1) := by decide +kernel
theorem d_La_law_499 : decode (am_c m_La_law) 499 = .ok (.iload_n 3, 1) := by decide +kernel
theorem d_La_law_500 : decode (am_c m_La_law) 500 = .ok (.iconst 1, 1) := by decide +kernel
theorem d_La_law_501 : decode (am_c m_La_law) 501 = .ok (.iadd, 1) := by decide +kernel
theorem d_La_law_502 : decode (am_c m_La_law) 502 = .ok (.iaload, 1) := by decide +kernel
theorem d_La_law_503 : decode (am_c m_La_law) 503 = .ok (.aload_n 0, 1) := by decide +kernel
theorem d_La_law_504 : decode (am_c m_La_law) 504 = .ok (.iload_n 3, 1) := by decide +kernel
theorem d_La_law_505 : decode (am_c m_La_law) 505 = .ok (.iconst 2, 1) := by decide +kernel
theorem d_La_law_506 : decode (am_c m_La_law) 506 = .ok (.iadd, 1) := by decide +kernel
theorem d_La_law_507 : decode (am_c m_La_law) 507 = .ok (.iaload, 1) := by decide +kernel
theorem d_La_law_508 : decode (am_c m_La_law) 508 = .ok (.invokevirtual 56, 3) := by decide +kernel
theorem d_La_law_511 : decode (am_c m_La_law) 511 = .ok (.if_icmp .eq 661, 3) := by decide +kernel
theorem d_La_law_514 : decode (am_c m_La_law) 514 = .ok (.iconst 0, 1) := by decide +kernel
theorem d_La_law_515 : decode (am_c m_La_law) 515 = .ok (.ireturn, 1) := by decide +kernel
theorem d_La_law_516 : decode (am_c m_La_law) 516 = .ok (.aload_n 1, 1) := by decide +kernel
theorem d_La_law_517 : decode (am_c m_La_law) 517 = .ok (.aload_n 0, 1) := by decide +kernel
theorem d_La_law_518 : decode (am_c m_La_law) 518 = .ok (.iload_n 3, 1) := by decide +kernel
theorem d_La_law_519 : decode (am_c m_La_law) 519 = .ok (.iconst 1, 1) := by decide +kernel
theorem d_La_law_520 : decode (am_c m_La_law) 520 = .ok (.iadd, 1) := by decide +kernel
theorem d_La_law_521 : decode (am_c m_La_law) 521 = .ok (.iaload, 1) := by decide +kernel
theorem d_La_law_522 : decode (am_c m_La_law) 522 = .ok (.aload_n 0, 1) := by decide +kernel
theorem d_La_law_523 : decode (am_c m_La_law) 523 = .ok (.iload_n 3, 1) := by decide +kernel
theorem d_La_law_524 : decode (am_c m_La_law) 524 = .ok (.iconst 2, 1) := by decide +kernel
theorem d_La_law_525 : decode (am_c m_La_law) 525 = .ok (.iadd, 1) := by decide +kernel
theorem d_La_law_526 : decode (am_c m_La_law) 526 = .ok (.iaload, 1) := by decide +kernel
theorem d_La_law_527 : decode (am_c m_La_law) 527 = .ok (.invokevirtual 57, 3) := by decide +kernel
theorem d_La_law_530 : decode (am_c m_La_law) 530 = .ok (.aload_n 2, 1) := by decide +kernel
theorem d_La_law_531 : decode (am_c m_La_law) 531 = .ok (.aload_n 0, 1) := by decide +kernel
theorem d_La_law_532 : decode (am_c m_La_law) 532 = .ok (.iload_n 3, 1) := by decide +kernel
theorem d_La_law_533 : decode (am_c m_La_law) 533 = .ok (.iconst 1, 1) := by decide +kernel
theorem d_La_law_534 : decode (am_c m_La_law) 534 = .ok (.iadd, 1) := by decide +kernel
theorem d_La_law_535 : decode (am_c m_La_law) 535 = .ok (.iaload, 1) := by decide +kernel
theorem d_La_law_536 : decode (am_c m_La_law) 536 = .ok (.aload_n 0, 1) := by decide +kernel
theorem d_La_law_537 : decode (am_c m_La_law) 537 = .ok (.iload_n 3, 1) := by decide +kernel
theorem d_La_law_538 : decode (am_c m_La_law) 538 = .ok (.iconst 2, 1) := by decide +kernel
theorem d_La_law_539 : decode (am_c m_La_law) 539 = .ok (.iadd, 1) := by decide +kernel
theorem d_La_law_540 : decode (am_c m_La_law) 540 = .ok (.iaload, 1) := by decide +kernel
theorem d_La_law_541 : decode (am_c m_La_law) 541 = .ok (.invokevirtual 60, 3) := by decide +kernel
theorem d_La_law_544 : decode (am_c m_La_law) 544 = .ok (.if_icmp .eq 628, 3) := by decide +kernel
theorem d_La_law_547 : decode (am_c m_La_law) 547 = .ok (.iconst 0, 1) := by decide +kernel
theorem d_La_law_548 : decode (am_c m_La_law) 548 = .ok (.ireturn, 1) := by decide +kernel
theorem d_La_law_549 : decode (am_c m_La_law) 549 = .ok (.aload_n 1, 1) := by decide +kernel
theorem d_La_law_550 : decode (am_c m_La_law) 550 = .ok (.aload_n 0, 1) := by decide +kernel
theorem d_La_law_551 : decode (am_c m_La_law) 551 = .ok (.iload_n 3, 1) := by decide +kernel
theorem d_La_law_552 : decode (am_c m_La_law) 552 = .ok (.iconst 1, 1) := by decide +kernel
theorem d_La_law_553 : decode (am_c m_La_law) 553 = .ok (.iadd, 1) := by decide +kernel
theorem d_La_law_554 : decode (am_c m_La_law) 554 = .ok (.iaload, 1) := by decide +kernel
theorem d_La_law_555 : decode (am_c m_La_law) 555 = .ok (.aload_n 0, 1) := by decide +kernel
theorem d_La_law_556 : decode (am_c m_La_law) 556 = .ok (.iload_n 3, 1) := by decide +kernel
theorem d_La_law_557 : decode (am_c m_La_law) 557 = .ok (.iconst 2, 1) := by decide +kernel
theorem d_La_law_558 : decode (am_c m_La_law) 558 = .ok (.iadd, 1) := by decide +kernel
theorem d_La_law_559 : decode (am_c m_La_law) 559 = .ok (.iaload, 1) := by decide +kernel
theorem d_La_law_560 : decode (am_c m_La_law) 560 = .ok (.aload_n 0, 1) := by decide +kernel
theorem d_La_law_561 : decode (am_c m_La_law) 561 = .ok (.iload_n 3, 1) := by decide +kernel
theorem d_La_law_562 : decode (am_c m_La_law) 562 = .ok (.iconst 3, 1) := by decide +kernel
theorem d_La_law_563 : decode (am_c m_La_law) 563 = .ok (.iadd, 1) := by decide +kernel
theorem d_La_law_564 : decode (am_c m_La_law) 564 = .ok (.iaload, 1) := by decide +kernel
theorem d_La_law_565 : decode (am_c m_La_law) 565 = .ok (.invokevirtual 61, 3) := by decide +kernel
theorem d_La_law_568 : decode (am_c m_La_law) 568 = .ok (.aload_n 2, 1) := by decide +kernel
theorem d_La_law_569 : decode (am_c m_La_law) 569 = .ok (.aload_n 0, 1) := by decide +kernel
theorem d_La_law_570 : decode (am_c m_La_law) 570 = .ok (.iload_n 3, 1) := by decide +kernel
theorem d_La_law_571 : decode (am_c m_La_law) 571 = .ok (.iconst 1, 1) := by decide +kernel
theorem d_La_law_572 : decode (am_c m_La_law) 572 = .ok (.iadd, 1) := by decide +kernel
theorem d_La_law_573 : decode (am_c m_La_law) 573 = .ok (.iaload, 1) := by decide +kernel
theorem d_La_law_574 : decode (am_c m_La_law) 574 = .ok (.aload_n 0, 1) := by decide +kernel
theorem d_La_law_575 : decode (am_c m_La_law) 575 = .ok (.iload_n 3, 1) := by decide +kernel
theorem d_La_law_576 : decode (am_c m_La_law) 576 = .ok (.iconst 2, 1) := by decide +kernel
theorem d_La_law_577 : decode (am_c m_La_law) 577 = .ok (.iadd, 1) := by decide +kernel
theorem d_La_law_578 : decode (am_c m_La_law) 578 = .ok (.iaload, 1) := by decide +kernel
theorem d_La_law_579 : decode (am_c m_La_law) 579 = .ok (.aload_n 0, 1) := by decide +kernel
theorem d_La_law_580 : decode (am_c m_La_law) 580 = .ok (.iload_n 3, 1) := by decide +kernel
theorem d_La_law_581 : decode (am_c m_La_law) 581 = .ok (.iconst 3, 1) := by decide +kernel
theorem d_La_law_582 : decode (am_c m_La_law) 582 = .ok (.iadd, 1) := by decide +kernel
theorem d_La_law_583 : decode (am_c m_La_law) 583 = .ok (.iaload, 1) := by decide +kernel
theorem d_La_law_584 : decode (am_c m_La_law) 584 = .ok (.invokevirtual 64, 3) := by decide +kernel
theorem d_La_law_587 : decode (am_c m_La_law) 587 = .ok (.if_icmp .eq 585, 3) := by decide +kernel
theorem d_La_law_590 : decode (am_c m_La_law) 590 = .ok (.iconst 0, 1) := by decide +kernel
theorem d_La_law_591 : decode (am_c m_La_law) 591 = .ok (.ireturn, 1) := by decide +kernel
theorem d_La_law_592 : decode (am_c m_La_law) 592 = .ok (.aload_n 1, 1) := by decide +kernel
theorem d_La_law_593 : decode (am_c m_La_law) 593 = .ok (.aload_n 0, 1) := by decide +kernel
theorem d_La_law_594 : decode (am_c m_La_law) 594 = .ok (.iload_n 3, 1) := by decide +kernel
theorem d_La_law_595 : decode (am_c m_La_law) 595 = .ok (.iconst 1, 1) := by decide +kernel
theorem d_La_law_596 : decode (am_c m_La_law) 596 = .ok (.iadd, 1) := by decide +kernel
theorem d_La_law_597 : decode (am_c m_La_law) 597 = .ok (.iaload, 1) := by decide +kernel
theorem d_La_law_598 : decode (am_c m_La_law) 598 = .ok (.aload_n 0, 1) := by decide +kernel
theorem d_La_law_599 : decode (am_c m_La_law) 599 = .ok (.iload_n 3, 1) := by decide +kernel
theorem d_La_law_600 : decode (am_c m_La_law) 600 = .ok (.iconst 2, 1) := by decide +kernel
theorem d_La_law_601 : decode (am_c m_La_law) 601 = .ok (.iadd, 1) := by decide +kernel
theorem d_La_law_602 : decode (am_c m_La_law) 602 = .ok (.iaload, 1) := by decide +kernel
theorem d_La_law_603 : decode (am_c m_La_law) 603 = .ok (.aload_n 0, 1) := by decide +kernel
theorem d_La_law_604 : decode (am_c m_La_law) 604 = .ok (.iload_n 3, 1) := by decide +kernel
theorem d_La_law_605 : decode (am_c m_La_law) 605 = .ok (.iconst 3, 1) := by decide +kernel
theorem d_La_law_606 : decode (am_c m_La_law) 606 = .ok (.iadd, 1) := by decide +kernel
theorem d_La_law_607 : decode (am_c m_La_law) 607 = .ok (.iaload, 1) := by decide +kernel
theorem d_La_law_608 : decode (am_c m_La_law) 608 = .ok (.aload_n 0, 1) := by decide +kernel
theorem d_La_law_609 : decode (am_c m_La_law) 609 = .ok (.iload_n 3, 1) := by decide +kernel
theorem d_La_law_610 : decode (am_c m_La_law) 610 = .ok (.iconst 4, 1) := by decide +kernel
theorem d_La_law_611 : decode (am_c m_La_law) 611 = .ok (.iadd, 1) := by decide +kernel
theorem d_La_law_612 : decode (am_c m_La_law) 612 = .ok (.iaload, 1) := by decide +kernel
theorem d_La_law_613 : decode (am_c m_La_law) 613 = .ok (.aload_n 0, 1) := by decide +kernel
theorem d_La_law_614 : decode (am_c m_La_law) 614 = .ok (.iload_n 3, 1) := by decide +kernel
theorem d_La_law_615 : decode (am_c m_La_law) 615 = .ok (.iconst 5, 1) := by decide +kernel
theorem d_La_law_616 : decode (am_c m_La_law) 616 = .ok (.iadd, 1) := by decide +kernel
theorem d_La_law_617 : decode (am_c m_La_law) 617 = .ok (.iaload, 1) := by decide +kernel
theorem d_La_law_618 : decode (am_c m_La_law) 618 = .ok (.invokevirtual 65, 3) := by decide +kernel
theorem d_La_law_621 : decode (am_c m_La_law) 621 = .ok (.aload_n 2, 1) := by decide +kernel
theorem d_La_law_622 : decode (am_c m_La_law) 622 = .ok (.aload_n 0, 1) := by decide +kernel
theorem d_La_law_623 : decode (am_c m_La_law) 623 = .ok (.iload_n 3, 1) := by decide +kernel
theorem d_La_law_624 : decode (am_c m_La_law) 624 = .ok (.iconst 1, 1) := by decide +kernel
theorem d_La_law_625 : decode (am_c m_La_law) 625 = .ok (.iadd, 1) := by decide +kernel
theorem d_La_law_626 : decode (am_c m_La_law) 626 = .ok (.iaload, 1) := by decide +kernel
theorem d_La_law_627 : decode (am_c m_La_law) 627 = .ok (.aload_n 0, 1) := by decide +kernel
theorem d_La_law_628 : decode (am_c m_La_law) 628 = .ok (.iload_n 3, 1) := by decide +kernel
theorem d_La_law_629 : decode (am_c m_La_law) 629 = .ok (.iconst 2, 1) := by decide +kernel
theorem d_La_law_630 : decode (am_c m_La_law) 630 = .ok (.iadd, 1) := by decide +kernel
theorem d_La_law_631 : decode (am_c m_La_law) 631 = .ok (.iaload, 1) := by decide +kernel
theorem d_La_law_632 : decode (am_c m_La_law) 632 = .ok (.aload_n 0, 1) := by decide +kernel
theorem d_La_law_633 : decode (am_c m_La_law) 633 = .ok (.iload_n 3, 1) := by decide +kernel
theorem d_La_law_634 : decode (am_c m_La_law) 634 = .ok (.iconst 3, 1) := by decide +kernel
theorem d_La_law_635 : decode (am_c m_La_law) 635 = .ok (.iadd, 1) := by decide +kernel
theorem d_La_law_636 : decode (am_c m_La_law) 636 = .ok (.iaload, 1) := by decide +kernel
theorem d_La_law_637 : decode (am_c m_La_law) 637 = .ok (.aload_n 0, 1) := by decide +kernel
theorem d_La_law_638 : decode (am_c m_La_law) 638 = .ok (.iload_n 3, 1) := by decide +kernel
theorem d_La_law_639 : decode (am_c m_La_law) 639 = .ok (.iconst 4, 1) := by decide +kernel
theorem d_La_law_640 : decode (am_c m_La_law) 640 = .ok (.iadd, 1) := by decide +kernel
theorem d_La_law_641 : decode (am_c m_La_law) 641 = .ok (.iaload, 1) := by decide +kernel
theorem d_La_law_642 : decode (am_c m_La_law) 642 = .ok (.aload_n 0, 1) := by decide +kernel
theorem d_La_law_643 : decode (am_c m_La_law) 643 = .ok (.iload_n 3, 1) := by decide +kernel
theorem d_La_law_644 : decode (am_c m_La_law) 644 = .ok (.iconst 5, 1) := by decide +kernel
theorem d_La_law_645 : decode (am_c m_La_law) 645 = .ok (.iadd, 1) := by decide +kernel
theorem d_La_law_646 : decode (am_c m_La_law) 646 = .ok (.iaload, 1) := by decide +kernel
theorem d_La_law_647 : decode (am_c m_La_law) 647 = .ok (.invokevirtual 69, 3) := by decide +kernel
theorem d_La_law_650 : decode (am_c m_La_law) 650 = .ok (.if_icmp .eq 522, 3) := by decide +kernel
theorem d_La_law_653 : decode (am_c m_La_law) 653 = .ok (.iconst 0, 1) := by decide +kernel
theorem d_La_law_654 : decode (am_c m_La_law) 654 = .ok (.ireturn, 1) := by decide +kernel
theorem d_La_law_655 : decode (am_c m_La_law) 655 = .ok (.aload_n 1, 1) := by decide +kernel
theorem d_La_law_656 : decode (am_c m_La_law) 656 = .ok (.aload_n 0, 1) := by decide +kernel
theorem d_La_law_657 : decode (am_c m_La_law) 657 = .ok (.iload_n 3, 1) := by decide +kernel
theorem d_La_law_658 : decode (am_c m_La_law) 658 = .ok (.iconst 1, 1) := by decide +kernel
theorem d_La_law_659 : decode (am_c m_La_law) 659 = .ok (.iadd, 1) := by decide +kernel
theorem d_La_law_660 : decode (am_c m_La_law) 660 = .ok (.iaload, 1) := by decide +kernel
theorem d_La_law_661 : decode (am_c m_La_law) 661 = .ok (.aload_n 0, 1) := by decide +kernel
theorem d_La_law_662 : decode (am_c m_La_law) 662 = .ok (.iload_n 3, 1) := by decide +kernel
theorem d_La_law_663 : decode (am_c m_La_law) 663 = .ok (.iconst 2, 1) := by decide +kernel
theorem d_La_law_664 : decode (am_c m_La_law) 664 = .ok (.iadd, 1) := by decide +kernel
theorem d_La_law_665 : decode (am_c m_La_law) 665 = .ok (.iaload, 1) := by decide +kernel
theorem d_La_law_666 : decode (am_c m_La_law) 666 = .ok (.aload_n 0, 1) := by decide +kernel
theorem d_La_law_667 : decode (am_c m_La_law) 667 = .ok (.iload_n 3, 1) := by decide +kernel
theorem d_La_law_668 : decode (am_c m_La_law) 668 = .ok (.iconst 3, 1) := by decide +kernel
theorem d_La_law_669 : decode (am_c m_La_law) 669 = .ok (.iadd, 1) := by decide +kernel
theorem d_La_law_670 : decode (am_c m_La_law) 670 = .ok (.iaload, 1) := by decide +kernel
theorem d_La_law_671 : decode (am_c m_La_law) 671 = .ok (.invokevirtual 70, 3) := by decide +kernel
theorem d_La_law_674 : decode (am_c m_La_law) 674 = .ok (.aload_n 2, 1) := by decide +kernel
theorem d_La_law_675 : decode (am_c m_La_law) 675 = .ok (.aload_n 0, 1) := by decide +kernel
theorem d_La_law_676 : decode (am_c m_La_law) 676 = .ok (.iload_n 3, 1) := by decide +kernel
theorem d_La_law_677 : decode (am_c m_La_law) 677 = .ok (.iconst 1, 1) := by decide +kernel
theorem d_La_law_678 : decode (am_c m_La_law) 678 = .ok (.iadd, 1) := by decide +kernel
theorem d_La_law_679 : decode (am_c m_La_law) 679 = .ok (.iaload, 1) := by decide +kernel
theorem d_La_law_680 : decode (am_c m_La_law) 680 = .ok (.aload_n 0, 1) := by decide +kernel
theorem d_La_law_681 : decode (am_c m_La_law) 681 = .ok (.iload_n 3, 1) := by decide +kernel
theorem d_La_law_682 : decode (am_c m_La_law) 682 = .ok (.iconst 2, 1) := by decide +kernel
theorem d_La_law_683 : decode (am_c m_La_law) 683 = .ok (.iadd, 1) := by decide +kernel
theorem d_La_law_684 : decode (am_c m_La_law) 684 = .ok (.iaload, 1) := by decide +kernel
theorem d_La_law_685 : decode (am_c m_La_law) 685 = .ok (.aload_n 0, 1) := by decide +kernel
theorem d_La_law_686 : decode (am_c m_La_law) 686 = .ok (.iload_n 3, 1) := by decide +kernel
theorem d_La_law_687 : decode (am_c m_La_law) 687 = .ok (.iconst 3, 1) := by decide +kernel
theorem d_La_law_688 : decode (am_c m_La_law) 688 = .ok (.iadd, 1) := by decide +kernel
theorem d_La_law_689 : decode (am_c m_La_law) 689 = .ok (.iaload, 1) := by decide +kernel
theorem d_La_law_690 : decode (am_c m_La_law) 690 = .ok (.invokevirtual 73, 3) := by decide +kernel
theorem d_La_law_693 : decode (am_c m_La_law) 693 = .ok (.if_icmp .eq 479, 3) := by decide +kernel
theorem d_La_law_696 : decode (am_c m_La_law) 696 = .ok (.iconst 0, 1) := by decide +kernel
theorem d_La_law_697 : decode (am_c m_La_law) 697 = .ok (.ireturn, 1) := by decide +kernel
theorem d_La_law_698 : decode (am_c m_La_law) 698 = .ok (.aload_n 1, 1) := by decide +kernel
theorem d_La_law_699 : decode (am_c m_La_law) 699 = .ok (.aload_n 0, 1) := by decide +kernel
theorem d_La_law_700 : decode (am_c m_La_law) 700 = .ok (.iload_n 3, 1) := by decide +kernel
theorem d_La_law_701 : decode (am_c m_La_law) 701 = .ok (.iconst 1, 1) := by decide +kernel
theorem d_La_law_702 : decode (am_c m_La_law) 702 = .ok (.iadd, 1) := by decide +kernel
theorem d_La_law_703 : decode (am_c m_La_law) 703 = .ok (.iaload, 1) := by decide +kernel
theorem d_La_law_704 : decode (am_c m_La_law) 704 = .ok (.invokevirtual 74, 3) := by decide +kernel
theorem d_La_law_707 : decode (am_c m_La_law) 707 = .ok (.aload_n 2, 1) := by decide +kernel
theorem d_La_law_708 : decode (am_c m_La_law) 708 = .ok (.aload_n 0, 1) := by decide +kernel
theorem d_La_law_709 : decode (am_c m_La_law) 709 = .ok (.iload_n 3, 1) := by decide +kernel
theorem d_La_law_710 : decode (am_c m_La_law) 710 = .ok (.iconst 1, 1) := by decide +kernel
theorem d_La_law_711 : decode (am_c m_La_law) 711 = .ok (.iadd, 1) := by decide +kernel
theorem d_La_law_712 : decode (am_c m_La_law) 712 = .ok (.iaload, 1) := by decide +kernel
theorem d_La_law_713 : decode (am_c m_La_law) 713 = .ok (.invokevirtual 77, 3) := by decide +kernel
theorem d_La_law_716 : decode (am_c m_La_law) 716 = .ok (.if_icmp .eq 456, 3) := by decide +kernel
theorem d_La_law_719 : decode (am_c m_La_law) 719 = .ok (.iconst 0, 1) := by decide +kernel
theorem d_La_law_720 : decode (am_c m_La_law) 720 = .ok (.ireturn, 1) := by decide +kernel
theorem d_La_law_721 : decode (am_c m_La_law) 721 = .ok (.aload_n 1, 1) := by decide +kernel
theorem d_La_law_722 : decode (am_c m_La_law) 722 = .ok (.aload_n 0, 1) := by decide +kernel
theorem d_La_law_723 : decode (am_c m_La_law) 723 = .ok (.iload_n 3, 1) := by decide +kernel
theorem d_La_law_724 : decode (am_c m_La_law) 724 = .ok (.iconst 1, 1) := by decide +kernel
theorem d_La_law_725 : decode (am_c m_La_law) 725 = .ok (.iadd, 1) := by decide +kernel
theorem d_La_law_726 : decode (am_c m_La_law) 726 = .ok (.iaload, 1) := by decide +kernel
theorem d_La_law_727 : decode (am_c m_La_law) 727 = .ok (.aload_n 0, 1) := by decide +kernel
theorem d_La_law_728 : decode (am_c m_La_law) 728 = .ok (.iload_n 3, 1) := by decide +kernel
theorem d_La_law_729 : decode (am_c m_La_law) 729 = .ok (.iconst 2, 1) := by decide +kernel
theorem d_La_law_730 : decode (am_c m_La_law) 730 = .ok (.iadd, 1) := by decide +kernel
theorem d_La_law_731 : decode (am_c m_La_law) 731 = .ok (.iaload, 1) := by decide +kernel
theorem d_La_law_732 : decode (am_c m_La_law) 732 = .ok (.invokevirtual 78, 3) := by decide +kernel
theorem d_La_law_735 : decode (am_c m_La_law) 735 = .ok (.aload_n 2, 1) := by decide +kernel
theorem d_La_law_736 : decode (am_c m_La_law) 736 = .ok (.aload_n 0, 1) := by decide +kernel
theorem d_La_law_737 : decode (am_c m_La_law) 737 = .ok (.iload_n 3, 1) := by decide +kernel
theorem d_La_law_738 : decode (am_c m_La_law) 738 = .ok (.iconst 1, 1) := by decide +kernel
theorem d_La_law_739 : decode (am_c m_La_law) 739 = .ok (.iadd, 1) := by decide +kernel
theorem d_La_law_740 : decode (am_c m_La_law) 740 = .ok (.iaload, 1) := by decide +kernel
theorem d_La_law_741 : decode (am_c m_La_law) 741 = .ok (.aload_n 0, 1) := by decide +kernel
theorem d_La_law_742 : decode (am_c m_La_law) 742 = .ok (.iload_n 3, 1) := by decide +kernel
theorem d_La_law_743 : decode (am_c m_La_law) 743 = .ok (.iconst 2, 1) := by decide +kernel
theorem d_La_law_744 : decode (am_c m_La_law) 744 = .ok (.iadd, 1) := by decide +kernel
theorem d_La_law_745 : decode (am_c m_La_law) 745 = .ok (.iaload, 1) := by decide +kernel
theorem d_La_law_746 : decode (am_c m_La_law) 746 = .ok (.invokevirtual 81, 3) := by decide +kernel
theorem d_La_law_749 : decode (am_c m_La_law) 749 = .ok (.if_icmp .eq 423, 3) := by decide +kernel
theorem d_La_law_752 : decode (am_c m_La_law) 752 = .ok (.iconst 0, 1) := by decide +kernel
theorem d_La_law_753 : decode (am_c m_La_law) 753 = .ok (.ireturn, 1) := by decide +kernel
theorem d_La_law_754 : decode (am_c m_La_law) 754 = .ok (.aload_n 1, 1) := by decide +kernel
theorem d_La_law_755 : decode (am_c m_La_law) 755 = .ok (.aload_n 0, 1) := by decide +kernel
theorem d_La_law_756 : decode (am_c m_La_law) 756 = .ok (.iload_n 3, 1) := by decide +kernel
theorem d_La_law_757 : decode (am_c m_La_law) 757 = .ok (.iconst 1, 1) := by decide +kernel
theorem d_La_law_758 : decode (am_c m_La_law) 758 = .ok (.iadd, 1) := by decide +kernel
theorem d_La_law_759 : decode (am_c m_La_law) 759 = .ok (.iaload, 1) := by decide +kernel
theorem d_La_law_760 : decode (am_c m_La_law) 760 = .ok (.aload_n 0, 1) := by decide +kernel
theorem d_La_law_761 : decode (am_c m_La_law) 761 = .ok (.iload_n 3, 1) := by decide +kernel
theorem d_La_law_762 : decode (am_c m_La_law) 762 = .ok (.iconst 2, 1) := by decide +kernel
theorem d_La_law_763 : decode (am_c m_La_law) 763 = .ok (.iadd, 1) := by decide +kernel
theorem d_La_law_764 : decode (am_c m_La_law) 764 = .ok (.iaload, 1) := by decide +kernel
theorem d_La_law_765 : decode (am_c m_La_law) 765 = .ok (.invokevirtual 82, 3) := by decide +kernel
theorem d_La_law_768 : decode (am_c m_La_law) 768 = .ok (.aload_n 2, 1) := by decide +kernel
theorem d_La_law_769 : decode (am_c m_La_law) 769 = .ok (.aload_n 0, 1) := by decide +kernel
theorem d_La_law_770 : decode (am_c m_La_law) 770 = .ok (.iload_n 3, 1) := by decide +kernel
theorem d_La_law_771 : decode (am_c m_La_law) 771 = .ok (.iconst 1, 1) := by decide +kernel
theorem d_La_law_772 : decode (am_c m_La_law) 772 = .ok (.iadd, 1) := by decide +kernel
theorem d_La_law_773 : decode (am_c m_La_law) 773 = .ok (.iaload, 1) := by decide +kernel
theorem d_La_law_774 : decode (am_c m_La_law) 774 = .ok (.aload_n 0, 1) := by decide +kernel
theorem d_La_law_775 : decode (am_c m_La_law) 775 = .ok (.iload_n 3, 1) := by decide +kernel
theorem d_La_law_776 : decode (am_c m_La_law) 776 = .ok (.iconst 2, 1) := by decide +kernel
theorem d_La_law_777 : decode (am_c m_La_law) 777 = .ok (.iadd, 1) := by decide +kernel
theorem d_La_law_778 : decode (am_c m_La_law) 778 = .ok (.iaload, 1) := by decide +kernel
theorem d_La_law_779 : decode (am_c m_La_law) 779 = .ok (.invokevirtual 85, 3) := by decide +kernel
theorem d_La_law_782 : decode (am_c m_La_law) 782 = .ok (.if_icmp .eq 390, 3) := by decide +kernel
theorem d_La_law_785 : decode (am_c m_La_law) 785 = .ok (.iconst 0, 1) := by decide +kernel
theorem d_La_law_786 : decode (am_c m_La_law) 786 = .ok (.ireturn, 1) := by decide +kernel
theorem d_La_law_787 : decode (am_c m_La_law) 787 = .ok (.aload_n 1, 1) := by decide +kernel
theorem d_La_law_788 : decode (am_c m_La_law) 788 = .ok (.aload_n 0, 1) := by decide +kernel
theorem d_La_law_789 : decode (am_c m_La_law) 789 = .ok (.iload_n 3, 1) := by decide +kernel
theorem d_La_law_790 : decode (am_c m_La_law) 790 = .ok (.iconst 1, 1) := by decide +kernel
theorem d_La_law_791 : decode (am_c m_La_law) 791 = .ok (.iadd, 1) := by decide +kernel
theorem d_La_law_792 : decode (am_c m_La_law) 792 = .ok (.iaload, 1) := by decide +kernel
theorem d_La_law_793 : decode (am_c m_La_law) 793 = .ok (.invokevirtual 86, 3) := by decide +kernel
theorem d_La_law_796 : decode (am_c m_La_law) 796 = .ok (.aload_n 2, 1) := by decide +kernel
theorem d_La_law_797 : decode (am_c m_La_law) 797 = .ok (.aload_n 0, 1) := by decide +kernel
theorem d_La_law_798 : decode (am_c m_La_law) 798 = .ok (.iload_n 3, 1) := by decide +kernel
theorem d_La_law_799 : decode (am_c m_La_law) 799 = .ok (.iconst 1, 1) := by decide +kernel
theorem d_La_law_800 : decode (am_c m_La_law) 800 = .ok (.iadd, 1) := by decide +kernel
theorem d_La_law_801 : decode (am_c m_La_law) 801 = .ok (.iaload, 1) := by decide +kernel
theorem d_La_law_802 : decode (am_c m_La_law) 802 = .ok (.invokevirtual 89, 3) := by decide +kernel
theorem d_La_law_805 : decode (am_c m_La_law) 805 = .ok (.if_icmp .eq 367, 3) := by decide +kernel
theorem d_La_law_808 : decode (am_c m_La_law) 808 = .ok (.iconst 0, 1) := by decide +kernel
theorem d_La_law_809 : decode (am_c m_La_law) 809 = .ok (.ireturn, 1) := by decide +kernel
theorem d_La_law_810 : decode (am_c m_La_law) 810 = .ok (.aload_n 1, 1) := by decide +kernel
theorem d_La_law_811 : decode (am_c m_La_law) 811 = .ok (.aload_n 0, 1) := by decide +kernel
theorem d_La_law_812 : decode (am_c m_La_law) 812 = .ok (.iload_n 3, 1) := by decide +kernel
theorem d_La_law_813 : decode (am_c m_La_law) 813 = .ok (.iconst 1, 1) := by decide +kernel
theorem d_La_law_814 : decode (am_c m_La_law) 814 = .ok (.iadd, 1) := by decide +kernel
theorem d_La_law_815 : decode (am_c m_La_law) 815 = .ok (.iaload, 1) := by decide +kernel
theorem d_La_law_816 : decode (am_c m_La_law) 816 = .ok (.aload_n 0, 1) := by decide +kernel
theorem d_La_law_817 : decode (am_c m_La_law) 817 = .ok (.iload_n 3, 1) := by decide +kernel
theorem d_La_law_818 : decode (am_c m_La_law) 818 = .ok (.iconst 2, 1) := by decide +kernel
theorem d_La_law_819 : decode (am_c m_La_law) 819 = .ok (.iadd, 1) := by decide +kernel
theorem d_La_law_820 : decode (am_c m_La_law) 820 = .ok (.iaload, 1) := by decide +kernel
theorem d_La_law_821 : decode (am_c m_La_law) 821 = .ok (.invokevirtual 90, 3) := by decide +kernel
theorem d_La_law_824 : decode (am_c m_La_law) 824 = .ok (.aload_n 2, 1) := by decide +kernel
theorem d_La_law_825 : decode (am_c m_La_law) 825 = .ok (.aload_n 0, 1) := by decide +kernel
theorem d_La_law_826 : decode (am_c m_La_law) 826 = .ok (.iload_n 3, 1) := by decide +kernel
theorem d_La_law_827 : decode (am_c m_La_law) 827 = .ok (.iconst 1, 1) := by decide +kernel
theorem d_La_law_828 : decode (am_c m_La_law) 828 = .ok (.iadd, 1) := by decide +kernel
theorem d_La_law_829 : decode (am_c m_La_law) 829 = .ok (.iaload, 1) := by decide +kernel
theorem d_La_law_830 : decode (am_c m_La_law) 830 = .ok (.aload_n 0, 1) := by decide +kernel
theorem d_La_law_831 : decode (am_c m_La_law) 831 = .ok (.iload_n 3, 1) := by decide +kernel
theorem d_La_law_832 : decode (am_c m_La_law) 832 = .ok (.iconst 2, 1) := by decide +kernel
theorem d_La_law_833 : decode (am_c m_La_law) 833 = .ok (.iadd, 1) := by decide +kernel
theorem d_La_law_834 : decode (am_c m_La_law) 834 = .ok (.iaload, 1) := by decide +kernel
theorem d_La_law_835 : decode (am_c m_La_law) 835 = .ok (.invokevirtual 93, 3) := by decide +kernel
theorem d_La_law_838 : decode (am_c m_La_law) 838 = .ok (.if_icmp .eq 334, 3) := by decide +kernel
theorem d_La_law_841 : decode (am_c m_La_law) 841 = .ok (.iconst 0, 1) := by decide +kernel
theorem d_La_law_842 : decode (am_c m_La_law) 842 = .ok (.ireturn, 1) := by decide +kernel
theorem d_La_law_843 : decode (am_c m_La_law) 843 = .ok (.aload_n 1, 1) := by decide +kernel
theorem d_La_law_844 : decode (am_c m_La_law) 844 = .ok (.invokevirtual 94, 3) := by decide +kernel
theorem d_La_law_847 : decode (am_c m_La_law) 847 = .ok (.aload_n 2, 1) := by decide +kernel
theorem d_La_law_848 : decode (am_c m_La_law) 848 = .ok (.invokevirtual 98, 3) := by decide +kernel
theorem d_La_law_851 : decode (am_c m_La_law) 851 = .ok (.if_icmp .eq 321, 3) := by decide +kernel
theorem d_La_law_854 : decode (am_c m_La_law) 854 = .ok (.iconst 0, 1) := by decide +kernel
theorem d_La_law_855 : decode (am_c m_La_law) 855 = .ok (.ireturn, 1) := by decide +kernel
theorem d_La_law_856 : decode (am_c m_La_law) 856 = .ok (.aload_n 1, 1) := by decide +kernel
theorem d_La_law_857 : decode (am_c m_La_law) 857 = .ok (.invokevirtual 99, 3) := by decide +kernel
theorem d_La_law_860 : decode (am_c m_La_law) 860 = .ok (.aload_n 2, 1) := by decide +kernel
theorem d_La_law_861 : decode (am_c m_La_law) 861 = .ok (.invokevirtual 102, 3) := by decide +kernel
theorem d_La_law_864 : decode (am_c m_La_law) 864 = .ok (.if_icmp .eq 308, 3) := by decide +kernel
theorem d_La_law_867 : decode (am_c m_La_law) 867 = .ok (.iconst 0, 1) := by decide +kernel
theorem d_La_law_868 : decode (am_c m_La_law) 868 = .ok (.ireturn, 1) := by decide +kernel
theorem d_La_law_869 : decode (am_c m_La_law) 869 = .ok (.aload_n 1, 1) := by decide +kernel
theorem d_La_law_870 : decode (am_c m_La_law) 870 = .ok (.aload_n 0, 1) := by decide +kernel
theorem d_La_law_871 : decode (am_c m_La_law) 871 = .ok (.iload_n 3, 1) := by decide +kernel
theorem d_La_law_872 : decode (am_c m_La_law) 872 = .ok (.iconst 1, 1) := by decide +kernel
theorem d_La_law_873 : decode (am_c m_La_law) 873 = .ok (.iadd, 1) := by decide +kernel
theorem d_La_law_874 : decode (am_c m_La_law) 874 = .ok (.iaload, 1) := by decide +kernel
theorem d_La_law_875 : decode (am_c m_La_law) 875 = .ok (.invokevirtual 103, 3) := by decide +kernel
theorem d_La_law_878 : decode (am_c m_La_law) 878 = .ok (.aload_n 2, 1) := by decide +kernel
theorem d_La_law_879 : decode (am_c m_La_law) 879 = .ok (.aload_n 0, 1) := by decide +kernel
theorem d_La_law_880 : decode (am_c m_La_law) 880 = .ok (.iload_n 3, 1) := by decide +kernel
theorem d_La_law_881 : decode (am_c m_La_law) 881 = .ok (.iconst 1, 1) := by decide +kernel
theorem d_La_law_882 : decode (am_c m_La_law) 882 = .ok (.iadd, 1) := by decide +kernel
theorem d_La_law_883 : decode (am_c m_La_law) 883 = .ok (.iaload, 1) := by decide +kernel
theorem d_La_law_884 : decode (am_c m_La_law) 884 = .ok (.invokevirtual 106, 3) := by decide +kernel
theorem d_La_law_887 : decode (am_c m_La_law) 887 = .ok (.if_icmp .eq 285, 3) := by decide +kernel
theorem d_La_law_890 : decode (am_c m_La_law) 890 = .ok (.iconst 0, 1) := by decide +kernel
theorem d_La_law_891 : decode (am_c m_La_law) 891 = .ok (.ireturn, 1) := by decide +kernel
theorem d_La_law_892 : decode (am_c m_La_law) 892 = .ok (.aload_n 1, 1) := by decide +kernel
theorem d_La_law_893 : decode (am_c m_La_law) 893 = .ok (.aload_n 0, 1) := by decide +kernel
theorem d_La_law_894 : decode (am_c m_La_law) 894 = .ok (.iload_n 3, 1) := by decide +kernel
theorem d_La_law_895 : decode (am_c m_La_law) 895 = .ok (.iconst 1, 1) := by decide +kernel
theorem d_La_law_896 : decode (am_c m_La_law) 896 = .ok (.iadd, 1) := by decide +kernel
theorem d_La_law_897 : decode (am_c m_La_law) 897 = .ok (.iaload, 1) := by decide +kernel
theorem d_La_law_898 : decode (am_c m_La_law) 898 = .ok (.invokevirtual 107, 3) := by decide +kernel
theorem d_La_law_901 : decode (am_c m_La_law) 901 = .ok (.aload_n 2, 1) := by decide +kernel
theorem d_La_law_902 : decode (am_c m_La_law) 902 = .ok (.aload_n 0, 1) := by decide +kernel
theorem d_La_law_903 : decode (am_c m_La_law) 903 = .ok (.iload_n 3, 1) := by decide +kernel
theorem d_La_law_904 : decode (am_c m_La_law) 904 = .ok (.iconst 1, 1) := by decide +kernel
theorem d_La_law_905 : decode (am_c m_La_law) 905 = .ok (.iadd, 1) := by decide +kernel
theorem d_La_law_906 : decode (am_c m_La_law) 906 = .ok (.iaload, 1) := by decide +kernel
theorem d_La_law_907 : decode (am_c m_La_law) 907 = .ok (.invokevirtual 110, 3) := by decide +kernel
theorem d_La_law_910 : decode (am_c m_La_law) 910 = .ok (.if_icmp .eq 262, 3) := by decide +kernel
theorem d_La_law_913 : decode (am_c m_La_law) 913 = .ok (.iconst 0, 1) := by decide +kernel
theorem d_La_law_914 : decode (am_c m_La_law) 914 = .ok (.ireturn, 1) := by decide +kernel
theorem d_La_law_915 : decode (am_c m_La_law) 915 = .ok (.aload_n 1, 1) := by decide +kernel
theorem d_La_law_916 : decode (am_c m_La_law) 916 = .ok (.aload_n 0, 1) := by decide +kernel
theorem d_La_law_917 : decode (am_c m_La_law) 917 = .ok (.iload_n 3, 1) := by decide +kernel
theorem d_La_law_918 : decode (am_c m_La_law) 918 = .ok (.iconst 1, 1) := by decide +kernel
theorem d_La_law_919 : decode (am_c m_La_law) 919 = .ok (.iadd, 1) := by decide +kernel
theorem d_La_law_920 : decode (am_c m_La_law) 920 = .ok (.iaload, 1) := by decide +kernel
theorem d_La_law_921 : decode (am_c m_La_law) 921 = .ok (.aload_n 0, 1) := by decide +kernel
theorem d_La_law_922 : decode (am_c m_La_law) 922 = .ok (.iload_n 3, 1) := by decide +kernel
theorem d_La_law_923 : decode (am_c m_La_law) 923 = .ok (.iconst 2, 1) := by decide +kernel
theorem d_La_law_924 : decode (am_c m_La_law) 924 = .ok (.iadd, 1) := by decide +kernel
theorem d_La_law_925 : decode (am_c m_La_law) 925 = .ok (.iaload, 1) := by decide +kernel
theorem d_La_law_926 : decode (am_c m_La_law) 926 = .ok (.aload_n 0, 1) := by decide +kernel
theorem d_La_law_927 : decode (am_c m_La_law) 927 = .ok (.iload_n 3, 1) := by decide +kernel
theorem d_La_law_928 : decode (am_c m_La_law) 928 = .ok (.iconst 3, 1) := by decide +kernel
theorem d_La_law_929 : decode (am_c m_La_law) 929 = .ok (.iadd, 1) := by decide +kernel
theorem d_La_law_930 : decode (am_c m_La_law) 930 = .ok (.iaload, 1) := by decide +kernel
theorem d_La_law_931 : decode (am_c m_La_law) 931 = .ok (.invokevirtual 111, 3) := by decide +kernel
theorem d_La_law_934 : decode (am_c m_La_law) 934 = .ok (.aload_n 2, 1) := by decide +kernel
theorem d_La_law_935 : decode (am_c m_La_law) 935 = .ok (.aload_n 0, 1) := by decide +kernel
theorem d_La_law_936 : decode (am_c m_La_law) 936 = .ok (.iload_n 3, 1) := by decide +kernel
theorem d_La_law_937 : decode (am_c m_La_law) 937 = .ok (.iconst 1, 1) := by decide +kernel
theorem d_La_law_938 : decode (am_c m_La_law) 938 = .ok (.iadd, 1) := by decide +kernel
theorem d_La_law_939 : decode (am_c m_La_law) 939 = .ok (.iaload, 1) := by decide +kernel
theorem d_La_law_940 : decode (am_c m_La_law) 940 = .ok (.aload_n 0, 1) := by decide +kernel
theorem d_La_law_941 : decode (am_c m_La_law) 941 = .ok (.iload_n 3, 1) := by decide +kernel
theorem d_La_law_942 : decode (am_c m_La_law) 942 = .ok (.iconst 2, 1) := by decide +kernel
theorem d_La_law_943 : decode (am_c m_La_law) 943 = .ok (.iadd, 1) := by decide +kernel
theorem d_La_law_944 : decode (am_c m_La_law) 944 = .ok (.iaload, 1) := by decide +kernel
theorem d_La_law_945 : decode (am_c m_La_law) 945 = .ok (.aload_n 0, 1) := by decide +kernel
theorem d_La_law_946 : decode (am_c m_La_law) 946 = .ok (.iload_n 3, 1) := by decide +kernel
theorem d_La_law_947 : decode (am_c m_La_law) 947 = .ok (.iconst 3, 1) := by decide +kernel
theorem d_La_law_948 : decode (am_c m_La_law) 948 = .ok (.iadd, 1) := by decide +kernel
theorem d_La_law_949 : decode (am_c m_La_law) 949 = .ok (.iaload, 1) := by decide +kernel
theorem d_La_law_950 : decode (am_c m_La_law) 950 = .ok (.invokevirtual 114, 3) := by decide +kernel
theorem d_La_law_953 : decode (am_c m_La_law) 953 = .ok (.if_icmp .eq 219, 3) := by decide +kernel
theorem d_La_law_956 : decode (am_c m_La_law) 956 = .ok (.iconst 0, 1) := by decide +kernel
theorem d_La_law_957 : decode (am_c m_La_law) 957 = .ok (.ireturn, 1) := by decide +kernel
theorem d_La_law_958 : decode (am_c m_La_law) 958 = .ok (.aload_n 1, 1) := by decide +kernel
theorem d_La_law_959 : decode (am_c m_La_law) 959 = .ok (.aload_n 0, 1) := by decide +kernel
theorem d_La_law_960 : decode (am_c m_La_law) 960 = .ok (.iload_n 3, 1) := by decide +kernel
theorem d_La_law_961 : decode (am_c m_La_law) 961 = .ok (.iconst 1, 1) := by decide +kernel
theorem d_La_law_962 : decode (am_c m_La_law) 962 = .ok (.iadd, 1) := by decide +kernel
theorem d_La_law_963 : decode (am_c m_La_law) 963 = .ok (.iaload, 1) := by decide +kernel
theorem d_La_law_964 : decode (am_c m_La_law) 964 = .ok (.invokevirtual 115, 3) := by decide +kernel
theorem d_La_law_967 : decode (am_c m_La_law) 967 = .ok (.aload_n 2, 1) := by decide +kernel
theorem d_La_law_968 : decode (am_c m_La_law) 968 = .ok (.aload_n 0, 1) := by decide +kernel
theorem d_La_law_969 : decode (am_c m_La_law) 969 = .ok (.iload_n 3, 1) := by decide +kernel
theorem d_La_law_970 : decode (am_c m_La_law) 970 = .ok (.iconst 1, 1) := by decide +kernel
theorem d_La_law_971 : decode (am_c m_La_law) 971 = .ok (.iadd, 1) := by decide +kernel
theorem d_La_law_972 : decode (am_c m_La_law) 972 = .ok (.iaload, 1) := by decide +kernel
theorem d_La_law_973 : decode (am_c m_La_law) 973 = .ok (.invokevirtual 118, 3) := by decide +kernel
theorem d_La_law_976 : decode (am_c m_La_law) 976 = .ok (.if_icmp .eq 196, 3) := by decide +kernel
theorem d_La_law_979 : decode (am_c m_La_law) 979 = .ok (.iconst 0, 1) := by decide +kernel
theorem d_La_law_980 : decode (am_c m_La_law) 980 = .ok (.ireturn, 1) := by decide +kernel
theorem d_La_law_981 : decode (am_c m_La_law) 981 = .ok (.aload_n 1, 1) := by decide +kernel
theorem d_La_law_982 : decode (am_c m_La_law) 982 = .ok (.aload_n 0, 1) := by decide +kernel
theorem d_La_law_983 : decode (am_c m_La_law) 983 = .ok (.iload_n 3, 1) := by decide +kernel
theorem d_La_law_984 : decode (am_c m_La_law) 984 = .ok (.iconst 1, 1) := by decide +kernel
theorem d_La_law_985 : decode (am_c m_La_law) 985 = .ok (.iadd, 1) := by decide +kernel
theorem d_La_law_986 : decode (am_c m_La_law) 986 = .ok (.iaload, 1) := by decide +kernel
theorem d_La_law_987 : decode (am_c m_La_law) 987 = .ok (.invokevirtual 119, 3) := by decide +kernel
theorem d_La_law_990 : decode (am_c m_La_law) 990 = .ok (.aload_n 2, 1) := by decide +kernel
theorem d_La_law_991 : decode (am_c m_La_law) 991 = .ok (.aload_n 0, 1) := by decide +kernel
theorem d_La_law_992 : decode (am_c m_La_law) 992 = .ok (.iload_n 3, 1) := by decide +kernel
theorem d_La_law_993 : decode (am_c m_La_law) 993 = .ok (.iconst 1, 1) := by decide +kernel
theorem d_La_law_994 : decode (am_c m_La_law) 994 = .ok (.iadd, 1) := by decide +kernel
theorem d_La_law_995 : decode (am_c m_La_law) 995 = .ok (.iaload, 1) := by decide +kernel
theorem d_La_law_996 : decode (am_c m_La_law) 996 = .ok (.invokevirtual 122, 3) := by decide +kernel
theorem d_La_law_999 : decode (am_c m_La_law) 999 = .ok (.if_icmp .eq 173, 3) := by decide +kernel
theorem d_La_law_1002 : decode (am_c m_La_law) 1002 = .ok (.iconst 0, 1) := by decide +kernel
theorem d_La_law_1003 : decode (am_c m_La_law) 1003 = .ok (.ireturn, 1) := by decide +kernel
theorem d_La_law_1004 : decode (am_c m_La_law) 1004 = .ok (.aload_n 1, 1) := by decide +kernel
theorem d_La_law_1005 : decode (am_c m_La_law) 1005 = .ok (.aload_n 0, 1) := by decide +kernel
theorem d_La_law_1006 : decode (am_c m_La_law) 1006 = .ok (.iload_n 3, 1) := by decide +kernel
theorem d_La_law_1007 : decode (am_c m_La_law) 1007 = .ok (.iconst 1, 1) := by decide +kernel
theorem d_La_law_1008 : decode (am_c m_La_law) 1008 = .ok (.iadd, 1) := by decide +kernel
theorem d_La_law_1009 : decode (am_c m_La_law) 1009 = .ok (.iaload, 1) := by decide +kernel
theorem d_La_law_1010 : decode (am_c m_La_law) 1010 = .ok (.aload_n 0, 1) := by decide +kernel
theorem d_La_law_1011 : decode (am_c m_La_law) 1011 = .ok (.iload_n 3, 1) := by decide +kernel
theorem d_La_law_1012 : decode (am_c m_La_law) 1012 = .ok (.iconst 2, 1) := by decide +kernel
theorem d_La_law_1013 : decode (am_c m_La_law) 1013 = .ok (.iadd, 1) := by decide +kernel
theorem d_La_law_1014 : decode (am_c m_La_law) 1014 = .ok (.iaload, 1) := by decide +kernel
theorem d_La_law_1015 : decode (am_c m_La_law) 1015 = .ok (.aload_n 0, 1) := by decide +kernel
theorem d_La_law_1016 : decode (am_c m_La_law) 1016 = .ok (.iload_n 3, 1) := by decide +kernel
theorem d_La_law_1017 : decode (am_c m_La_law) 1017 = .ok (.iconst 3, 1) := by decide +kernel
theorem d_La_law_1018 : decode (am_c m_La_law) 1018 = .ok (.iadd, 1) := by decide +kernel
theorem d_La_law_1019 : decode (am_c m_La_law) 1019 = .ok (.iaload, 1) := by decide +kernel
theorem d_La_law_1020 : decode (am_c m_La_law) 1020 = .ok (.invokevirtual 123, 3) := by decide +kernel
theorem d_La_law_1023 : decode (am_c m_La_law) 1023 = .ok (.aload_n 2, 1) := by decide +kernel
theorem d_La_law_1024 : decode (am_c m_La_law) 1024 = .ok (.aload_n 0, 1) := by decide +kernel
theorem d_La_law_1025 : decode (am_c m_La_law) 1025 = .ok (.iload_n 3, 1) := by decide +kernel
theorem d_La_law_1026 : decode (am_c m_La_law) 1026 = .ok (.iconst 1, 1) := by decide +kernel
theorem d_La_law_1027 : decode (am_c m_La_law) 1027 = .ok (.iadd, 1) := by decide +kernel
theorem d_La_law_1028 : decode (am_c m_La_law) 1028 = .ok (.iaload, 1) := by decide +kernel
theorem d_La_law_1029 : decode (am_c m_La_law) 1029 = .ok (.aload_n 0, 1) := by decide +kernel
theorem d_La_law_1030 : decode (am_c m_La_law) 1030 = .ok (.iload_n 3, 1) := by decide +kernel
theorem d_La_law_1031 : decode (am_c m_La_law) 1031 = .ok (.iconst 2, 1) := by decide +kernel
theorem d_La_law_1032 : decode (am_c m_La_law) 1032 = .ok (.iadd, 1) := by decide +kernel
theorem d_La_law_1033 : decode (am_c m_La_law) 1033 = .ok (.iaload, 1) := by decide +kernel
theorem d_La_law_1034 : decode (am_c m_La_law) 1034 = .ok (.aload_n 0, 1) := by decide +kernel
theorem d_La_law_1035 : decode (am_c m_La_law) 1035 = .ok (.iload_n 3, 1) := by decide +kernel
theorem d_La_law_1036 : decode (am_c m_La_law) 1036 = .ok (.iconst 3, 1) := by decide +kernel
theorem d_La_law_1037 : decode (am_c m_La_law) 1037 = .ok (.iadd, 1) := by decide +kernel
theorem d_La_law_1038 : decode (am_c m_La_law) 1038 = .ok (.iaload, 1) := by decide +kernel
theorem d_La_law_1039 : decode (am_c m_La_law) 1039 = .ok (.invokevirtual 126, 3) := by decide +kernel
theorem d_La_law_1042 : decode (am_c m_La_law) 1042 = .ok (.if_icmp .eq 130, 3) := by decide +kernel
theorem d_La_law_1045 : decode (am_c m_La_law) 1045 = .ok (.iconst 0, 1) := by decide +kernel
theorem d_La_law_1046 : decode (am_c m_La_law) 1046 = .ok (.ireturn, 1) := by decide +kernel
theorem d_La_law_1047 : decode (am_c m_La_law) 1047 = .ok (.aload_n 1, 1) := by decide +kernel
theorem d_La_law_1048 : decode (am_c m_La_law) 1048 = .ok (.aload_n 0, 1) := by decide +kernel
theorem d_La_law_1049 : decode (am_c m_La_law) 1049 = .ok (.iload_n 3, 1) := by decide +kernel
theorem d_La_law_1050 : decode (am_c m_La_law) 1050 = .ok (.iconst 1, 1) := by decide +kernel
theorem d_La_law_1051 : decode (am_c m_La_law) 1051 = .ok (.iadd, 1) := by decide +kernel
theorem d_La_law_1052 : decode (am_c m_La_law) 1052 = .ok (.iaload, 1) := by decide +kernel
theorem d_La_law_1053 : decode (am_c m_La_law) 1053 = .ok (.i2l, 1) := by decide +kernel
theorem d_La_law_1054 : decode (am_c m_La_law) 1054 = .ok (.bipush 32, 2) := by decide +kernel
theorem d_La_law_1056 : decode (am_c m_La_law) 1056 = .ok (.lshl, 1) := by decide +kernel
theorem d_La_law_1057 : decode (am_c m_La_law) 1057 = .ok (.aload_n 0, 1) := by decide +kernel
theorem d_La_law_1058 : decode (am_c m_La_law) 1058 = .ok (.iload_n 3, 1) := by decide +kernel
theorem d_La_law_1059 : decode (am_c m_La_law) 1059 = .ok (.iconst 2, 1) := by decide +kernel
theorem d_La_law_1060 : decode (am_c m_La_law) 1060 = .ok (.iadd, 1) := by decide +kernel
theorem d_La_law_1061 : decode (am_c m_La_law) 1061 = .ok (.iaload, 1) := by decide +kernel
theorem d_La_law_1062 : decode (am_c m_La_law) 1062 = .ok (.i2l, 1) := by decide +kernel
theorem d_La_law_1063 : decode (am_c m_La_law) 1063 = .ok (.ldc2_w 127, 3) := by decide +kernel
theorem d_La_law_1066 : decode (am_c m_La_law) 1066 = .ok (.land, 1) := by decide +kernel
theorem d_La_law_1067 : decode (am_c m_La_law) 1067 = .ok (.lor, 1) := by decide +kernel
theorem d_La_law_1068 : decode (am_c m_La_law) 1068 = .ok (.aload_n 0, 1) := by decide +kernel
theorem d_La_law_1069 : decode (am_c m_La_law) 1069 = .ok (.iload_n 3, 1) := by decide +kernel
theorem d_La_law_1070 : decode (am_c m_La_law) 1070 = .ok (.iconst 3, 1) := by decide +kernel
theorem d_La_law_1071 : decode (am_c m_La_law) 1071 = .ok (.iadd, 1) := by decide +kernel
theorem d_La_law_1072 : decode (am_c m_La_law) 1072 = .ok (.iaload, 1) := by decide +kernel
theorem d_La_law_1073 : decode (am_c m_La_law) 1073 = .ok (.invokevirtual 129, 3) := by decide +kernel
theorem d_La_law_1076 : decode (am_c m_La_law) 1076 = .ok (.aload_n 2, 1) := by decide +kernel
theorem d_La_law_1077 : decode (am_c m_La_law) 1077 = .ok (.aload_n 0, 1) := by decide +kernel
theorem d_La_law_1078 : decode (am_c m_La_law) 1078 = .ok (.iload_n 3, 1) := by decide +kernel
theorem d_La_law_1079 : decode (am_c m_La_law) 1079 = .ok (.iconst 1, 1) := by decide +kernel
theorem d_La_law_1080 : decode (am_c m_La_law) 1080 = .ok (.iadd, 1) := by decide +kernel
theorem d_La_law_1081 : decode (am_c m_La_law) 1081 = .ok (.iaload, 1) := by decide +kernel
theorem d_La_law_1082 : decode (am_c m_La_law) 1082 = .ok (.i2l, 1) := by decide +kernel
theorem d_La_law_1083 : decode (am_c m_La_law) 1083 = .ok (.bipush 32, 2) := by decide +kernel
theorem d_La_law_1085 : decode (am_c m_La_law) 1085 = .ok (.lshl, 1) := by decide +kernel
theorem d_La_law_1086 : decode (am_c m_La_law) 1086 = .ok (.aload_n 0, 1) := by decide +kernel
theorem d_La_law_1087 : decode (am_c m_La_law) 1087 = .ok (.iload_n 3, 1) := by decide +kernel
theorem d_La_law_1088 : decode (am_c m_La_law) 1088 = .ok (.iconst 2, 1) := by decide +kernel
theorem d_La_law_1089 : decode (am_c m_La_law) 1089 = .ok (.iadd, 1) := by decide +kernel
theorem d_La_law_1090 : decode (am_c m_La_law) 1090 = .ok (.iaload, 1) := by decide +kernel
theorem d_La_law_1091 : decode (am_c m_La_law) 1091 = .ok (.i2l, 1) := by decide +kernel
theorem d_La_law_1092 : decode (am_c m_La_law) 1092 = .ok (.ldc2_w 127, 3) := by decide +kernel
theorem d_La_law_1095 : decode (am_c m_La_law) 1095 = .ok (.land, 1) := by decide +kernel
theorem d_La_law_1096 : decode (am_c m_La_law) 1096 = .ok (.lor, 1) := by decide +kernel
theorem d_La_law_1097 : decode (am_c m_La_law) 1097 = .ok (.aload_n 0, 1) := by decide +kernel
theorem d_La_law_1098 : decode (am_c m_La_law) 1098 = .ok (.iload_n 3, 1) := by decide +kernel
theorem d_La_law_1099 : decode (am_c m_La_law) 1099 = .ok (.iconst 3, 1) := by decide +kernel
theorem d_La_law_1100 : decode (am_c m_La_law) 1100 = .ok (.iadd, 1) := by decide +kernel
theorem d_La_law_1101 : decode (am_c m_La_law) 1101 = .ok (.iaload, 1) := by decide +kernel
theorem d_La_law_1102 : decode (am_c m_La_law) 1102 = .ok (.invokevirtual 133, 3) := by decide +kernel
theorem d_La_law_1105 : decode (am_c m_La_law) 1105 = .ok (.if_icmp .eq 67, 3) := by decide +kernel
theorem d_La_law_1108 : decode (am_c m_La_law) 1108 = .ok (.iconst 0, 1) := by decide +kernel
theorem d_La_law_1109 : decode (am_c m_La_law) 1109 = .ok (.ireturn, 1) := by decide +kernel
theorem d_La_law_1110 : decode (am_c m_La_law) 1110 = .ok (.aload_n 1, 1) := by decide +kernel
theorem d_La_law_1111 : decode (am_c m_La_law) 1111 = .ok (.invokevirtual 134, 3) := by decide +kernel
theorem d_La_law_1114 : decode (am_c m_La_law) 1114 = .ok (.aload_n 2, 1) := by decide +kernel
theorem d_La_law_1115 : decode (am_c m_La_law) 1115 = .ok (.invokevirtual 137, 3) := by decide +kernel
theorem d_La_law_1118 : decode (am_c m_La_law) 1118 = .ok (.if_icmp .eq 54, 3) := by decide +kernel
theorem d_La_law_1121 : decode (am_c m_La_law) 1121 = .ok (.iconst 0, 1) := by decide +kernel
theorem d_La_law_1122 : decode (am_c m_La_law) 1122 = .ok (.ireturn, 1) := by decide +kernel
theorem d_La_law_1123 : decode (am_c m_La_law) 1123 = .ok (.aload_n 1, 1) := by decide +kernel
theorem d_La_law_1124 : decode (am_c m_La_law) 1124 = .ok (.invokevirtual 138, 3) := by decide +kernel
theorem d_La_law_1127 : decode (am_c m_La_law) 1127 = .ok (.aload_n 2, 1) := by decide +kernel
theorem d_La_law_1128 : decode (am_c m_La_law) 1128 = .ok (.invokevirtual 141, 3) := by decide +kernel
theorem d_La_law_1131 : decode (am_c m_La_law) 1131 = .ok (.if_icmp .eq 41, 3) := by decide +kernel
theorem d_La_law_1134 : decode (am_c m_La_law) 1134 = .ok (.iconst 0, 1) := by decide +kernel
theorem d_La_law_1135 : decode (am_c m_La_law) 1135 = .ok (.ireturn, 1) := by decide +kernel
theorem d_La_law_1136 : decode (am_c m_La_law) 1136 = .ok (.aload_n 1, 1) := by decide +kernel
theorem d_La_law_1137 : decode (am_c m_La_law) 1137 = .ok (.invokevirtual 142, 3) := by decide +kernel
theorem d_La_law_1140 : decode (am_c m_La_law) 1140 = .ok (.aload_n 2, 1) := by decide +kernel
theorem d_La_law_1141 : decode (am_c m_La_law) 1141 = .ok (.invokevirtual 145, 3) := by decide +kernel
theorem d_La_law_1144 : decode (am_c m_La_law) 1144 = .ok (.if_icmp .eq 28, 3) := by decide +kernel
theorem d_La_law_1147 : decode (am_c m_La_law) 1147 = .ok (.iconst 0, 1) := by decide +kernel
theorem d_La_law_1148 : decode (am_c m_La_law) 1148 = .ok (.ireturn, 1) := by decide +kernel
theorem d_La_law_1149 : decode (am_c m_La_law) 1149 = .ok (.aload_n 1, 1) := by decide +kernel
theorem d_La_law_1150 : decode (am_c m_La_law) 1150 = .ok (.aload_n 0, 1) := by decide +kernel
theorem d_La_law_1151 : decode (am_c m_La_law) 1151 = .ok (.iload_n 3, 1) := by decide +kernel
theorem d_La_law_1152 : decode (am_c m_La_law) 1152 = .ok (.iconst 1, 1) := by decide +kernel
theorem d_La_law_1153 : decode (am_c m_La_law) 1153 = .ok (.iadd, 1) := by decide +kernel
theorem d_La_law_1154 : decode (am_c m_La_law) 1154 = .ok (.iaload, 1) := by decide +kernel
theorem d_La_law_1155 : decode (am_c m_La_law) 1155 = .ok (.invokevirtual 146, 3) := by decide +kernel
theorem d_La_law_1158 : decode (am_c m_La_law) 1158 = .ok (.aload_n 2, 1) := by decide +kernel
theorem d_La_law_1159 : decode (am_c m_La_law) 1159 = .ok (.aload_n 0, 1) := by decide +kernel
theorem d_La_law_1160 : decode (am_c m_La_law) 1160 = .ok (.iload_n 3, 1) := by decide +kernel
theorem d_La_law_1161 : decode (am_c m_La_law) 1161 = .ok (.iconst 1, 1) := by decide +kernel
theorem d_La_law_1162 : decode (am_c m_La_law) 1162 = .ok (.iadd, 1) := by decide +kernel
theorem d_La_law_1163 : decode (am_c m_La_law) 1163 = .ok (.iaload, 1) := by decide +kernel
theorem d_La_law_1164 : decode (am_c m_La_law) 1164 = .ok (.invokevirtual 149, 3) := by decide +kernel
theorem d_La_law_1167 : decode (am_c m_La_law) 1167 = .ok (.if_icmp .eq 5, 3) := by decide +kernel
theorem d_La_law_1170 : decode (am_c m_La_law) 1170 = .ok (.iconst 0, 1) := by decide +kernel
theorem d_La_law_1171 : decode (am_c m_La_law) 1171 = .ok (.ireturn, 1) := by decide +kernel
theorem d_La_law_1172 : decode (am_c m_La_law) 1172 = .ok (.iinc 3 6, 3) := by decide +kernel
theorem d_La_law_1175 : decode (am_c m_La_law) 1175 = .ok (.goto (-1157), 3) := by decide +kernel
theorem d_La_law_1178 : decode (am_c m_La_law) 1178 = .ok (.iconst 1, 1) := by decide +kernel
theorem d_La_law_1179 : decode (am_c m_La_law) 1179 = .ok (.ireturn, 1) := by decide +kernel
