theorem dc_law_124 : decode code 124 = .ok (.aload_n 1, 1) := by decide +kernel
theorem dc_law_125 : decode code 125 = .ok (.aload_n 0, 1) := by decide +kernel
theorem dc_law_126 : decode code 126 = .ok (.iload_n 3, 1) := by decide +kernel
theorem dc_law_127 : decode code 127 = .ok (.iconst 1, 1) := by decide +kernel
theorem dc_law_128 : decode code 128 = .ok (.iadd, 1) := by decide +kernel
theorem dc_law_129 : decode code 129 = .ok (.iaload, 1) := by decide +kernel
theorem dc_law_130 : decode code 130 = .ok (.aload_n 0, 1) := by decide +kernel
theorem dc_law_131 : decode code 131 = .ok (.iload_n 3, 1) := by decide +kernel
theorem dc_law_132 : decode code 132 = .ok (.iconst 2, 1) := by decide +kernel
theorem dc_law_133 : decode code 133 = .ok (.iadd, 1) := by decide +kernel
theorem dc_law_134 : decode code 134 = .ok (.iaload, 1) := by decide +kernel
theorem dc_law_135 : decode code 135 = .ok (.aload_n 0, 1) := by decide +kernel
theorem dc_law_136 : decode code 136 = .ok (.iload_n 3, 1) := by decide +kernel
theorem dc_law_137 : decode code 137 = .ok (.iconst 3, 1) := by decide +kernel
theorem dc_law_138 : decode code 138 = .ok (.iadd, 1) := by decide +kernel
theorem dc_law_139 : decode code 139 = .ok (.iaload, 1) := by decide +kernel
theorem dc_law_140 : decode code 140 = .ok (.aload_n 0, 1) := by decide +kernel
theorem dc_law_141 : decode code 141 = .ok (.iload_n 3, 1) := by decide +kernel
theorem dc_law_142 : decode code 142 = .ok (.iconst 4, 1) := by decide +kernel
theorem dc_law_143 : decode code 143 = .ok (.iadd, 1) := by decide +kernel
theorem dc_law_144 : decode code 144 = .ok (.iaload, 1) := by decide +kernel
theorem dc_law_145 : decode code 145 = .ok (.aload_n 0, 1) := by decide +kernel
theorem dc_law_146 : decode code 146 = .ok (.iload_n 3, 1) := by decide +kernel
theorem dc_law_147 : decode code 147 = .ok (.iconst 5, 1) := by decide +kernel
theorem dc_law_148 : decode code 148 = .ok (.iadd, 1) := by decide +kernel
theorem dc_law_149 : decode code 149 = .ok (.iaload, 1) := by decide +kernel
theorem ll_13 : Cond.methodLink R_law 13 m_Cp_feed.1 ∈ lw_tbl := List.mem_of_getElem? (i := 474) (by decide +kernel)
theorem lm_Cp_feed : MIt m_Cp_feed 5 := ⟨tb_mem 475 (by decide +kernel) (by decide +kernel), tb_mem 476 (by decide +kernel) (by decide +kernel), tb_mem 112 (by decide +kernel) (by decide +kernel), tb_mem 477 (by decide +kernel) (by decide +kernel), by decide, by decide, by decide +kernel⟩
theorem dc_law_150 : decode code 150 = .ok (.invokevirtual 13, 3) := by decide +kernel
theorem dc_law_153 : decode code 153 = .ok (.aload_n 2, 1) := by decide +kernel
theorem dc_law_154 : decode code 154 = .ok (.aload_n 0, 1) := by decide +kernel
theorem dc_law_155 : decode code 155 = .ok (.iload_n 3, 1) := by decide +kernel
theorem dc_law_156 : decode code 156 = .ok (.iconst 1, 1) := by decide +kernel
theorem dc_law_157 : decode code 157 = .ok (.iadd, 1) := by decide +kernel
theorem dc_law_158 : decode code 158 = .ok (.iaload, 1) := by decide +kernel
theorem dc_law_159 : decode code 159 = .ok (.aload_n 0, 1) := by decide +kernel
theorem dc_law_160 : decode code 160 = .ok (.iload_n 3, 1) := by decide +kernel
theorem dc_law_161 : decode code 161 = .ok (.iconst 2, 1) := by decide +kernel
theorem dc_law_162 : decode code 162 = .ok (.iadd, 1) := by decide +kernel
theorem dc_law_163 : decode code 163 = .ok (.iaload, 1) := by decide +kernel
theorem dc_law_164 : decode code 164 = .ok (.aload_n 0, 1) := by decide +kernel
theorem dc_law_165 : decode code 165 = .ok (.iload_n 3, 1) := by decide +kernel
theorem dc_law_166 : decode code 166 = .ok (.iconst 3, 1) := by decide +kernel
theorem dc_law_167 : decode code 167 = .ok (.iadd, 1) := by decide +kernel
theorem dc_law_168 : decode code 168 = .ok (.iaload, 1) := by decide +kernel
theorem dc_law_169 : decode code 169 = .ok (.aload_n 0, 1) := by decide +kernel
theorem dc_law_170 : decode code 170 = .ok (.iload_n 3, 1) := by decide +kernel
theorem dc_law_171 : decode code 171 = .ok (.iconst 4, 1) := by decide +kernel
theorem dc_law_172 : decode code 172 = .ok (.iadd, 1) := by decide +kernel
theorem dc_law_173 : decode code 173 = .ok (.iaload, 1) := by decide +kernel
theorem dc_law_174 : decode code 174 = .ok (.aload_n 0, 1) := by decide +kernel
theorem dc_law_175 : decode code 175 = .ok (.iload_n 3, 1) := by decide +kernel
theorem dc_law_176 : decode code 176 = .ok (.iconst 5, 1) := by decide +kernel
theorem dc_law_177 : decode code 177 = .ok (.iadd, 1) := by decide +kernel
theorem dc_law_178 : decode code 178 = .ok (.iaload, 1) := by decide +kernel
theorem ll_17 : Cond.methodLink R_law 17 m_Mo_feed.1 ∈ lw_tbl := List.mem_of_getElem? (i := 1439) (by decide +kernel)
theorem lm_Mo_feed : MIt m_Mo_feed 5 := ⟨tb_mem 1440 (by decide +kernel) (by decide +kernel), tb_mem 1441 (by decide +kernel) (by decide +kernel), tb_mem 123 (by decide +kernel) (by decide +kernel), tb_mem 1442 (by decide +kernel) (by decide +kernel), by decide, by decide, by decide +kernel⟩
theorem dc_law_179 : decode code 179 = .ok (.invokevirtual 17, 3) := by decide +kernel
theorem dc_law_182 : decode code 182 = .ok (.if_icmp .eq 621, 3) := by decide +kernel
theorem dc_law_187 : decode code 187 = .ok (.aload_n 1, 1) := by decide +kernel
theorem dc_law_188 : decode code 188 = .ok (.aload_n 0, 1) := by decide +kernel
theorem dc_law_189 : decode code 189 = .ok (.iload_n 3, 1) := by decide +kernel
theorem dc_law_190 : decode code 190 = .ok (.iconst 1, 1) := by decide +kernel
theorem dc_law_191 : decode code 191 = .ok (.iadd, 1) := by decide +kernel
theorem dc_law_192 : decode code 192 = .ok (.iaload, 1) := by decide +kernel
theorem ll_18 : Cond.methodLink R_law 18 m_Cp_end.1 ∈ lw_tbl := List.mem_of_getElem? (i := 482) (by decide +kernel)
theorem lm_Cp_end : MIt m_Cp_end 1 := ⟨tb_mem 483 (by decide +kernel) (by decide +kernel), tb_mem 484 (by decide +kernel) (by decide +kernel), tb_mem 112 (by decide +kernel) (by decide +kernel), tb_mem 485 (by decide +kernel) (by decide +kernel), by decide, by decide, by decide +kernel⟩
theorem dc_law_193 : decode code 193 = .ok (.invokevirtual 18, 3) := by decide +kernel
theorem dc_law_196 : decode code 196 = .ok (.aload_n 2, 1) := by decide +kernel
theorem dc_law_197 : decode code 197 = .ok (.aload_n 0, 1) := by decide +kernel
theorem dc_law_198 : decode code 198 = .ok (.iload_n 3, 1) := by decide +kernel
theorem dc_law_199 : decode code 199 = .ok (.iconst 1, 1) := by decide +kernel
theorem dc_law_200 : decode code 200 = .ok (.iadd, 1) := by decide +kernel
theorem dc_law_201 : decode code 201 = .ok (.iaload, 1) := by decide +kernel
theorem ll_22 : Cond.methodLink R_law 22 m_Mo_end.1 ∈ lw_tbl := List.mem_of_getElem? (i := 1447) (by decide +kernel)
theorem lm_Mo_end : MIt m_Mo_end 1 := ⟨tb_mem 1448 (by decide +kernel) (by decide +kernel), tb_mem 1449 (by decide +kernel) (by decide +kernel), tb_mem 123 (by decide +kernel) (by decide +kernel), tb_mem 1450 (by decide +kernel) (by decide +kernel), by decide, by decide, by decide +kernel⟩
theorem dc_law_202 : decode code 202 = .ok (.invokevirtual 22, 3) := by decide +kernel
theorem dc_law_205 : decode code 205 = .ok (.if_icmp .eq 598, 3) := by decide +kernel
theorem dc_law_210 : decode code 210 = .ok (.aload_n 1, 1) := by decide +kernel
theorem ll_23 : Cond.methodLink R_law 23 m_Cp_take.1 ∈ lw_tbl := List.mem_of_getElem? (i := 486) (by decide +kernel)
theorem lm_Cp_take : MIt m_Cp_take 0 := ⟨tb_mem 487 (by decide +kernel) (by decide +kernel), tb_mem 488 (by decide +kernel) (by decide +kernel), tb_mem 112 (by decide +kernel) (by decide +kernel), tb_mem 489 (by decide +kernel) (by decide +kernel), by decide, by decide, by decide +kernel⟩
theorem dc_law_211 : decode code 211 = .ok (.invokevirtual 23, 3) := by decide +kernel
theorem dc_law_214 : decode code 214 = .ok (.aload_n 2, 1) := by decide +kernel
theorem ll_27 : Cond.methodLink R_law 27 m_Mo_take.1 ∈ lw_tbl := List.mem_of_getElem? (i := 1451) (by decide +kernel)
theorem lm_Mo_take : MIt m_Mo_take 0 := ⟨tb_mem 1452 (by decide +kernel) (by decide +kernel), tb_mem 1453 (by decide +kernel) (by decide +kernel), tb_mem 123 (by decide +kernel) (by decide +kernel), tb_mem 1454 (by decide +kernel) (by decide +kernel), by decide, by decide, by decide +kernel⟩
theorem dc_law_215 : decode code 215 = .ok (.invokevirtual 27, 3) := by decide +kernel
theorem dc_law_218 : decode code 218 = .ok (.if_icmp .eq 585, 3) := by decide +kernel
theorem dc_law_223 : decode code 223 = .ok (.aload_n 1, 1) := by decide +kernel
theorem ll_28 : Cond.methodLink R_law 28 m_Cp_numeral.1 ∈ lw_tbl := List.mem_of_getElem? (i := 500) (by decide +kernel)
theorem lm_Cp_numeral : MIt m_Cp_numeral 0 := ⟨tb_mem 501 (by decide +kernel) (by decide +kernel), tb_mem 502 (by decide +kernel) (by decide +kernel), tb_mem 112 (by decide +kernel) (by decide +kernel), tb_mem 503 (by decide +kernel) (by decide +kernel), by decide, by decide, by decide +kernel⟩
theorem dc_law_224 : decode code 224 = .ok (.invokevirtual 28, 3) := by decide +kernel
theorem dc_law_227 : decode code 227 = .ok (.aload_n 2, 1) := by decide +kernel
theorem ll_32 : Cond.methodLink R_law 32 m_Mo_numeral.1 ∈ lw_tbl := List.mem_of_getElem? (i := 1459) (by decide +kernel)
theorem lm_Mo_numeral : MIt m_Mo_numeral 0 := ⟨tb_mem 1460 (by decide +kernel) (by decide +kernel), tb_mem 1461 (by decide +kernel) (by decide +kernel), tb_mem 123 (by decide +kernel) (by decide +kernel), tb_mem 1462 (by decide +kernel) (by decide +kernel), by decide, by decide, by decide +kernel⟩
theorem dc_law_228 : decode code 228 = .ok (.invokevirtual 32, 3) := by decide +kernel
theorem dc_law_231 : decode code 231 = .ok (.lcmp, 1) := by decide +kernel
theorem dc_law_232 : decode code 232 = .ok (.ifCond .eq 571, 3) := by decide +kernel
theorem dc_law_237 : decode code 237 = .ok (.aload_n 1, 1) := by decide +kernel
theorem dc_law_238 : decode code 238 = .ok (.aload_n 0, 1) := by decide +kernel
theorem dc_law_239 : decode code 239 = .ok (.iload_n 3, 1) := by decide +kernel
theorem dc_law_240 : decode code 240 = .ok (.iconst 1, 1) := by decide +kernel
theorem dc_law_241 : decode code 241 = .ok (.iadd, 1) := by decide +kernel
theorem dc_law_242 : decode code 242 = .ok (.iaload, 1) := by decide +kernel
theorem dc_law_243 : decode code 243 = .ok (.i2l, 1) := by decide +kernel
theorem dc_law_244 : decode code 244 = .ok (.bipush 32, 2) := by decide +kernel
theorem dc_law_246 : decode code 246 = .ok (.lshl, 1) := by decide +kernel
theorem dc_law_247 : decode code 247 = .ok (.aload_n 0, 1) := by decide +kernel
theorem dc_law_248 : decode code 248 = .ok (.iload_n 3, 1) := by decide +kernel
theorem dc_law_249 : decode code 249 = .ok (.iconst 2, 1) := by decide +kernel
theorem dc_law_250 : decode code 250 = .ok (.iadd, 1) := by decide +kernel
theorem dc_law_251 : decode code 251 = .ok (.iaload, 1) := by decide +kernel
theorem dc_law_252 : decode code 252 = .ok (.i2l, 1) := by decide +kernel
theorem dc_law_253 : decode code 253 = .ok (.ldc2_w 33, 3) := by decide +kernel
theorem lk_33 : Cond.constantLong R_law 33 (4294967295 : Int64) ∈ lw_tbl := List.mem_of_getElem? (i := 1782) (by decide +kernel)
theorem dc_law_256 : decode code 256 = .ok (.land, 1) := by decide +kernel
theorem dc_law_257 : decode code 257 = .ok (.lor, 1) := by decide +kernel
theorem ll_35 : Cond.methodLink R_law 35 m_Cp_print.1 ∈ lw_tbl := List.mem_of_getElem? (i := 613) (by decide +kernel)
theorem lm_Cp_print : MIt m_Cp_print 1 := ⟨tb_mem 614 (by decide +kernel) (by decide +kernel), tb_mem 615 (by decide +kernel) (by decide +kernel), tb_mem 112 (by decide +kernel) (by decide +kernel), tb_mem 616 (by decide +kernel) (by decide +kernel), by decide, by decide, by decide +kernel⟩
theorem dc_law_258 : decode code 258 = .ok (.invokevirtual 35, 3) := by decide +kernel
theorem dc_law_261 : decode code 261 = .ok (.aload_n 2, 1) := by decide +kernel
theorem dc_law_262 : decode code 262 = .ok (.aload_n 0, 1) := by decide +kernel
theorem dc_law_263 : decode code 263 = .ok (.iload_n 3, 1) := by decide +kernel
theorem dc_law_264 : decode code 264 = .ok (.iconst 1, 1) := by decide +kernel
theorem dc_law_265 : decode code 265 = .ok (.iadd, 1) := by decide +kernel
theorem dc_law_266 : decode code 266 = .ok (.iaload, 1) := by decide +kernel
theorem dc_law_267 : decode code 267 = .ok (.i2l, 1) := by decide +kernel
theorem dc_law_268 : decode code 268 = .ok (.bipush 32, 2) := by decide +kernel
theorem dc_law_270 : decode code 270 = .ok (.lshl, 1) := by decide +kernel
theorem dc_law_271 : decode code 271 = .ok (.aload_n 0, 1) := by decide +kernel
theorem dc_law_272 : decode code 272 = .ok (.iload_n 3, 1) := by decide +kernel
theorem dc_law_273 : decode code 273 = .ok (.iconst 2, 1) := by decide +kernel
theorem dc_law_274 : decode code 274 = .ok (.iadd, 1) := by decide +kernel
theorem dc_law_275 : decode code 275 = .ok (.iaload, 1) := by decide +kernel
theorem dc_law_276 : decode code 276 = .ok (.i2l, 1) := by decide +kernel
theorem dc_law_277 : decode code 277 = .ok (.ldc2_w 33, 3) := by decide +kernel
theorem dc_law_280 : decode code 280 = .ok (.land, 1) := by decide +kernel
theorem dc_law_281 : decode code 281 = .ok (.lor, 1) := by decide +kernel
theorem ll_39 : Cond.methodLink R_law 39 m_Mo_print.1 ∈ lw_tbl := List.mem_of_getElem? (i := 1506) (by decide +kernel)
theorem lm_Mo_print : MIt m_Mo_print 1 := ⟨tb_mem 1507 (by decide +kernel) (by decide +kernel), tb_mem 1508 (by decide +kernel) (by decide +kernel), tb_mem 123 (by decide +kernel) (by decide +kernel), tb_mem 1509 (by decide +kernel) (by decide +kernel), by decide, by decide, by decide +kernel⟩
theorem dc_law_282 : decode code 282 = .ok (.invokevirtual 39, 3) := by decide +kernel
theorem dc_law_285 : decode code 285 = .ok (.if_icmp .eq 518, 3) := by decide +kernel
theorem dc_law_290 : decode code 290 = .ok (.aload_n 1, 1) := by decide +kernel
theorem dc_law_291 : decode code 291 = .ok (.aload_n 0, 1) := by decide +kernel
theorem dc_law_292 : decode code 292 = .ok (.iload_n 3, 1) := by decide +kernel
theorem dc_law_293 : decode code 293 = .ok (.iconst 1, 1) := by decide +kernel
theorem dc_law_294 : decode code 294 = .ok (.iadd, 1) := by decide +kernel
theorem dc_law_295 : decode code 295 = .ok (.iaload, 1) := by decide +kernel
theorem dc_law_296 : decode code 296 = .ok (.i2l, 1) := by decide +kernel
theorem dc_law_297 : decode code 297 = .ok (.bipush 32, 2) := by decide +kernel
theorem dc_law_299 : decode code 299 = .ok (.lshl, 1) := by decide +kernel
theorem dc_law_300 : decode code 300 = .ok (.aload_n 0, 1) := by decide +kernel
theorem dc_law_301 : decode code 301 = .ok (.iload_n 3, 1) := by decide +kernel
theorem dc_law_302 : decode code 302 = .ok (.iconst 2, 1) := by decide +kernel
theorem dc_law_303 : decode code 303 = .ok (.iadd, 1) := by decide +kernel
theorem dc_law_304 : decode code 304 = .ok (.iaload, 1) := by decide +kernel
theorem dc_law_305 : decode code 305 = .ok (.i2l, 1) := by decide +kernel
theorem dc_law_306 : decode code 306 = .ok (.ldc2_w 33, 3) := by decide +kernel
theorem dc_law_309 : decode code 309 = .ok (.land, 1) := by decide +kernel
theorem dc_law_310 : decode code 310 = .ok (.lor, 1) := by decide +kernel
theorem dc_law_311 : decode code 311 = .ok (.aload_n 0, 1) := by decide +kernel
theorem dc_law_312 : decode code 312 = .ok (.iload_n 3, 1) := by decide +kernel
theorem dc_law_313 : decode code 313 = .ok (.iconst 3, 1) := by decide +kernel
theorem dc_law_314 : decode code 314 = .ok (.iadd, 1) := by decide +kernel
theorem dc_law_315 : decode code 315 = .ok (.iaload, 1) := by decide +kernel
theorem ll_40 : Cond.methodLink R_law 40 m_Cp_round.1 ∈ lw_tbl := List.mem_of_getElem? (i := 700) (by decide +kernel)
theorem lm_Cp_round : MIt m_Cp_round 2 := ⟨tb_mem 701 (by decide +kernel) (by decide +kernel), tb_mem 702 (by decide +kernel) (by decide +kernel), tb_mem 112 (by decide +kernel) (by decide +kernel), tb_mem 703 (by decide +kernel) (by decide +kernel), by decide, by decide, by decide +kernel⟩
theorem dc_law_316 : decode code 316 = .ok (.invokevirtual 40, 3) := by decide +kernel
theorem dc_law_319 : decode code 319 = .ok (.aload_n 2, 1) := by decide +kernel
theorem dc_law_320 : decode code 320 = .ok (.aload_n 0, 1) := by decide +kernel
theorem dc_law_321 : decode code 321 = .ok (.iload_n 3, 1) := by decide +kernel
theorem dc_law_322 : decode code 322 = .ok (.iconst 1, 1) := by decide +kernel
theorem dc_law_323 : decode code 323 = .ok (.iadd, 1) := by decide +kernel
theorem dc_law_324 : decode code 324 = .ok (.iaload, 1) := by decide +kernel
theorem dc_law_325 : decode code 325 = .ok (.i2l, 1) := by decide +kernel
theorem dc_law_326 : decode code 326 = .ok (.bipush 32, 2) := by decide +kernel
theorem dc_law_328 : decode code 328 = .ok (.lshl, 1) := by decide +kernel
theorem dc_law_329 : decode code 329 = .ok (.aload_n 0, 1) := by decide +kernel
theorem dc_law_330 : decode code 330 = .ok (.iload_n 3, 1) := by decide +kernel
theorem dc_law_331 : decode code 331 = .ok (.iconst 2, 1) := by decide +kernel
theorem dc_law_332 : decode code 332 = .ok (.iadd, 1) := by decide +kernel
theorem dc_law_333 : decode code 333 = .ok (.iaload, 1) := by decide +kernel
theorem dc_law_334 : decode code 334 = .ok (.i2l, 1) := by decide +kernel
theorem dc_law_335 : decode code 335 = .ok (.ldc2_w 33, 3) := by decide +kernel
theorem dc_law_338 : decode code 338 = .ok (.land, 1) := by decide +kernel
theorem dc_law_339 : decode code 339 = .ok (.lor, 1) := by decide +kernel
theorem dc_law_340 : decode code 340 = .ok (.aload_n 0, 1) := by decide +kernel
theorem dc_law_341 : decode code 341 = .ok (.iload_n 3, 1) := by decide +kernel
theorem dc_law_342 : decode code 342 = .ok (.iconst 3, 1) := by decide +kernel
theorem dc_law_343 : decode code 343 = .ok (.iadd, 1) := by decide +kernel
theorem dc_law_344 : decode code 344 = .ok (.iaload, 1) := by decide +kernel
theorem ll_44 : Cond.methodLink R_law 44 m_Mo_round.1 ∈ lw_tbl := List.mem_of_getElem? (i := 1556) (by decide +kernel)
theorem lm_Mo_round : MIt m_Mo_round 2 := ⟨tb_mem 1557 (by decide +kernel) (by decide +kernel), tb_mem 1558 (by decide +kernel) (by decide +kernel), tb_mem 123 (by decide +kernel) (by decide +kernel), tb_mem 1559 (by decide +kernel) (by decide +kernel), by decide, by decide, by decide +kernel⟩
theorem dc_law_345 : decode code 345 = .ok (.invokevirtual 44, 3) := by decide +kernel
theorem dc_law_348 : decode code 348 = .ok (.if_icmp .eq 455, 3) := by decide +kernel
theorem dc_law_353 : decode code 353 = .ok (.aload_n 1, 1) := by decide +kernel
theorem dc_law_354 : decode code 354 = .ok (.aload_n 0, 1) := by decide +kernel
theorem dc_law_355 : decode code 355 = .ok (.iload_n 3, 1) := by decide +kernel
theorem dc_law_356 : decode code 356 = .ok (.iconst 1, 1) := by decide +kernel
theorem dc_law_357 : decode code 357 = .ok (.iadd, 1) := by decide +kernel
theorem dc_law_358 : decode code 358 = .ok (.iaload, 1) := by decide +kernel
theorem ll_45 : Cond.methodLink R_law 45 m_Cp_out.1 ∈ lw_tbl := List.mem_of_getElem? (i := 733) (by decide +kernel)
theorem lm_Cp_out : MIt m_Cp_out 1 := ⟨tb_mem 734 (by decide +kernel) (by decide +kernel), tb_mem 735 (by decide +kernel) (by decide +kernel), tb_mem 112 (by decide +kernel) (by decide +kernel), tb_mem 736 (by decide +kernel) (by decide +kernel), by decide, by decide, by decide +kernel⟩
theorem dc_law_359 : decode code 359 = .ok (.invokevirtual 45, 3) := by decide +kernel
theorem dc_law_362 : decode code 362 = .ok (.aload_n 2, 1) := by decide +kernel
theorem dc_law_363 : decode code 363 = .ok (.aload_n 0, 1) := by decide +kernel
theorem dc_law_364 : decode code 364 = .ok (.iload_n 3, 1) := by decide +kernel
theorem dc_law_365 : decode code 365 = .ok (.iconst 1, 1) := by decide +kernel
theorem dc_law_366 : decode code 366 = .ok (.iadd, 1) := by decide +kernel
theorem dc_law_367 : decode code 367 = .ok (.iaload, 1) := by decide +kernel
theorem ll_48 : Cond.methodLink R_law 48 m_Mo_out.1 ∈ lw_tbl := List.mem_of_getElem? (i := 1455) (by decide +kernel)
theorem lm_Mo_out : MIt m_Mo_out 1 := ⟨tb_mem 1456 (by decide +kernel) (by decide +kernel), tb_mem 1457 (by decide +kernel) (by decide +kernel), tb_mem 123 (by decide +kernel) (by decide +kernel), tb_mem 1458 (by decide +kernel) (by decide +kernel), by decide, by decide, by decide +kernel⟩
theorem dc_law_368 : decode code 368 = .ok (.invokevirtual 48, 3) := by decide +kernel
theorem dc_law_371 : decode code 371 = .ok (.if_icmp .eq 432, 3) := by decide +kernel
theorem dc_law_376 : decode code 376 = .ok (.aload_n 1, 1) := by decide +kernel
theorem dc_law_377 : decode code 377 = .ok (.aload_n 0, 1) := by decide +kernel
theorem dc_law_378 : decode code 378 = .ok (.iload_n 3, 1) := by decide +kernel
theorem dc_law_379 : decode code 379 = .ok (.iconst 1, 1) := by decide +kernel
theorem dc_law_380 : decode code 380 = .ok (.iadd, 1) := by decide +kernel
theorem dc_law_381 : decode code 381 = .ok (.iaload, 1) := by decide +kernel
theorem ll_49 : Cond.methodLink R_law 49 m_Cp_document.1 ∈ lw_tbl := List.mem_of_getElem? (i := 737) (by decide +kernel)
theorem lm_Cp_document : MIt m_Cp_document 1 := ⟨tb_mem 738 (by decide +kernel) (by decide +kernel), tb_mem 739 (by decide +kernel) (by decide +kernel), tb_mem 112 (by decide +kernel) (by decide +kernel), tb_mem 740 (by decide +kernel) (by decide +kernel), by decide, by decide, by decide +kernel⟩
theorem dc_law_382 : decode code 382 = .ok (.invokevirtual 49, 3) := by decide +kernel
theorem dc_law_385 : decode code 385 = .ok (.aload_n 2, 1) := by decide +kernel
theorem dc_law_386 : decode code 386 = .ok (.aload_n 0, 1) := by decide +kernel
theorem dc_law_387 : decode code 387 = .ok (.iload_n 3, 1) := by decide +kernel
theorem dc_law_388 : decode code 388 = .ok (.iconst 1, 1) := by decide +kernel
theorem dc_law_389 : decode code 389 = .ok (.iadd, 1) := by decide +kernel
theorem dc_law_390 : decode code 390 = .ok (.iaload, 1) := by decide +kernel
theorem ll_52 : Cond.methodLink R_law 52 m_Mo_document.1 ∈ lw_tbl := List.mem_of_getElem? (i := 1560) (by decide +kernel)
theorem lm_Mo_document : MIt m_Mo_document 1 := ⟨tb_mem 1561 (by decide +kernel) (by decide +kernel), tb_mem 1562 (by decide +kernel) (by decide +kernel), tb_mem 123 (by decide +kernel) (by decide +kernel), tb_mem 1563 (by decide +kernel) (by decide +kernel), by decide, by decide, by decide +kernel⟩
theorem dc_law_391 : decode code 391 = .ok (.invokevirtual 52, 3) := by decide +kernel
theorem dc_law_394 : decode code 394 = .ok (.if_icmp .eq 409, 3) := by decide +kernel
theorem dc_law_399 : decode code 399 = .ok (.aload_n 1, 1) := by decide +kernel
theorem ll_53 : Cond.methodLink R_law 53 m_Cp_place.1 ∈ lw_tbl := List.mem_of_getElem? (i := 1028) (by decide +kernel)
theorem lm_Cp_place : MIt m_Cp_place 0 := ⟨tb_mem 1029 (by decide +kernel) (by decide +kernel), tb_mem 1030 (by decide +kernel) (by decide +kernel), tb_mem 112 (by decide +kernel) (by decide +kernel), tb_mem 1031 (by decide +kernel) (by decide +kernel), by decide, by decide, by decide +kernel⟩
theorem dc_law_400 : decode code 400 = .ok (.invokevirtual 53, 3) := by decide +kernel
theorem dc_law_403 : decode code 403 = .ok (.aload_n 2, 1) := by decide +kernel
theorem ll_56 : Cond.methodLink R_law 56 m_Mo_place.1 ∈ lw_tbl := List.mem_of_getElem? (i := 1663) (by decide +kernel)
theorem lm_Mo_place : MIt m_Mo_place 0 := ⟨tb_mem 1664 (by decide +kernel) (by decide +kernel), tb_mem 1665 (by decide +kernel) (by decide +kernel), tb_mem 123 (by decide +kernel) (by decide +kernel), tb_mem 1666 (by decide +kernel) (by decide +kernel), by decide, by decide, by decide +kernel⟩
theorem dc_law_404 : decode code 404 = .ok (.invokevirtual 56, 3) := by decide +kernel
theorem dc_law_407 : decode code 407 = .ok (.if_icmp .eq 396, 3) := by decide +kernel
theorem dc_law_412 : decode code 412 = .ok (.aload_n 1, 1) := by decide +kernel
theorem dc_law_413 : decode code 413 = .ok (.aload_n 0, 1) := by decide +kernel
theorem dc_law_414 : decode code 414 = .ok (.iload_n 3, 1) := by decide +kernel
theorem dc_law_415 : decode code 415 = .ok (.iconst 1, 1) := by decide +kernel
theorem dc_law_416 : decode code 416 = .ok (.iadd, 1) := by decide +kernel
theorem dc_law_417 : decode code 417 = .ok (.iaload, 1) := by decide +kernel
theorem dc_law_418 : decode code 418 = .ok (.aload_n 0, 1) := by decide +kernel
theorem dc_law_419 : decode code 419 = .ok (.iload_n 3, 1) := by decide +kernel
theorem dc_law_420 : decode code 420 = .ok (.iconst 2, 1) := by decide +kernel
theorem dc_law_421 : decode code 421 = .ok (.iadd, 1) := by decide +kernel
theorem dc_law_422 : decode code 422 = .ok (.iaload, 1) := by decide +kernel
theorem ll_57 : Cond.methodLink R_law 57 m_Cp_form.1 ∈ lw_tbl := List.mem_of_getElem? (i := 1032) (by decide +kernel)
theorem lm_Cp_form : MIt m_Cp_form 2 := ⟨tb_mem 1033 (by decide +kernel) (by decide +kernel), tb_mem 1034 (by decide +kernel) (by decide +kernel), tb_mem 112 (by decide +kernel) (by decide +kernel), tb_mem 1035 (by decide +kernel) (by decide +kernel), by decide, by decide, by decide +kernel⟩
theorem dc_law_423 : decode code 423 = .ok (.invokevirtual 57, 3) := by decide +kernel
theorem dc_law_426 : decode code 426 = .ok (.aload_n 2, 1) := by decide +kernel
theorem dc_law_427 : decode code 427 = .ok (.aload_n 0, 1) := by decide +kernel
theorem dc_law_428 : decode code 428 = .ok (.iload_n 3, 1) := by decide +kernel
theorem dc_law_429 : decode code 429 = .ok (.iconst 1, 1) := by decide +kernel
theorem dc_law_430 : decode code 430 = .ok (.iadd, 1) := by decide +kernel
theorem dc_law_431 : decode code 431 = .ok (.iaload, 1) := by decide +kernel
theorem dc_law_432 : decode code 432 = .ok (.aload_n 0, 1) := by decide +kernel
theorem dc_law_433 : decode code 433 = .ok (.iload_n 3, 1) := by decide +kernel
theorem dc_law_434 : decode code 434 = .ok (.iconst 2, 1) := by decide +kernel
theorem dc_law_435 : decode code 435 = .ok (.iadd, 1) := by decide +kernel
theorem dc_law_436 : decode code 436 = .ok (.iaload, 1) := by decide +kernel
theorem ll_61 : Cond.methodLink R_law 61 m_Mo_form.1 ∈ lw_tbl := List.mem_of_getElem? (i := 1667) (by decide +kernel)
theorem lm_Mo_form : MIt m_Mo_form 2 := ⟨tb_mem 1668 (by decide +kernel) (by decide +kernel), tb_mem 1669 (by decide +kernel) (by decide +kernel), tb_mem 123 (by decide +kernel) (by decide +kernel), tb_mem 1670 (by decide +kernel) (by decide +kernel), by decide, by decide, by decide +kernel⟩
theorem dc_law_437 : decode code 437 = .ok (.invokevirtual 61, 3) := by decide +kernel
theorem dc_law_440 : decode code 440 = .ok (.if_icmp .eq 363, 3) := by decide +kernel
theorem dc_law_445 : decode code 445 = .ok (.aload_n 1, 1) := by decide +kernel
theorem dc_law_446 : decode code 446 = .ok (.aload_n 0, 1) := by decide +kernel
theorem dc_law_447 : decode code 447 = .ok (.iload_n 3, 1) := by decide +kernel
theorem dc_law_448 : decode code 448 = .ok (.iconst 1, 1) := by decide +kernel
theorem dc_law_449 : decode code 449 = .ok (.iadd, 1) := by decide +kernel
theorem dc_law_450 : decode code 450 = .ok (.iaload, 1) := by decide +kernel
theorem dc_law_451 : decode code 451 = .ok (.aload_n 0, 1) := by decide +kernel
theorem dc_law_452 : decode code 452 = .ok (.iload_n 3, 1) := by decide +kernel
theorem dc_law_453 : decode code 453 = .ok (.iconst 2, 1) := by decide +kernel
theorem dc_law_454 : decode code 454 = .ok (.iadd, 1) := by decide +kernel
theorem dc_law_455 : decode code 455 = .ok (.iaload, 1) := by decide +kernel
theorem dc_law_456 : decode code 456 = .ok (.aload_n 0, 1) := by decide +kernel
theorem dc_law_457 : decode code 457 = .ok (.iload_n 3, 1) := by decide +kernel
theorem dc_law_458 : decode code 458 = .ok (.iconst 3, 1) := by decide +kernel
theorem dc_law_459 : decode code 459 = .ok (.iadd, 1) := by decide +kernel
theorem dc_law_460 : decode code 460 = .ok (.iaload, 1) := by decide +kernel
theorem ll_62 : Cond.methodLink R_law 62 m_Cp_value.1 ∈ lw_tbl := List.mem_of_getElem? (i := 1087) (by decide +kernel)
theorem lm_Cp_value : MIt m_Cp_value 3 := ⟨tb_mem 1088 (by decide +kernel) (by decide +kernel), tb_mem 1089 (by decide +kernel) (by decide +kernel), tb_mem 112 (by decide +kernel) (by decide +kernel), tb_mem 1090 (by decide +kernel) (by decide +kernel), by decide, by decide, by decide +kernel⟩
theorem dc_law_461 : decode code 461 = .ok (.invokevirtual 62, 3) := by decide +kernel
theorem dc_law_464 : decode code 464 = .ok (.aload_n 2, 1) := by decide +kernel
theorem dc_law_465 : decode code 465 = .ok (.aload_n 0, 1) := by decide +kernel
theorem dc_law_466 : decode code 466 = .ok (.iload_n 3, 1) := by decide +kernel
theorem dc_law_467 : decode code 467 = .ok (.iconst 1, 1) := by decide +kernel
theorem dc_law_468 : decode code 468 = .ok (.iadd, 1) := by decide +kernel
theorem dc_law_469 : decode code 469 = .ok (.iaload, 1) := by decide +kernel
theorem dc_law_470 : decode code 470 = .ok (.aload_n 0, 1) := by decide +kernel
theorem dc_law_471 : decode code 471 = .ok (.iload_n 3, 1) := by decide +kernel
theorem dc_law_472 : decode code 472 = .ok (.iconst 2, 1) := by decide +kernel
theorem dc_law_473 : decode code 473 = .ok (.iadd, 1) := by decide +kernel
theorem dc_law_474 : decode code 474 = .ok (.iaload, 1) := by decide +kernel
theorem dc_law_475 : decode code 475 = .ok (.aload_n 0, 1) := by decide +kernel
theorem dc_law_476 : decode code 476 = .ok (.iload_n 3, 1) := by decide +kernel
theorem dc_law_477 : decode code 477 = .ok (.iconst 3, 1) := by decide +kernel
theorem dc_law_478 : decode code 478 = .ok (.iadd, 1) := by decide +kernel
theorem dc_law_479 : decode code 479 = .ok (.iaload, 1) := by decide +kernel
theorem ll_66 : Cond.methodLink R_law 66 m_Mo_value.1 ∈ lw_tbl := List.mem_of_getElem? (i := 1694) (by decide +kernel)
theorem lm_Mo_value : MIt m_Mo_value 3 := ⟨tb_mem 1695 (by decide +kernel) (by decide +kernel), tb_mem 1696 (by decide +kernel) (by decide +kernel), tb_mem 123 (by decide +kernel) (by decide +kernel), tb_mem 1697 (by decide +kernel) (by decide +kernel), by decide, by decide, by decide +kernel⟩
theorem dc_law_480 : decode code 480 = .ok (.invokevirtual 66, 3) := by decide +kernel
theorem dc_law_483 : decode code 483 = .ok (.if_icmp .eq 320, 3) := by decide +kernel
theorem dc_law_488 : decode code 488 = .ok (.aload_n 1, 1) := by decide +kernel
theorem dc_law_489 : decode code 489 = .ok (.aload_n 0, 1) := by decide +kernel
theorem dc_law_490 : decode code 490 = .ok (.iload_n 3, 1) := by decide +kernel
theorem dc_law_491 : decode code 491 = .ok (.iconst 1, 1) := by decide +kernel
theorem dc_law_492 : decode code 492 = .ok (.iadd, 1) := by decide +kernel
theorem dc_law_493 : decode code 493 = .ok (.iaload, 1) := by decide +kernel
theorem dc_law_494 : decode code 494 = .ok (.aload_n 0, 1) := by decide +kernel
theorem dc_law_495 : decode code 495 = .ok (.iload_n 3, 1) := by decide +kernel
theorem dc_law_496 : decode code 496 = .ok (.iconst 2, 1) := by decide +kernel
theorem dc_law_497 : decode code 497 = .ok (.iadd, 1) := by decide +kernel
theorem dc_law_498 : decode code 498 = .ok (.iaload, 1) := by decide +kernel
theorem ll_67 : Cond.methodLink R_law 67 m_Cp_bits.1 ∈ lw_tbl := List.mem_of_getElem? (i := 1091) (by decide +kernel)
theorem lm_Cp_bits : MIt m_Cp_bits 2 := ⟨tb_mem 1092 (by decide +kernel) (by decide +kernel), tb_mem 1093 (by decide +kernel) (by decide +kernel), tb_mem 112 (by decide +kernel) (by decide +kernel), tb_mem 1094 (by decide +kernel) (by decide +kernel), by decide, by decide, by decide +kernel⟩
theorem dc_law_499 : decode code 499 = .ok (.invokevirtual 67, 3) := by decide +kernel
theorem dc_law_502 : decode code 502 = .ok (.aload_n 2, 1) := by decide +kernel
theorem dc_law_503 : decode code 503 = .ok (.aload_n 0, 1) := by decide +kernel
theorem dc_law_504 : decode code 504 = .ok (.iload_n 3, 1) := by decide +kernel
theorem dc_law_505 : decode code 505 = .ok (.iconst 1, 1) := by decide +kernel
theorem dc_law_506 : decode code 506 = .ok (.iadd, 1) := by decide +kernel
theorem dc_law_507 : decode code 507 = .ok (.iaload, 1) := by decide +kernel
theorem dc_law_508 : decode code 508 = .ok (.aload_n 0, 1) := by decide +kernel
theorem dc_law_509 : decode code 509 = .ok (.iload_n 3, 1) := by decide +kernel
theorem dc_law_510 : decode code 510 = .ok (.iconst 2, 1) := by decide +kernel
theorem dc_law_511 : decode code 511 = .ok (.iadd, 1) := by decide +kernel
theorem dc_law_512 : decode code 512 = .ok (.iaload, 1) := by decide +kernel
theorem ll_71 : Cond.methodLink R_law 71 m_Mo_bits.1 ∈ lw_tbl := List.mem_of_getElem? (i := 1698) (by decide +kernel)
theorem lm_Mo_bits : MIt m_Mo_bits 2 := ⟨tb_mem 1699 (by decide +kernel) (by decide +kernel), tb_mem 1700 (by decide +kernel) (by decide +kernel), tb_mem 123 (by decide +kernel) (by decide +kernel), tb_mem 1701 (by decide +kernel) (by decide +kernel), by decide, by decide, by decide +kernel⟩
theorem dc_law_513 : decode code 513 = .ok (.invokevirtual 71, 3) := by decide +kernel
theorem dc_law_516 : decode code 516 = .ok (.lcmp, 1) := by decide +kernel
theorem dc_law_517 : decode code 517 = .ok (.ifCond .eq 286, 3) := by decide +kernel
theorem dc_law_522 : decode code 522 = .ok (.aload_n 1, 1) := by decide +kernel
theorem dc_law_523 : decode code 523 = .ok (.aload_n 0, 1) := by decide +kernel
theorem dc_law_524 : decode code 524 = .ok (.iload_n 3, 1) := by decide +kernel
theorem dc_law_525 : decode code 525 = .ok (.iconst 1, 1) := by decide +kernel
theorem dc_law_526 : decode code 526 = .ok (.iadd, 1) := by decide +kernel
theorem dc_law_527 : decode code 527 = .ok (.iaload, 1) := by decide +kernel
theorem dc_law_528 : decode code 528 = .ok (.aload_n 0, 1) := by decide +kernel
theorem dc_law_529 : decode code 529 = .ok (.iload_n 3, 1) := by decide +kernel
theorem dc_law_530 : decode code 530 = .ok (.iconst 2, 1) := by decide +kernel
theorem dc_law_531 : decode code 531 = .ok (.iadd, 1) := by decide +kernel
theorem dc_law_532 : decode code 532 = .ok (.iaload, 1) := by decide +kernel
theorem dc_law_533 : decode code 533 = .ok (.aload_n 0, 1) := by decide +kernel
theorem dc_law_534 : decode code 534 = .ok (.iload_n 3, 1) := by decide +kernel
theorem dc_law_535 : decode code 535 = .ok (.iconst 3, 1) := by decide +kernel
theorem dc_law_536 : decode code 536 = .ok (.iadd, 1) := by decide +kernel
theorem dc_law_537 : decode code 537 = .ok (.iaload, 1) := by decide +kernel
theorem dc_law_538 : decode code 538 = .ok (.aload_n 0, 1) := by decide +kernel
theorem dc_law_539 : decode code 539 = .ok (.iload_n 3, 1) := by decide +kernel
theorem dc_law_540 : decode code 540 = .ok (.iconst 4, 1) := by decide +kernel
theorem dc_law_541 : decode code 541 = .ok (.iadd, 1) := by decide +kernel
theorem dc_law_542 : decode code 542 = .ok (.iaload, 1) := by decide +kernel
theorem ll_72 : Cond.methodLink R_law 72 m_Cp_character.1 ∈ lw_tbl := List.mem_of_getElem? (i := 1095) (by decide +kernel)
theorem lm_Cp_character : MIt m_Cp_character 4 := ⟨tb_mem 1096 (by decide +kernel) (by decide +kernel), tb_mem 1097 (by decide +kernel) (by decide +kernel), tb_mem 112 (by decide +kernel) (by decide +kernel), tb_mem 1098 (by decide +kernel) (by decide +kernel), by decide, by decide, by decide +kernel⟩
theorem dc_law_543 : decode code 543 = .ok (.invokevirtual 72, 3) := by decide +kernel
theorem dc_law_546 : decode code 546 = .ok (.aload_n 2, 1) := by decide +kernel
theorem dc_law_547 : decode code 547 = .ok (.aload_n 0, 1) := by decide +kernel
theorem dc_law_548 : decode code 548 = .ok (.iload_n 3, 1) := by decide +kernel
theorem dc_law_549 : decode code 549 = .ok (.iconst 1, 1) := by decide +kernel
theorem dc_law_550 : decode code 550 = .ok (.iadd, 1) := by decide +kernel
theorem dc_law_551 : decode code 551 = .ok (.iaload, 1) := by decide +kernel
theorem dc_law_552 : decode code 552 = .ok (.aload_n 0, 1) := by decide +kernel
theorem dc_law_553 : decode code 553 = .ok (.iload_n 3, 1) := by decide +kernel
theorem dc_law_554 : decode code 554 = .ok (.iconst 2, 1) := by decide +kernel
theorem dc_law_555 : decode code 555 = .ok (.iadd, 1) := by decide +kernel
theorem dc_law_556 : decode code 556 = .ok (.iaload, 1) := by decide +kernel
theorem dc_law_557 : decode code 557 = .ok (.aload_n 0, 1) := by decide +kernel
theorem dc_law_558 : decode code 558 = .ok (.iload_n 3, 1) := by decide +kernel
theorem dc_law_559 : decode code 559 = .ok (.iconst 3, 1) := by decide +kernel
theorem dc_law_560 : decode code 560 = .ok (.iadd, 1) := by decide +kernel
theorem dc_law_561 : decode code 561 = .ok (.iaload, 1) := by decide +kernel
theorem dc_law_562 : decode code 562 = .ok (.aload_n 0, 1) := by decide +kernel
theorem dc_law_563 : decode code 563 = .ok (.iload_n 3, 1) := by decide +kernel
theorem dc_law_564 : decode code 564 = .ok (.iconst 4, 1) := by decide +kernel
theorem dc_law_565 : decode code 565 = .ok (.iadd, 1) := by decide +kernel
theorem dc_law_566 : decode code 566 = .ok (.iaload, 1) := by decide +kernel
theorem ll_76 : Cond.methodLink R_law 76 m_Mo_character.1 ∈ lw_tbl := List.mem_of_getElem? (i := 1702) (by decide +kernel)
theorem lm_Mo_character : MIt m_Mo_character 4 := ⟨tb_mem 1703 (by decide +kernel) (by decide +kernel), tb_mem 1704 (by decide +kernel) (by decide +kernel), tb_mem 123 (by decide +kernel) (by decide +kernel), tb_mem 1705 (by decide +kernel) (by decide +kernel), by decide, by decide, by decide +kernel⟩
theorem dc_law_567 : decode code 567 = .ok (.invokevirtual 76, 3) := by decide +kernel
theorem dc_law_570 : decode code 570 = .ok (.if_icmp .eq 233, 3) := by decide +kernel
theorem dc_law_575 : decode code 575 = .ok (.aload_n 1, 1) := by decide +kernel
theorem dc_law_576 : decode code 576 = .ok (.aload_n 0, 1) := by decide +kernel
theorem dc_law_577 : decode code 577 = .ok (.iload_n 3, 1) := by decide +kernel
theorem dc_law_578 : decode code 578 = .ok (.iconst 1, 1) := by decide +kernel
theorem dc_law_579 : decode code 579 = .ok (.iadd, 1) := by decide +kernel
theorem dc_law_580 : decode code 580 = .ok (.iaload, 1) := by decide +kernel
theorem ll_77 : Cond.methodLink R_law 77 m_Cp_point.1 ∈ lw_tbl := List.mem_of_getElem? (i := 1107) (by decide +kernel)
theorem lm_Cp_point : MIt m_Cp_point 1 := ⟨tb_mem 1108 (by decide +kernel) (by decide +kernel), tb_mem 1109 (by decide +kernel) (by decide +kernel), tb_mem 112 (by decide +kernel) (by decide +kernel), tb_mem 1110 (by decide +kernel) (by decide +kernel), by decide, by decide, by decide +kernel⟩
theorem dc_law_581 : decode code 581 = .ok (.invokevirtual 77, 3) := by decide +kernel
theorem dc_law_584 : decode code 584 = .ok (.aload_n 2, 1) := by decide +kernel
theorem dc_law_585 : decode code 585 = .ok (.aload_n 0, 1) := by decide +kernel
theorem dc_law_586 : decode code 586 = .ok (.iload_n 3, 1) := by decide +kernel
theorem dc_law_587 : decode code 587 = .ok (.iconst 1, 1) := by decide +kernel
theorem dc_law_588 : decode code 588 = .ok (.iadd, 1) := by decide +kernel
theorem dc_law_589 : decode code 589 = .ok (.iaload, 1) := by decide +kernel
theorem ll_80 : Cond.methodLink R_law 80 m_Mo_point.1 ∈ lw_tbl := List.mem_of_getElem? (i := 1706) (by decide +kernel)
theorem lm_Mo_point : MIt m_Mo_point 1 := ⟨tb_mem 1707 (by decide +kernel) (by decide +kernel), tb_mem 1708 (by decide +kernel) (by decide +kernel), tb_mem 123 (by decide +kernel) (by decide +kernel), tb_mem 1709 (by decide +kernel) (by decide +kernel), by decide, by decide, by decide +kernel⟩
theorem dc_law_590 : decode code 590 = .ok (.invokevirtual 80, 3) := by decide +kernel
theorem dc_law_593 : decode code 593 = .ok (.if_icmp .eq 210, 3) := by decide +kernel
theorem dc_law_598 : decode code 598 = .ok (.aload_n 1, 1) := by decide +kernel
theorem dc_law_599 : decode code 599 = .ok (.aload_n 0, 1) := by decide +kernel
theorem dc_law_600 : decode code 600 = .ok (.iload_n 3, 1) := by decide +kernel
theorem dc_law_601 : decode code 601 = .ok (.iconst 1, 1) := by decide +kernel
theorem dc_law_602 : decode code 602 = .ok (.iadd, 1) := by decide +kernel
theorem dc_law_603 : decode code 603 = .ok (.iaload, 1) := by decide +kernel
theorem dc_law_604 : decode code 604 = .ok (.aload_n 0, 1) := by decide +kernel
theorem dc_law_605 : decode code 605 = .ok (.iload_n 3, 1) := by decide +kernel
theorem dc_law_606 : decode code 606 = .ok (.iconst 2, 1) := by decide +kernel
theorem dc_law_607 : decode code 607 = .ok (.iadd, 1) := by decide +kernel
theorem dc_law_608 : decode code 608 = .ok (.iaload, 1) := by decide +kernel
theorem dc_law_609 : decode code 609 = .ok (.aload_n 0, 1) := by decide +kernel
theorem dc_law_610 : decode code 610 = .ok (.iload_n 3, 1) := by decide +kernel
theorem dc_law_611 : decode code 611 = .ok (.iconst 3, 1) := by decide +kernel
theorem dc_law_612 : decode code 612 = .ok (.iadd, 1) := by decide +kernel
theorem dc_law_613 : decode code 613 = .ok (.iaload, 1) := by decide +kernel
theorem dc_law_614 : decode code 614 = .ok (.aload_n 0, 1) := by decide +kernel
theorem dc_law_615 : decode code 615 = .ok (.iload_n 3, 1) := by decide +kernel
theorem dc_law_616 : decode code 616 = .ok (.iconst 4, 1) := by decide +kernel
theorem dc_law_617 : decode code 617 = .ok (.iadd, 1) := by decide +kernel
theorem dc_law_618 : decode code 618 = .ok (.iaload, 1) := by decide +kernel
theorem ll_81 : Cond.methodLink R_law 81 m_Cp_same.1 ∈ lw_tbl := List.mem_of_getElem? (i := 1148) (by decide +kernel)
theorem lm_Cp_same : MIt m_Cp_same 4 := ⟨tb_mem 1149 (by decide +kernel) (by decide +kernel), tb_mem 1150 (by decide +kernel) (by decide +kernel), tb_mem 112 (by decide +kernel) (by decide +kernel), tb_mem 1151 (by decide +kernel) (by decide +kernel), by decide, by decide, by decide +kernel⟩
theorem dc_law_619 : decode code 619 = .ok (.invokevirtual 81, 3) := by decide +kernel
theorem dc_law_622 : decode code 622 = .ok (.aload_n 2, 1) := by decide +kernel
theorem dc_law_623 : decode code 623 = .ok (.aload_n 0, 1) := by decide +kernel
theorem dc_law_624 : decode code 624 = .ok (.iload_n 3, 1) := by decide +kernel
theorem dc_law_625 : decode code 625 = .ok (.iconst 1, 1) := by decide +kernel
theorem dc_law_626 : decode code 626 = .ok (.iadd, 1) := by decide +kernel
theorem dc_law_627 : decode code 627 = .ok (.iaload, 1) := by decide +kernel
theorem dc_law_628 : decode code 628 = .ok (.aload_n 0, 1) := by decide +kernel
theorem dc_law_629 : decode code 629 = .ok (.iload_n 3, 1) := by decide +kernel
theorem dc_law_630 : decode code 630 = .ok (.iconst 2, 1) := by decide +kernel
theorem dc_law_631 : decode code 631 = .ok (.iadd, 1) := by decide +kernel
theorem dc_law_632 : decode code 632 = .ok (.iaload, 1) := by decide +kernel
theorem dc_law_633 : decode code 633 = .ok (.aload_n 0, 1) := by decide +kernel
theorem dc_law_634 : decode code 634 = .ok (.iload_n 3, 1) := by decide +kernel
theorem dc_law_635 : decode code 635 = .ok (.iconst 3, 1) := by decide +kernel
theorem dc_law_636 : decode code 636 = .ok (.iadd, 1) := by decide +kernel
theorem dc_law_637 : decode code 637 = .ok (.iaload, 1) := by decide +kernel
theorem dc_law_638 : decode code 638 = .ok (.aload_n 0, 1) := by decide +kernel
theorem dc_law_639 : decode code 639 = .ok (.iload_n 3, 1) := by decide +kernel
theorem dc_law_640 : decode code 640 = .ok (.iconst 4, 1) := by decide +kernel
theorem dc_law_641 : decode code 641 = .ok (.iadd, 1) := by decide +kernel
theorem dc_law_642 : decode code 642 = .ok (.iaload, 1) := by decide +kernel
theorem ll_84 : Cond.methodLink R_law 84 m_Mo_same.1 ∈ lw_tbl := List.mem_of_getElem? (i := 1718) (by decide +kernel)
theorem lm_Mo_same : MIt m_Mo_same 4 := ⟨tb_mem 1719 (by decide +kernel) (by decide +kernel), tb_mem 1720 (by decide +kernel) (by decide +kernel), tb_mem 123 (by decide +kernel) (by decide +kernel), tb_mem 1721 (by decide +kernel) (by decide +kernel), by decide, by decide, by decide +kernel⟩
theorem dc_law_643 : decode code 643 = .ok (.invokevirtual 84, 3) := by decide +kernel
theorem dc_law_646 : decode code 646 = .ok (.if_icmp .eq 157, 3) := by decide +kernel
theorem dc_law_651 : decode code 651 = .ok (.aload_n 1, 1) := by decide +kernel
theorem dc_law_652 : decode code 652 = .ok (.aload_n 0, 1) := by decide +kernel
theorem dc_law_653 : decode code 653 = .ok (.iload_n 3, 1) := by decide +kernel
theorem dc_law_654 : decode code 654 = .ok (.iconst 1, 1) := by decide +kernel
theorem dc_law_655 : decode code 655 = .ok (.iadd, 1) := by decide +kernel
theorem dc_law_656 : decode code 656 = .ok (.iaload, 1) := by decide +kernel
theorem dc_law_657 : decode code 657 = .ok (.aload_n 0, 1) := by decide +kernel
theorem dc_law_658 : decode code 658 = .ok (.iload_n 3, 1) := by decide +kernel
theorem dc_law_659 : decode code 659 = .ok (.iconst 2, 1) := by decide +kernel
theorem dc_law_660 : decode code 660 = .ok (.iadd, 1) := by decide +kernel
theorem dc_law_661 : decode code 661 = .ok (.iaload, 1) := by decide +kernel
theorem dc_law_662 : decode code 662 = .ok (.aload_n 0, 1) := by decide +kernel
theorem dc_law_663 : decode code 663 = .ok (.iload_n 3, 1) := by decide +kernel
theorem dc_law_664 : decode code 664 = .ok (.iconst 3, 1) := by decide +kernel
theorem dc_law_665 : decode code 665 = .ok (.iadd, 1) := by decide +kernel
theorem dc_law_666 : decode code 666 = .ok (.iaload, 1) := by decide +kernel
theorem ll_85 : Cond.methodLink R_law 85 m_Cp_merge.1 ∈ lw_tbl := List.mem_of_getElem? (i := 1169) (by decide +kernel)
theorem lm_Cp_merge : MIt m_Cp_merge 3 := ⟨tb_mem 1170 (by decide +kernel) (by decide +kernel), tb_mem 1171 (by decide +kernel) (by decide +kernel), tb_mem 112 (by decide +kernel) (by decide +kernel), tb_mem 1172 (by decide +kernel) (by decide +kernel), by decide, by decide, by decide +kernel⟩
theorem dc_law_667 : decode code 667 = .ok (.invokevirtual 85, 3) := by decide +kernel
theorem dc_law_670 : decode code 670 = .ok (.aload_n 2, 1) := by decide +kernel
theorem dc_law_671 : decode code 671 = .ok (.aload_n 0, 1) := by decide +kernel
theorem dc_law_672 : decode code 672 = .ok (.iload_n 3, 1) := by decide +kernel
theorem dc_law_673 : decode code 673 = .ok (.iconst 1, 1) := by decide +kernel
theorem dc_law_674 : decode code 674 = .ok (.iadd, 1) := by decide +kernel
theorem dc_law_675 : decode code 675 = .ok (.iaload, 1) := by decide +kernel
theorem dc_law_676 : decode code 676 = .ok (.aload_n 0, 1) := by decide +kernel
theorem dc_law_677 : decode code 677 = .ok (.iload_n 3, 1) := by decide +kernel
theorem dc_law_678 : decode code 678 = .ok (.iconst 2, 1) := by decide +kernel
theorem dc_law_679 : decode code 679 = .ok (.iadd, 1) := by decide +kernel
theorem dc_law_680 : decode code 680 = .ok (.iaload, 1) := by decide +kernel
theorem dc_law_681 : decode code 681 = .ok (.aload_n 0, 1) := by decide +kernel
theorem dc_law_682 : decode code 682 = .ok (.iload_n 3, 1) := by decide +kernel
theorem dc_law_683 : decode code 683 = .ok (.iconst 3, 1) := by decide +kernel
theorem dc_law_684 : decode code 684 = .ok (.iadd, 1) := by decide +kernel
theorem dc_law_685 : decode code 685 = .ok (.iaload, 1) := by decide +kernel
theorem ll_88 : Cond.methodLink R_law 88 m_Mo_merge.1 ∈ lw_tbl := List.mem_of_getElem? (i := 1734) (by decide +kernel)
theorem lm_Mo_merge : MIt m_Mo_merge 3 := ⟨tb_mem 1735 (by decide +kernel) (by decide +kernel), tb_mem 1736 (by decide +kernel) (by decide +kernel), tb_mem 123 (by decide +kernel) (by decide +kernel), tb_mem 1737 (by decide +kernel) (by decide +kernel), by decide, by decide, by decide +kernel⟩
theorem dc_law_686 : decode code 686 = .ok (.invokevirtual 88, 3) := by decide +kernel
theorem dc_law_689 : decode code 689 = .ok (.if_icmp .eq 114, 3) := by decide +kernel
theorem dc_law_694 : decode code 694 = .ok (.aload_n 1, 1) := by decide +kernel
theorem dc_law_695 : decode code 695 = .ok (.aload_n 0, 1) := by decide +kernel
theorem dc_law_696 : decode code 696 = .ok (.iload_n 3, 1) := by decide +kernel
theorem dc_law_697 : decode code 697 = .ok (.iconst 1, 1) := by decide +kernel
theorem dc_law_698 : decode code 698 = .ok (.iadd, 1) := by decide +kernel
theorem dc_law_699 : decode code 699 = .ok (.iaload, 1) := by decide +kernel
theorem dc_law_700 : decode code 700 = .ok (.aload_n 0, 1) := by decide +kernel
theorem dc_law_701 : decode code 701 = .ok (.iload_n 3, 1) := by decide +kernel
theorem dc_law_702 : decode code 702 = .ok (.iconst 2, 1) := by decide +kernel
theorem dc_law_703 : decode code 703 = .ok (.iadd, 1) := by decide +kernel
theorem dc_law_704 : decode code 704 = .ok (.iaload, 1) := by decide +kernel
theorem dc_law_705 : decode code 705 = .ok (.aload_n 0, 1) := by decide +kernel
theorem dc_law_706 : decode code 706 = .ok (.iload_n 3, 1) := by decide +kernel
theorem dc_law_707 : decode code 707 = .ok (.iconst 3, 1) := by decide +kernel
theorem dc_law_708 : decode code 708 = .ok (.iadd, 1) := by decide +kernel
theorem dc_law_709 : decode code 709 = .ok (.iaload, 1) := by decide +kernel
theorem ll_89 : Cond.methodLink R_law 89 m_Cp_patch.1 ∈ lw_tbl := List.mem_of_getElem? (i := 1210) (by decide +kernel)
theorem lm_Cp_patch : MIt m_Cp_patch 3 := ⟨tb_mem 1211 (by decide +kernel) (by decide +kernel), tb_mem 1212 (by decide +kernel) (by decide +kernel), tb_mem 112 (by decide +kernel) (by decide +kernel), tb_mem 1213 (by decide +kernel) (by decide +kernel), by decide, by decide, by decide +kernel⟩
theorem dc_law_710 : decode code 710 = .ok (.invokevirtual 89, 3) := by decide +kernel
theorem dc_law_713 : decode code 713 = .ok (.aload_n 2, 1) := by decide +kernel
theorem dc_law_714 : decode code 714 = .ok (.aload_n 0, 1) := by decide +kernel
theorem dc_law_715 : decode code 715 = .ok (.iload_n 3, 1) := by decide +kernel
theorem dc_law_716 : decode code 716 = .ok (.iconst 1, 1) := by decide +kernel
theorem dc_law_717 : decode code 717 = .ok (.iadd, 1) := by decide +kernel
theorem dc_law_718 : decode code 718 = .ok (.iaload, 1) := by decide +kernel
theorem dc_law_719 : decode code 719 = .ok (.aload_n 0, 1) := by decide +kernel
theorem dc_law_720 : decode code 720 = .ok (.iload_n 3, 1) := by decide +kernel
theorem dc_law_721 : decode code 721 = .ok (.iconst 2, 1) := by decide +kernel
theorem dc_law_722 : decode code 722 = .ok (.iadd, 1) := by decide +kernel
theorem dc_law_723 : decode code 723 = .ok (.iaload, 1) := by decide +kernel
theorem dc_law_724 : decode code 724 = .ok (.aload_n 0, 1) := by decide +kernel
theorem dc_law_725 : decode code 725 = .ok (.iload_n 3, 1) := by decide +kernel
theorem dc_law_726 : decode code 726 = .ok (.iconst 3, 1) := by decide +kernel
theorem dc_law_727 : decode code 727 = .ok (.iadd, 1) := by decide +kernel
theorem dc_law_728 : decode code 728 = .ok (.iaload, 1) := by decide +kernel
theorem ll_92 : Cond.methodLink R_law 92 m_Mo_patch.1 ∈ lw_tbl := List.mem_of_getElem? (i := 1766) (by decide +kernel)
theorem lm_Mo_patch : MIt m_Mo_patch 3 := ⟨tb_mem 1767 (by decide +kernel) (by decide +kernel), tb_mem 1768 (by decide +kernel) (by decide +kernel), tb_mem 123 (by decide +kernel) (by decide +kernel), tb_mem 1769 (by decide +kernel) (by decide +kernel), by decide, by decide, by decide +kernel⟩
theorem dc_law_729 : decode code 729 = .ok (.invokevirtual 92, 3) := by decide +kernel
theorem dc_law_732 : decode code 732 = .ok (.if_icmp .eq 71, 3) := by decide +kernel
theorem dc_law_737 : decode code 737 = .ok (.aload_n 1, 1) := by decide +kernel
theorem dc_law_738 : decode code 738 = .ok (.aload_n 0, 1) := by decide +kernel
theorem dc_law_739 : decode code 739 = .ok (.iload_n 3, 1) := by decide +kernel
theorem dc_law_740 : decode code 740 = .ok (.iconst 1, 1) := by decide +kernel
theorem dc_law_741 : decode code 741 = .ok (.iadd, 1) := by decide +kernel
theorem dc_law_742 : decode code 742 = .ok (.iaload, 1) := by decide +kernel
theorem dc_law_743 : decode code 743 = .ok (.aload_n 0, 1) := by decide +kernel
theorem dc_law_744 : decode code 744 = .ok (.iload_n 3, 1) := by decide +kernel
theorem dc_law_745 : decode code 745 = .ok (.iconst 2, 1) := by decide +kernel
theorem dc_law_746 : decode code 746 = .ok (.iadd, 1) := by decide +kernel
theorem dc_law_747 : decode code 747 = .ok (.iaload, 1) := by decide +kernel
theorem dc_law_748 : decode code 748 = .ok (.aload_n 0, 1) := by decide +kernel
theorem dc_law_749 : decode code 749 = .ok (.iload_n 3, 1) := by decide +kernel
theorem dc_law_750 : decode code 750 = .ok (.iconst 3, 1) := by decide +kernel
theorem dc_law_751 : decode code 751 = .ok (.iadd, 1) := by decide +kernel
theorem dc_law_752 : decode code 752 = .ok (.iaload, 1) := by decide +kernel
theorem ll_93 : Cond.methodLink R_law 93 m_Cp_part.1 ∈ lw_tbl := List.mem_of_getElem? (i := 1214) (by decide +kernel)
theorem lm_Cp_part : MIt m_Cp_part 3 := ⟨tb_mem 1215 (by decide +kernel) (by decide +kernel), tb_mem 1216 (by decide +kernel) (by decide +kernel), tb_mem 112 (by decide +kernel) (by decide +kernel), tb_mem 1217 (by decide +kernel) (by decide +kernel), by decide, by decide, by decide +kernel⟩
theorem dc_law_753 : decode code 753 = .ok (.invokevirtual 93, 3) := by decide +kernel
theorem dc_law_756 : decode code 756 = .ok (.aload_n 2, 1) := by decide +kernel
theorem dc_law_757 : decode code 757 = .ok (.aload_n 0, 1) := by decide +kernel
theorem dc_law_758 : decode code 758 = .ok (.iload_n 3, 1) := by decide +kernel
theorem dc_law_759 : decode code 759 = .ok (.iconst 1, 1) := by decide +kernel
theorem dc_law_760 : decode code 760 = .ok (.iadd, 1) := by decide +kernel
theorem dc_law_761 : decode code 761 = .ok (.iaload, 1) := by decide +kernel
theorem dc_law_762 : decode code 762 = .ok (.aload_n 0, 1) := by decide +kernel
theorem dc_law_763 : decode code 763 = .ok (.iload_n 3, 1) := by decide +kernel
theorem dc_law_764 : decode code 764 = .ok (.iconst 2, 1) := by decide +kernel
theorem dc_law_765 : decode code 765 = .ok (.iadd, 1) := by decide +kernel
theorem dc_law_766 : decode code 766 = .ok (.iaload, 1) := by decide +kernel
theorem dc_law_767 : decode code 767 = .ok (.aload_n 0, 1) := by decide +kernel
theorem dc_law_768 : decode code 768 = .ok (.iload_n 3, 1) := by decide +kernel
theorem dc_law_769 : decode code 769 = .ok (.iconst 3, 1) := by decide +kernel
theorem dc_law_770 : decode code 770 = .ok (.iadd, 1) := by decide +kernel
theorem dc_law_771 : decode code 771 = .ok (.iaload, 1) := by decide +kernel
theorem ll_96 : Cond.methodLink R_law 96 m_Mo_part.1 ∈ lw_tbl := List.mem_of_getElem? (i := 1774) (by decide +kernel)
theorem lm_Mo_part : MIt m_Mo_part 3 := ⟨tb_mem 1775 (by decide +kernel) (by decide +kernel), tb_mem 1776 (by decide +kernel) (by decide +kernel), tb_mem 123 (by decide +kernel) (by decide +kernel), tb_mem 1777 (by decide +kernel) (by decide +kernel), by decide, by decide, by decide +kernel⟩
theorem dc_law_772 : decode code 772 = .ok (.invokevirtual 96, 3) := by decide +kernel
theorem dc_law_775 : decode code 775 = .ok (.if_icmp .eq 28, 3) := by decide +kernel
theorem dc_law_780 : decode code 780 = .ok (.aload_n 1, 1) := by decide +kernel
theorem dc_law_781 : decode code 781 = .ok (.aload_n 0, 1) := by decide +kernel
theorem dc_law_782 : decode code 782 = .ok (.iload_n 3, 1) := by decide +kernel
theorem dc_law_783 : decode code 783 = .ok (.iconst 1, 1) := by decide +kernel
theorem dc_law_784 : decode code 784 = .ok (.iadd, 1) := by decide +kernel
theorem dc_law_785 : decode code 785 = .ok (.iaload, 1) := by decide +kernel
theorem ll_97 : Cond.methodLink R_law 97 m_Cp_about.1 ∈ lw_tbl := List.mem_of_getElem? (i := 1220) (by decide +kernel)
theorem lm_Cp_about : MIt m_Cp_about 1 := ⟨tb_mem 1221 (by decide +kernel) (by decide +kernel), tb_mem 1222 (by decide +kernel) (by decide +kernel), tb_mem 112 (by decide +kernel) (by decide +kernel), tb_mem 1223 (by decide +kernel) (by decide +kernel), by decide, by decide, by decide +kernel⟩
theorem dc_law_786 : decode code 786 = .ok (.invokevirtual 97, 3) := by decide +kernel
theorem dc_law_789 : decode code 789 = .ok (.aload_n 2, 1) := by decide +kernel
theorem dc_law_790 : decode code 790 = .ok (.aload_n 0, 1) := by decide +kernel
theorem dc_law_791 : decode code 791 = .ok (.iload_n 3, 1) := by decide +kernel
theorem dc_law_792 : decode code 792 = .ok (.iconst 1, 1) := by decide +kernel
theorem dc_law_793 : decode code 793 = .ok (.iadd, 1) := by decide +kernel
theorem dc_law_794 : decode code 794 = .ok (.iaload, 1) := by decide +kernel
theorem ll_100 : Cond.methodLink R_law 100 m_Mo_about.1 ∈ lw_tbl := List.mem_of_getElem? (i := 1778) (by decide +kernel)
theorem lm_Mo_about : MIt m_Mo_about 1 := ⟨tb_mem 1779 (by decide +kernel) (by decide +kernel), tb_mem 1780 (by decide +kernel) (by decide +kernel), tb_mem 123 (by decide +kernel) (by decide +kernel), tb_mem 1781 (by decide +kernel) (by decide +kernel), by decide, by decide, by decide +kernel⟩
theorem dc_law_795 : decode code 795 = .ok (.invokevirtual 100, 3) := by decide +kernel
theorem dc_law_798 : decode code 798 = .ok (.if_icmp .eq 5, 3) := by decide +kernel
theorem dc_law_18 : decode code 18 = .ok (.iload_n 3, 1) := by decide +kernel
theorem dc_law_19 : decode code 19 = .ok (.aload_n 0, 1) := by decide +kernel
theorem dc_law_20 : decode code 20 = .ok (.arraylength, 1) := by decide +kernel
theorem dc_law_21 : decode code 21 = .ok (.bipush 6, 2) := by decide +kernel
theorem dc_law_23 : decode code 23 = .ok (.isub, 1) := by decide +kernel
theorem dc_law_24 : decode code 24 = .ok (.if_icmp .gt 785, 3) := by decide +kernel
theorem dc_law_27 : decode code 27 = .ok (.aload_n 0, 1) := by decide +kernel
theorem dc_law_28 : decode code 28 = .ok (.iload_n 3, 1) := by decide +kernel
theorem dc_law_29 : decode code 29 = .ok (.iaload, 1) := by decide +kernel
theorem dc_law_30 : decode code 30 = .ok (.bipush 31, 2) := by decide +kernel
theorem dc_law_32 : decode code 32 = .ok (.iand, 1) := by decide +kernel
theorem dc_law_33 : decode code 33 = .ok (.tableswitch 770 0 18 #[91, 154, 177, 190, 204, 257, 320, 343, 366, 379, 412, 455, 489, 542, 565, 618, 661, 704, 747], 91) := by decide +kernel
theorem dc_law_803 : decode code 803 = .ok (.iinc 3 6, 3) := by decide +kernel
theorem dc_law_806 : decode code 806 = .ok (.goto (-788), 3) := by decide +kernel
theorem dc_law_809 : decode code 809 = .ok (.iconst 1, 1) := by decide +kernel
theorem dc_law_810 : decode code 810 = .ok (.ireturn, 1) := by decide +kernel
theorem dc_law_0 : decode code 0 = .ok (.new 7, 3) := by decide +kernel
theorem dc_law_3 : decode code 3 = .ok (.dup, 1) := by decide +kernel
theorem dc_law_4 : decode code 4 = .ok (.invokespecial 9, 3) := by decide +kernel
theorem dc_law_7 : decode code 7 = .ok (.astore_n 1, 1) := by decide +kernel
theorem dc_law_8 : decode code 8 = .ok (.new 10, 3) := by decide +kernel
theorem dc_law_11 : decode code 11 = .ok (.dup, 1) := by decide +kernel
theorem dc_law_12 : decode code 12 = .ok (.invokespecial 12, 3) := by decide +kernel
theorem dc_law_15 : decode code 15 = .ok (.astore_n 2, 1) := by decide +kernel
theorem dc_law_16 : decode code 16 = .ok (.iconst 0, 1) := by decide +kernel
theorem dc_law_17 : decode code 17 = .ok (.istore_n 3, 1) := by decide +kernel
