theorem dL_cell_0 : decode cL_cell 0 = .ok (.iload_n 1, 1) := by decide +kernel
theorem dL_cell_1 : decode cL_cell 1 = .ok (.aload_n 0, 1) := by decide +kernel
theorem dL_cell_2 : decode cL_cell 2 = .ok (.arraylength, 1) := by decide +kernel
theorem dL_cell_3 : decode cL_cell 3 = .ok (.if_icmp .ge 9, 3) := by decide +kernel
theorem dL_cell_6 : decode cL_cell 6 = .ok (.aload_n 0, 1) := by decide +kernel
theorem dL_cell_7 : decode cL_cell 7 = .ok (.iload_n 1, 1) := by decide +kernel
theorem dL_cell_8 : decode cL_cell 8 = .ok (.iaload, 1) := by decide +kernel
theorem dL_cell_9 : decode cL_cell 9 = .ok (.goto 11, 3) := by decide +kernel
theorem dL_cell_12 : decode cL_cell 12 = .ok (.ldc 7, 2) := by decide +kernel
theorem dL_cell_14 : decode cL_cell 14 = .ok (.iload_n 1, 1) := by decide +kernel
theorem dL_cell_15 : decode cL_cell 15 = .ok (.imul, 1) := by decide +kernel
theorem dL_cell_16 : decode cL_cell 16 = .ok (.sipush 977, 3) := by decide +kernel
theorem dL_cell_19 : decode cL_cell 19 = .ok (.iadd, 1) := by decide +kernel
theorem dL_cell_20 : decode cL_cell 20 = .ok (.ireturn, 1) := by decide +kernel
theorem dL_low_0 : decode cL_low 0 = .ok (.iload_n 0, 1) := by decide +kernel
theorem dL_low_1 : decode cL_low 1 = .ok (.ldc 8, 2) := by decide +kernel
theorem dL_low_3 : decode cL_low 3 = .ok (.iand, 1) := by decide +kernel
theorem dL_low_4 : decode cL_low 4 = .ok (.iload_n 1, 1) := by decide +kernel
theorem dL_low_5 : decode cL_low 5 = .ok (.irem, 1) := by decide +kernel
theorem dL_low_6 : decode cL_low 6 = .ok (.ireturn, 1) := by decide +kernel
theorem dL_change_0 : decode cL_change 0 = .ok (.aload_n 0, 1) := by decide +kernel
theorem dL_change_1 : decode cL_change 1 = .ok (.iconst 0, 1) := by decide +kernel
theorem dL_change_2 : decode cL_change 2 = .ok (.invokevirtual 9, 3) := by decide +kernel
theorem dL_change_5 : decode cL_change 5 = .ok (.istore_n 3, 1) := by decide +kernel
theorem dL_change_6 : decode cL_change 6 = .ok (.aload_n 0, 1) := by decide +kernel
theorem dL_change_7 : decode cL_change 7 = .ok (.iconst 2, 1) := by decide +kernel
theorem dL_change_8 : decode cL_change 8 = .ok (.invokevirtual 9, 3) := by decide +kernel
theorem dL_change_11 : decode cL_change 11 = .ok (.istore 4, 2) := by decide +kernel
theorem dL_change_13 : decode cL_change 13 = .ok (.iconst 0, 1) := by decide +kernel
theorem dL_change_14 : decode cL_change 14 = .ok (.istore 5, 2) := by decide +kernel
theorem dL_change_16 : decode cL_change 16 = .ok (.iload_n 1, 1) := by decide +kernel
theorem dL_change_17 : decode cL_change 17 = .ok (.bipush 12, 2) := by decide +kernel
theorem dL_change_19 : decode cL_change 19 = .ok (.invokestatic 15, 3) := by decide +kernel
theorem dL_change_22 : decode cL_change 22 = .ok (.tableswitch 393 0 9 #[54, 100, 100, 154, 154, 210, 249, 291, 320, 361], 54) := by decide +kernel
theorem dL_change_76 : decode cL_change 76 = .ok (.aload_n 0, 1) := by decide +kernel
theorem dL_change_77 : decode cL_change 77 = .ok (.iconst 1, 1) := by decide +kernel
theorem dL_change_78 : decode cL_change 78 = .ok (.iload_n 2, 1) := by decide +kernel
theorem dL_change_79 : decode cL_change 79 = .ok (.bipush 40, 2) := by decide +kernel
theorem dL_change_81 : decode cL_change 81 = .ok (.invokestatic 15, 3) := by decide +kernel
theorem dL_change_84 : decode cL_change 84 = .ok (.iadd, 1) := by decide +kernel
theorem dL_change_85 : decode cL_change 85 = .ok (.invokevirtual 21, 3) := by decide +kernel
theorem dL_change_88 : decode cL_change 88 = .ok (.iload_n 3, 1) := by decide +kernel
theorem dL_change_89 : decode cL_change 89 = .ok (.if_icmp .ne 31, 3) := by decide +kernel
theorem dL_change_92 : decode cL_change 92 = .ok (.aload_n 0, 1) := by decide +kernel
theorem dL_change_93 : decode cL_change 93 = .ok (.iconst 0, 1) := by decide +kernel
theorem dL_change_94 : decode cL_change 94 = .ok (.invokevirtual 9, 3) := by decide +kernel
theorem dL_change_97 : decode cL_change 97 = .ok (.iconst 1, 1) := by decide +kernel
theorem dL_change_98 : decode cL_change 98 = .ok (.iload_n 2, 1) := by decide +kernel
theorem dL_change_99 : decode cL_change 99 = .ok (.bipush 40, 2) := by decide +kernel
theorem dL_change_101 : decode cL_change 101 = .ok (.invokestatic 15, 3) := by decide +kernel
theorem dL_change_104 : decode cL_change 104 = .ok (.iadd, 1) := by decide +kernel
theorem dL_change_105 : decode cL_change 105 = .ok (.if_icmp .ne 15, 3) := by decide +kernel
theorem dL_change_108 : decode cL_change 108 = .ok (.aload_n 0, 1) := by decide +kernel
theorem dL_change_109 : decode cL_change 109 = .ok (.iconst 1, 1) := by decide +kernel
theorem dL_change_110 : decode cL_change 110 = .ok (.invokevirtual 9, 3) := by decide +kernel
theorem dL_change_113 : decode cL_change 113 = .ok (.ifCond .ne 7, 3) := by decide +kernel
theorem dL_change_116 : decode cL_change 116 = .ok (.iconst 1, 1) := by decide +kernel
theorem dL_change_117 : decode cL_change 117 = .ok (.goto 4, 3) := by decide +kernel
theorem dL_change_120 : decode cL_change 120 = .ok (.iconst 0, 1) := by decide +kernel
theorem dL_change_121 : decode cL_change 121 = .ok (.ireturn, 1) := by decide +kernel
theorem dL_change_122 : decode cL_change 122 = .ok (.aload_n 0, 1) := by decide +kernel
theorem dL_change_123 : decode cL_change 123 = .ok (.iload_n 2, 1) := by decide +kernel
theorem dL_change_124 : decode cL_change 124 = .ok (.iload_n 3, 1) := by decide +kernel
theorem dL_change_125 : decode cL_change 125 = .ok (.invokestatic 15, 3) := by decide +kernel
theorem dL_change_128 : decode cL_change 128 = .ok (.iconst 0, 1) := by decide +kernel
theorem dL_change_129 : decode cL_change 129 = .ok (.invokevirtual 24, 3) := by decide +kernel
theorem dL_change_132 : decode cL_change 132 = .ok (.istore 5, 2) := by decide +kernel
theorem dL_change_134 : decode cL_change 134 = .ok (.aload_n 0, 1) := by decide +kernel
theorem dL_change_135 : decode cL_change 135 = .ok (.iload_n 2, 1) := by decide +kernel
theorem dL_change_136 : decode cL_change 136 = .ok (.iload_n 3, 1) := by decide +kernel
theorem dL_change_137 : decode cL_change 137 = .ok (.invokestatic 15, 3) := by decide +kernel
theorem dL_change_140 : decode cL_change 140 = .ok (.iload_n 2, 1) := by decide +kernel
theorem dL_change_141 : decode cL_change 141 = .ok (.bipush 6, 2) := by decide +kernel
theorem dL_change_143 : decode cL_change 143 = .ok (.ishr, 1) := by decide +kernel
theorem dL_change_144 : decode cL_change 144 = .ok (.sipush 4096, 3) := by decide +kernel
theorem dL_change_147 : decode cL_change 147 = .ok (.invokestatic 15, 3) := by decide +kernel
theorem dL_change_150 : decode cL_change 150 = .ok (.sipush 2048, 3) := by decide +kernel
theorem dL_change_153 : decode cL_change 153 = .ok (.isub, 1) := by decide +kernel
theorem dL_change_154 : decode cL_change 154 = .ok (.invokevirtual 27, 3) := by decide +kernel
theorem dL_change_157 : decode cL_change 157 = .ok (.iload 5, 2) := by decide +kernel
theorem dL_change_159 : decode cL_change 159 = .ok (.if_icmp .ne 15, 3) := by decide +kernel
theorem dL_change_162 : decode cL_change 162 = .ok (.aload_n 0, 1) := by decide +kernel
theorem dL_change_163 : decode cL_change 163 = .ok (.iconst 1, 1) := by decide +kernel
theorem dL_change_164 : decode cL_change 164 = .ok (.invokevirtual 9, 3) := by decide +kernel
theorem dL_change_167 : decode cL_change 167 = .ok (.ifCond .ne 7, 3) := by decide +kernel
theorem dL_change_170 : decode cL_change 170 = .ok (.iconst 1, 1) := by decide +kernel
theorem dL_change_171 : decode cL_change 171 = .ok (.goto 4, 3) := by decide +kernel
theorem dL_change_174 : decode cL_change 174 = .ok (.iconst 0, 1) := by decide +kernel
theorem dL_change_175 : decode cL_change 175 = .ok (.ireturn, 1) := by decide +kernel
theorem dL_change_176 : decode cL_change 176 = .ok (.aload_n 0, 1) := by decide +kernel
theorem dL_change_177 : decode cL_change 177 = .ok (.iload_n 2, 1) := by decide +kernel
theorem dL_change_178 : decode cL_change 178 = .ok (.iconst 3, 1) := by decide +kernel
theorem dL_change_179 : decode cL_change 179 = .ok (.invokestatic 15, 3) := by decide +kernel
theorem dL_change_182 : decode cL_change 182 = .ok (.iload_n 2, 1) := by decide +kernel
theorem dL_change_183 : decode cL_change 183 = .ok (.iconst 2, 1) := by decide +kernel
theorem dL_change_184 : decode cL_change 184 = .ok (.ishr, 1) := by decide +kernel
theorem dL_change_185 : decode cL_change 185 = .ok (.sipush 2048, 3) := by decide +kernel
theorem dL_change_188 : decode cL_change 188 = .ok (.invokestatic 15, 3) := by decide +kernel
theorem dL_change_191 : decode cL_change 191 = .ok (.iconst 1, 1) := by decide +kernel
theorem dL_change_192 : decode cL_change 192 = .ok (.iload_n 2, 1) := by decide +kernel
theorem dL_change_193 : decode cL_change 193 = .ok (.bipush 13, 2) := by decide +kernel
theorem dL_change_195 : decode cL_change 195 = .ok (.ishr, 1) := by decide +kernel
theorem dL_change_196 : decode cL_change 196 = .ok (.bipush 40, 2) := by decide +kernel
theorem dL_change_198 : decode cL_change 198 = .ok (.invokestatic 15, 3) := by decide +kernel
theorem dL_change_201 : decode cL_change 201 = .ok (.iadd, 1) := by decide +kernel
theorem dL_change_202 : decode cL_change 202 = .ok (.invokevirtual 30, 3) := by decide +kernel
theorem dL_change_205 : decode cL_change 205 = .ok (.istore 5, 2) := by decide +kernel
theorem dL_change_207 : decode cL_change 207 = .ok (.iload 5, 2) := by decide +kernel
theorem dL_change_209 : decode cL_change 209 = .ok (.ifCond .lt 21, 3) := by decide +kernel
theorem dL_change_212 : decode cL_change 212 = .ok (.iload 5, 2) := by decide +kernel
theorem dL_change_214 : decode cL_change 214 = .ok (.iload_n 3, 1) := by decide +kernel
theorem dL_change_215 : decode cL_change 215 = .ok (.if_icmp .gt 15, 3) := by decide +kernel
theorem dL_change_218 : decode cL_change 218 = .ok (.aload_n 0, 1) := by decide +kernel
theorem dL_change_219 : decode cL_change 219 = .ok (.iconst 1, 1) := by decide +kernel
theorem dL_change_220 : decode cL_change 220 = .ok (.invokevirtual 9, 3) := by decide +kernel
theorem dL_change_223 : decode cL_change 223 = .ok (.ifCond .ne 7, 3) := by decide +kernel
theorem dL_change_226 : decode cL_change 226 = .ok (.iconst 1, 1) := by decide +kernel
theorem dL_change_227 : decode cL_change 227 = .ok (.goto 4, 3) := by decide +kernel
theorem dL_change_230 : decode cL_change 230 = .ok (.iconst 0, 1) := by decide +kernel
theorem dL_change_231 : decode cL_change 231 = .ok (.ireturn, 1) := by decide +kernel
theorem dL_change_232 : decode cL_change 232 = .ok (.aload_n 0, 1) := by decide +kernel
theorem dL_change_233 : decode cL_change 233 = .ok (.iconst 0, 1) := by decide +kernel
theorem dL_change_234 : decode cL_change 234 = .ok (.invokevirtual 34, 3) := by decide +kernel
theorem dL_change_237 : decode cL_change 237 = .ok (.istore 5, 2) := by decide +kernel
theorem dL_change_239 : decode cL_change 239 = .ok (.aload_n 0, 1) := by decide +kernel
theorem dL_change_240 : decode cL_change 240 = .ok (.iconst 0, 1) := by decide +kernel
theorem dL_change_241 : decode cL_change 241 = .ok (.iconst 2, 1) := by decide +kernel
theorem dL_change_242 : decode cL_change 242 = .ok (.iload_n 2, 1) := by decide +kernel
theorem dL_change_243 : decode cL_change 243 = .ok (.bipush 15, 2) := by decide +kernel
theorem dL_change_245 : decode cL_change 245 = .ok (.invokestatic 15, 3) := by decide +kernel
theorem dL_change_248 : decode cL_change 248 = .ok (.iadd, 1) := by decide +kernel
theorem dL_change_249 : decode cL_change 249 = .ok (.invokevirtual 37, 3) := by decide +kernel
theorem dL_change_252 : decode cL_change 252 = .ok (.iload 5, 2) := by decide +kernel
theorem dL_change_254 : decode cL_change 254 = .ok (.if_icmp .ne 15, 3) := by decide +kernel
theorem dL_change_257 : decode cL_change 257 = .ok (.aload_n 0, 1) := by decide +kernel
theorem dL_change_258 : decode cL_change 258 = .ok (.iconst 1, 1) := by decide +kernel
theorem dL_change_259 : decode cL_change 259 = .ok (.invokevirtual 9, 3) := by decide +kernel
theorem dL_change_262 : decode cL_change 262 = .ok (.ifCond .ne 7, 3) := by decide +kernel
theorem dL_change_265 : decode cL_change 265 = .ok (.iconst 1, 1) := by decide +kernel
theorem dL_change_266 : decode cL_change 266 = .ok (.goto 4, 3) := by decide +kernel
theorem dL_change_269 : decode cL_change 269 = .ok (.iconst 0, 1) := by decide +kernel
theorem dL_change_270 : decode cL_change 270 = .ok (.ireturn, 1) := by decide +kernel
theorem dL_change_271 : decode cL_change 271 = .ok (.aload_n 0, 1) := by decide +kernel
theorem dL_change_272 : decode cL_change 272 = .ok (.iconst 1, 1) := by decide +kernel
theorem dL_change_273 : decode cL_change 273 = .ok (.iload_n 2, 1) := by decide +kernel
theorem dL_change_274 : decode cL_change 274 = .ok (.iconst 1, 1) := by decide +kernel
theorem dL_change_275 : decode cL_change 275 = .ok (.iand, 1) := by decide +kernel
theorem dL_change_276 : decode cL_change 276 = .ok (.iadd, 1) := by decide +kernel
theorem dL_change_277 : decode cL_change 277 = .ok (.invokevirtual 34, 3) := by decide +kernel
theorem dL_change_280 : decode cL_change 280 = .ok (.istore 5, 2) := by decide +kernel
theorem dL_change_282 : decode cL_change 282 = .ok (.aload_n 0, 1) := by decide +kernel
theorem dL_change_283 : decode cL_change 283 = .ok (.iconst 1, 1) := by decide +kernel
theorem dL_change_284 : decode cL_change 284 = .ok (.iload_n 2, 1) := by decide +kernel
theorem dL_change_285 : decode cL_change 285 = .ok (.iconst 1, 1) := by decide +kernel
theorem dL_change_286 : decode cL_change 286 = .ok (.iand, 1) := by decide +kernel
theorem dL_change_287 : decode cL_change 287 = .ok (.iadd, 1) := by decide +kernel
theorem dL_change_288 : decode cL_change 288 = .ok (.iload_n 2, 1) := by decide +kernel
theorem dL_change_289 : decode cL_change 289 = .ok (.iconst 1, 1) := by decide +kernel
theorem dL_change_290 : decode cL_change 290 = .ok (.ishr, 1) := by decide +kernel
theorem dL_change_291 : decode cL_change 291 = .ok (.iconst 2, 1) := by decide +kernel
theorem dL_change_292 : decode cL_change 292 = .ok (.iload_n 2, 1) := by decide +kernel
theorem dL_change_293 : decode cL_change 293 = .ok (.iconst 1, 1) := by decide +kernel
theorem dL_change_294 : decode cL_change 294 = .ok (.iand, 1) := by decide +kernel
theorem dL_change_295 : decode cL_change 295 = .ok (.iadd, 1) := by decide +kernel
theorem dL_change_296 : decode cL_change 296 = .ok (.invokestatic 15, 3) := by decide +kernel
theorem dL_change_299 : decode cL_change 299 = .ok (.invokevirtual 37, 3) := by decide +kernel
theorem dL_change_302 : decode cL_change 302 = .ok (.iload 5, 2) := by decide +kernel
theorem dL_change_304 : decode cL_change 304 = .ok (.if_icmp .ne 7, 3) := by decide +kernel
theorem dL_change_307 : decode cL_change 307 = .ok (.iconst 1, 1) := by decide +kernel
theorem dL_change_308 : decode cL_change 308 = .ok (.goto 4, 3) := by decide +kernel
theorem dL_change_311 : decode cL_change 311 = .ok (.iconst 0, 1) := by decide +kernel
theorem dL_change_312 : decode cL_change 312 = .ok (.ireturn, 1) := by decide +kernel
theorem dL_change_313 : decode cL_change 313 = .ok (.iload 4, 2) := by decide +kernel
theorem dL_change_315 : decode cL_change 315 = .ok (.ifCond .eq 21, 3) := by decide +kernel
theorem dL_change_318 : decode cL_change 318 = .ok (.aload_n 0, 1) := by decide +kernel
theorem dL_change_319 : decode cL_change 319 = .ok (.iload_n 2, 1) := by decide +kernel
theorem dL_change_320 : decode cL_change 320 = .ok (.iload 4, 2) := by decide +kernel
theorem dL_change_322 : decode cL_change 322 = .ok (.invokestatic 15, 3) := by decide +kernel
theorem dL_change_325 : decode cL_change 325 = .ok (.invokevirtual 40, 3) := by decide +kernel
theorem dL_change_328 : decode cL_change 328 = .ok (.aload_n 0, 1) := by decide +kernel
theorem dL_change_329 : decode cL_change 329 = .ok (.iconst 3, 1) := by decide +kernel
theorem dL_change_330 : decode cL_change 330 = .ok (.invokevirtual 9, 3) := by decide +kernel
theorem dL_change_333 : decode cL_change 333 = .ok (.if_icmp .ne 7, 3) := by decide +kernel
theorem dL_change_336 : decode cL_change 336 = .ok (.iconst 1, 1) := by decide +kernel
theorem dL_change_337 : decode cL_change 337 = .ok (.goto 4, 3) := by decide +kernel
theorem dL_change_340 : decode cL_change 340 = .ok (.iconst 0, 1) := by decide +kernel
theorem dL_change_341 : decode cL_change 341 = .ok (.ireturn, 1) := by decide +kernel
theorem dL_change_342 : decode cL_change 342 = .ok (.iload_n 2, 1) := by decide +kernel
theorem dL_change_343 : decode cL_change 343 = .ok (.iload_n 3, 1) := by decide +kernel
theorem dL_change_344 : decode cL_change 344 = .ok (.invokestatic 15, 3) := by decide +kernel
theorem dL_change_347 : decode cL_change 347 = .ok (.istore 6, 2) := by decide +kernel
theorem dL_change_349 : decode cL_change 349 = .ok (.aload_n 0, 1) := by decide +kernel
theorem dL_change_350 : decode cL_change 350 = .ok (.iload 6, 2) := by decide +kernel
theorem dL_change_352 : decode cL_change 352 = .ok (.iconst 3, 1) := by decide +kernel
theorem dL_change_353 : decode cL_change 353 = .ok (.invokevirtual 24, 3) := by decide +kernel
theorem dL_change_356 : decode cL_change 356 = .ok (.iconst (-1), 1) := by decide +kernel
theorem dL_change_357 : decode cL_change 357 = .ok (.if_icmp .eq 20, 3) := by decide +kernel
theorem dL_change_360 : decode cL_change 360 = .ok (.aload_n 0, 1) := by decide +kernel
theorem dL_change_361 : decode cL_change 361 = .ok (.iload 6, 2) := by decide +kernel
theorem dL_change_363 : decode cL_change 363 = .ok (.iload_n 2, 1) := by decide +kernel
theorem dL_change_364 : decode cL_change 364 = .ok (.bipush 6, 2) := by decide +kernel
theorem dL_change_366 : decode cL_change 366 = .ok (.ishr, 1) := by decide +kernel
theorem dL_change_367 : decode cL_change 367 = .ok (.iconst 4, 1) := by decide +kernel
theorem dL_change_368 : decode cL_change 368 = .ok (.invokestatic 15, 3) := by decide +kernel
theorem dL_change_371 : decode cL_change 371 = .ok (.invokestatic 43, 3) := by decide +kernel
theorem dL_change_374 : decode cL_change 374 = .ok (.ifCond .eq 7, 3) := by decide +kernel
theorem dL_change_377 : decode cL_change 377 = .ok (.iconst 1, 1) := by decide +kernel
theorem dL_change_378 : decode cL_change 378 = .ok (.goto 4, 3) := by decide +kernel
theorem dL_change_381 : decode cL_change 381 = .ok (.iconst 0, 1) := by decide +kernel
theorem dL_change_382 : decode cL_change 382 = .ok (.ireturn, 1) := by decide +kernel
theorem dL_change_383 : decode cL_change 383 = .ok (.iload 4, 2) := by decide +kernel
theorem dL_change_385 : decode cL_change 385 = .ok (.ifCond .eq 24, 3) := by decide +kernel
theorem dL_change_388 : decode cL_change 388 = .ok (.aload_n 0, 1) := by decide +kernel
theorem dL_change_389 : decode cL_change 389 = .ok (.iload_n 2, 1) := by decide +kernel
theorem dL_change_390 : decode cL_change 390 = .ok (.iload 4, 2) := by decide +kernel
theorem dL_change_392 : decode cL_change 392 = .ok (.invokestatic 15, 3) := by decide +kernel
theorem dL_change_395 : decode cL_change 395 = .ok (.iload_n 2, 1) := by decide +kernel
theorem dL_change_396 : decode cL_change 396 = .ok (.iconst 5, 1) := by decide +kernel
theorem dL_change_397 : decode cL_change 397 = .ok (.ishr, 1) := by decide +kernel
theorem dL_change_398 : decode cL_change 398 = .ok (.iload 4, 2) := by decide +kernel
theorem dL_change_400 : decode cL_change 400 = .ok (.invokestatic 15, 3) := by decide +kernel
theorem dL_change_403 : decode cL_change 403 = .ok (.invokestatic 47, 3) := by decide +kernel
theorem dL_change_406 : decode cL_change 406 = .ok (.ifCond .eq 7, 3) := by decide +kernel
theorem dL_change_409 : decode cL_change 409 = .ok (.iconst 1, 1) := by decide +kernel
theorem dL_change_410 : decode cL_change 410 = .ok (.goto 4, 3) := by decide +kernel
theorem dL_change_413 : decode cL_change 413 = .ok (.iconst 0, 1) := by decide +kernel
theorem dL_change_414 : decode cL_change 414 = .ok (.ireturn, 1) := by decide +kernel
theorem dL_change_415 : decode cL_change 415 = .ok (.aload_n 0, 1) := by decide +kernel
theorem dL_change_416 : decode cL_change 416 = .ok (.bipush 9, 2) := by decide +kernel
theorem dL_change_418 : decode cL_change 418 = .ok (.invokevirtual 9, 3) := by decide +kernel
theorem dL_change_421 : decode cL_change 421 = .ok (.istore 5, 2) := by decide +kernel
theorem dL_change_423 : decode cL_change 423 = .ok (.iload_n 3, 1) := by decide +kernel
theorem dL_change_424 : decode cL_change 424 = .ok (.aload_n 0, 1) := by decide +kernel
theorem dL_change_425 : decode cL_change 425 = .ok (.iconst 0, 1) := by decide +kernel
theorem dL_change_426 : decode cL_change 426 = .ok (.invokevirtual 34, 3) := by decide +kernel
theorem dL_change_429 : decode cL_change 429 = .ok (.iadd, 1) := by decide +kernel
theorem dL_change_430 : decode cL_change 430 = .ok (.iconst 1, 1) := by decide +kernel
theorem dL_change_431 : decode cL_change 431 = .ok (.isub, 1) := by decide +kernel
theorem dL_change_432 : decode cL_change 432 = .ok (.aload_n 0, 1) := by decide +kernel
theorem dL_change_433 : decode cL_change 433 = .ok (.iconst 0, 1) := by decide +kernel
theorem dL_change_434 : decode cL_change 434 = .ok (.invokevirtual 34, 3) := by decide +kernel
theorem dL_change_437 : decode cL_change 437 = .ok (.idiv, 1) := by decide +kernel
theorem dL_change_438 : decode cL_change 438 = .ok (.istore 4, 2) := by decide +kernel
theorem dL_change_440 : decode cL_change 440 = .ok (.aload_n 0, 1) := by decide +kernel
theorem dL_change_441 : decode cL_change 441 = .ok (.invokevirtual 50, 3) := by decide +kernel
theorem dL_change_444 : decode cL_change 444 = .ok (.iload 4, 2) := by decide +kernel
theorem dL_change_446 : decode cL_change 446 = .ok (.if_icmp .ne 35, 3) := by decide +kernel
theorem dL_change_449 : decode cL_change 449 = .ok (.aload_n 0, 1) := by decide +kernel
theorem dL_change_450 : decode cL_change 450 = .ok (.bipush 9, 2) := by decide +kernel
theorem dL_change_452 : decode cL_change 452 = .ok (.invokevirtual 9, 3) := by decide +kernel
theorem dL_change_455 : decode cL_change 455 = .ok (.iload 5, 2) := by decide +kernel
theorem dL_change_457 : decode cL_change 457 = .ok (.iconst 1, 1) := by decide +kernel
theorem dL_change_458 : decode cL_change 458 = .ok (.iadd, 1) := by decide +kernel
theorem dL_change_459 : decode cL_change 459 = .ok (.if_icmp .ne 22, 3) := by decide +kernel
theorem dL_change_462 : decode cL_change 462 = .ok (.aload_n 0, 1) := by decide +kernel
theorem dL_change_463 : decode cL_change 463 = .ok (.iconst 3, 1) := by decide +kernel
theorem dL_change_464 : decode cL_change 464 = .ok (.invokevirtual 9, 3) := by decide +kernel
theorem dL_change_467 : decode cL_change 467 = .ok (.ifCond .ne 14, 3) := by decide +kernel
theorem dL_change_470 : decode cL_change 470 = .ok (.aload_n 0, 1) := by decide +kernel
theorem dL_change_471 : decode cL_change 471 = .ok (.invokestatic 54, 3) := by decide +kernel
theorem dL_change_474 : decode cL_change 474 = .ok (.ifCond .eq 7, 3) := by decide +kernel
theorem dL_change_477 : decode cL_change 477 = .ok (.iconst 1, 1) := by decide +kernel
theorem dL_change_478 : decode cL_change 478 = .ok (.goto 4, 3) := by decide +kernel
theorem dL_change_481 : decode cL_change 481 = .ok (.iconst 0, 1) := by decide +kernel
theorem dL_change_482 : decode cL_change 482 = .ok (.ireturn, 1) := by decide +kernel
theorem dL_isSpoiled_0 : decode cL_isSpoiled 0 = .ok (.aload_n 0, 1) := by decide +kernel
theorem dL_isSpoiled_1 : decode cL_isSpoiled 1 = .ok (.iload_n 1, 1) := by decide +kernel
theorem dL_isSpoiled_2 : decode cL_isSpoiled 2 = .ok (.iload_n 2, 1) := by decide +kernel
theorem dL_isSpoiled_3 : decode cL_isSpoiled 3 = .ok (.invokevirtual 58, 3) := by decide +kernel
theorem dL_isSpoiled_6 : decode cL_isSpoiled 6 = .ok (.istore_n 3, 1) := by decide +kernel
theorem dL_isSpoiled_7 : decode cL_isSpoiled 7 = .ok (.aload_n 0, 1) := by decide +kernel
theorem dL_isSpoiled_8 : decode cL_isSpoiled 8 = .ok (.iload_n 1, 1) := by decide +kernel
theorem dL_isSpoiled_9 : decode cL_isSpoiled 9 = .ok (.iconst 3, 1) := by decide +kernel
theorem dL_isSpoiled_10 : decode cL_isSpoiled 10 = .ok (.invokevirtual 24, 3) := by decide +kernel
theorem dL_isSpoiled_13 : decode cL_isSpoiled 13 = .ok (.istore 4, 2) := by decide +kernel
theorem dL_isSpoiled_15 : decode cL_isSpoiled 15 = .ok (.aload_n 0, 1) := by decide +kernel
theorem dL_isSpoiled_16 : decode cL_isSpoiled 16 = .ok (.iconst 0, 1) := by decide +kernel
theorem dL_isSpoiled_17 : decode cL_isSpoiled 17 = .ok (.invokevirtual 9, 3) := by decide +kernel
theorem dL_isSpoiled_20 : decode cL_isSpoiled 20 = .ok (.istore 5, 2) := by decide +kernel
theorem dL_isSpoiled_22 : decode cL_isSpoiled 22 = .ok (.iconst 0, 1) := by decide +kernel
theorem dL_isSpoiled_23 : decode cL_isSpoiled 23 = .ok (.istore 6, 2) := by decide +kernel
theorem dL_isSpoiled_25 : decode cL_isSpoiled 25 = .ok (.bipush 64, 2) := by decide +kernel
theorem dL_isSpoiled_27 : decode cL_isSpoiled 27 = .ok (.newarray .int, 2) := by decide +kernel
theorem dL_isSpoiled_29 : decode cL_isSpoiled 29 = .ok (.astore 7, 2) := by decide +kernel
theorem dL_isSpoiled_31 : decode cL_isSpoiled 31 = .ok (.iconst 0, 1) := by decide +kernel
theorem dL_isSpoiled_32 : decode cL_isSpoiled 32 = .ok (.istore 8, 2) := by decide +kernel
theorem dL_isSpoiled_34 : decode cL_isSpoiled 34 = .ok (.iload 8, 2) := by decide +kernel
theorem dL_isSpoiled_36 : decode cL_isSpoiled 36 = .ok (.iload 5, 2) := by decide +kernel
theorem dL_isSpoiled_38 : decode cL_isSpoiled 38 = .ok (.if_icmp .ge 21, 3) := by decide +kernel
theorem dL_isSpoiled_41 : decode cL_isSpoiled 41 = .ok (.aload 7, 2) := by decide +kernel
theorem dL_isSpoiled_43 : decode cL_isSpoiled 43 = .ok (.iload 8, 2) := by decide +kernel
theorem dL_isSpoiled_45 : decode cL_isSpoiled 45 = .ok (.aload_n 0, 1) := by decide +kernel
theorem dL_isSpoiled_46 : decode cL_isSpoiled 46 = .ok (.iload 8, 2) := by decide +kernel
theorem dL_isSpoiled_48 : decode cL_isSpoiled 48 = .ok (.iconst 1, 1) := by decide +kernel
theorem dL_isSpoiled_49 : decode cL_isSpoiled 49 = .ok (.invokevirtual 24, 3) := by decide +kernel
theorem dL_isSpoiled_52 : decode cL_isSpoiled 52 = .ok (.iastore, 1) := by decide +kernel
theorem dL_isSpoiled_53 : decode cL_isSpoiled 53 = .ok (.iinc 8 1, 3) := by decide +kernel
theorem dL_isSpoiled_56 : decode cL_isSpoiled 56 = .ok (.goto (-22), 3) := by decide +kernel
theorem dL_isSpoiled_59 : decode cL_isSpoiled 59 = .ok (.aload_n 0, 1) := by decide +kernel
theorem dL_isSpoiled_60 : decode cL_isSpoiled 60 = .ok (.iload_n 1, 1) := by decide +kernel
theorem dL_isSpoiled_61 : decode cL_isSpoiled 61 = .ok (.iload_n 2, 1) := by decide +kernel
theorem dL_isSpoiled_62 : decode cL_isSpoiled 62 = .ok (.invokevirtual 61, 3) := by decide +kernel
theorem dL_isSpoiled_65 : decode cL_isSpoiled 65 = .ok (.iload 4, 2) := by decide +kernel
theorem dL_isSpoiled_67 : decode cL_isSpoiled 67 = .ok (.iconst 1, 1) := by decide +kernel
theorem dL_isSpoiled_68 : decode cL_isSpoiled 68 = .ok (.iload_n 2, 1) := by decide +kernel
theorem dL_isSpoiled_69 : decode cL_isSpoiled 69 = .ok (.ishl, 1) := by decide +kernel
theorem dL_isSpoiled_70 : decode cL_isSpoiled 70 = .ok (.ixor, 1) := by decide +kernel
theorem dL_isSpoiled_71 : decode cL_isSpoiled 71 = .ok (.if_icmp .ne 17, 3) := by decide +kernel
theorem dL_isSpoiled_74 : decode cL_isSpoiled 74 = .ok (.aload_n 0, 1) := by decide +kernel
theorem dL_isSpoiled_75 : decode cL_isSpoiled 75 = .ok (.iload_n 1, 1) := by decide +kernel
theorem dL_isSpoiled_76 : decode cL_isSpoiled 76 = .ok (.iload_n 2, 1) := by decide +kernel
theorem dL_isSpoiled_77 : decode cL_isSpoiled 77 = .ok (.invokevirtual 58, 3) := by decide +kernel
theorem dL_isSpoiled_80 : decode cL_isSpoiled 80 = .ok (.iload_n 3, 1) := by decide +kernel
theorem dL_isSpoiled_81 : decode cL_isSpoiled 81 = .ok (.if_icmp .ne 7, 3) := by decide +kernel
theorem dL_isSpoiled_84 : decode cL_isSpoiled 84 = .ok (.iconst 1, 1) := by decide +kernel
theorem dL_isSpoiled_85 : decode cL_isSpoiled 85 = .ok (.goto 4, 3) := by decide +kernel
theorem dL_isSpoiled_88 : decode cL_isSpoiled 88 = .ok (.iconst 0, 1) := by decide +kernel
theorem dL_isSpoiled_89 : decode cL_isSpoiled 89 = .ok (.istore 8, 2) := by decide +kernel
theorem dL_isSpoiled_91 : decode cL_isSpoiled 91 = .ok (.iconst 0, 1) := by decide +kernel
theorem dL_isSpoiled_92 : decode cL_isSpoiled 92 = .ok (.istore 9, 2) := by decide +kernel
theorem dL_isSpoiled_94 : decode cL_isSpoiled 94 = .ok (.iload 9, 2) := by decide +kernel
theorem dL_isSpoiled_96 : decode cL_isSpoiled 96 = .ok (.iload 5, 2) := by decide +kernel
theorem dL_isSpoiled_98 : decode cL_isSpoiled 98 = .ok (.if_icmp .ge 34, 3) := by decide +kernel
theorem dL_isSpoiled_101 : decode cL_isSpoiled 101 = .ok (.iload 6, 2) := by decide +kernel
theorem dL_isSpoiled_103 : decode cL_isSpoiled 103 = .ok (.aload_n 0, 1) := by decide +kernel
theorem dL_isSpoiled_104 : decode cL_isSpoiled 104 = .ok (.iload 9, 2) := by decide +kernel
theorem dL_isSpoiled_106 : decode cL_isSpoiled 106 = .ok (.iconst 1, 1) := by decide +kernel
theorem dL_isSpoiled_107 : decode cL_isSpoiled 107 = .ok (.invokevirtual 24, 3) := by decide +kernel
theorem dL_isSpoiled_110 : decode cL_isSpoiled 110 = .ok (.aload 7, 2) := by decide +kernel
theorem dL_isSpoiled_112 : decode cL_isSpoiled 112 = .ok (.iload 9, 2) := by decide +kernel
theorem dL_isSpoiled_114 : decode cL_isSpoiled 114 = .ok (.iaload, 1) := by decide +kernel
theorem dL_isSpoiled_115 : decode cL_isSpoiled 115 = .ok (.if_icmp .ne 7, 3) := by decide +kernel
theorem dL_isSpoiled_118 : decode cL_isSpoiled 118 = .ok (.iconst 1, 1) := by decide +kernel
theorem dL_isSpoiled_119 : decode cL_isSpoiled 119 = .ok (.goto 4, 3) := by decide +kernel
theorem dL_isSpoiled_122 : decode cL_isSpoiled 122 = .ok (.iconst 0, 1) := by decide +kernel
theorem dL_isSpoiled_123 : decode cL_isSpoiled 123 = .ok (.iadd, 1) := by decide +kernel
theorem dL_isSpoiled_124 : decode cL_isSpoiled 124 = .ok (.istore 6, 2) := by decide +kernel
theorem dL_isSpoiled_126 : decode cL_isSpoiled 126 = .ok (.iinc 9 1, 3) := by decide +kernel
theorem dL_isSpoiled_129 : decode cL_isSpoiled 129 = .ok (.goto (-35), 3) := by decide +kernel
theorem dL_isSpoiled_132 : decode cL_isSpoiled 132 = .ok (.iload 8, 2) := by decide +kernel
theorem dL_isSpoiled_134 : decode cL_isSpoiled 134 = .ok (.ifCond .eq 27, 3) := by decide +kernel
theorem dL_isSpoiled_137 : decode cL_isSpoiled 137 = .ok (.iload 6, 2) := by decide +kernel
theorem dL_isSpoiled_139 : decode cL_isSpoiled 139 = .ok (.iload 5, 2) := by decide +kernel
theorem dL_isSpoiled_141 : decode cL_isSpoiled 141 = .ok (.iload_n 3, 1) := by decide +kernel
theorem dL_isSpoiled_142 : decode cL_isSpoiled 142 = .ok (.isub, 1) := by decide +kernel
theorem dL_isSpoiled_143 : decode cL_isSpoiled 143 = .ok (.if_icmp .ne 18, 3) := by decide +kernel
theorem dL_isSpoiled_146 : decode cL_isSpoiled 146 = .ok (.aload_n 0, 1) := by decide +kernel
theorem dL_isSpoiled_147 : decode cL_isSpoiled 147 = .ok (.iload_n 1, 1) := by decide +kernel
theorem dL_isSpoiled_148 : decode cL_isSpoiled 148 = .ok (.iload_n 2, 1) := by decide +kernel
theorem dL_isSpoiled_149 : decode cL_isSpoiled 149 = .ok (.invokevirtual 61, 3) := by decide +kernel
theorem dL_isSpoiled_152 : decode cL_isSpoiled 152 = .ok (.iload 4, 2) := by decide +kernel
theorem dL_isSpoiled_154 : decode cL_isSpoiled 154 = .ok (.if_icmp .ne 7, 3) := by decide +kernel
theorem dL_isSpoiled_157 : decode cL_isSpoiled 157 = .ok (.iconst 1, 1) := by decide +kernel
theorem dL_isSpoiled_158 : decode cL_isSpoiled 158 = .ok (.goto 4, 3) := by decide +kernel
theorem dL_isSpoiled_161 : decode cL_isSpoiled 161 = .ok (.iconst 0, 1) := by decide +kernel
theorem dL_isSpoiled_162 : decode cL_isSpoiled 162 = .ok (.istore 8, 2) := by decide +kernel
theorem dL_isSpoiled_164 : decode cL_isSpoiled 164 = .ok (.iconst 0, 1) := by decide +kernel
theorem dL_isSpoiled_165 : decode cL_isSpoiled 165 = .ok (.istore 9, 2) := by decide +kernel
theorem dL_isSpoiled_167 : decode cL_isSpoiled 167 = .ok (.iload 9, 2) := by decide +kernel
theorem dL_isSpoiled_169 : decode cL_isSpoiled 169 = .ok (.iload 5, 2) := by decide +kernel
theorem dL_isSpoiled_171 : decode cL_isSpoiled 171 = .ok (.if_icmp .ge 36, 3) := by decide +kernel
theorem dL_isSpoiled_174 : decode cL_isSpoiled 174 = .ok (.iload 8, 2) := by decide +kernel
theorem dL_isSpoiled_176 : decode cL_isSpoiled 176 = .ok (.ifCond .eq 31, 3) := by decide +kernel
theorem dL_isSpoiled_179 : decode cL_isSpoiled 179 = .ok (.aload_n 0, 1) := by decide +kernel
theorem dL_isSpoiled_180 : decode cL_isSpoiled 180 = .ok (.iload 9, 2) := by decide +kernel
theorem dL_isSpoiled_182 : decode cL_isSpoiled 182 = .ok (.iconst 1, 1) := by decide +kernel
theorem dL_isSpoiled_183 : decode cL_isSpoiled 183 = .ok (.invokevirtual 24, 3) := by decide +kernel
theorem dL_isSpoiled_186 : decode cL_isSpoiled 186 = .ok (.aload 7, 2) := by decide +kernel
theorem dL_isSpoiled_188 : decode cL_isSpoiled 188 = .ok (.iload 9, 2) := by decide +kernel
theorem dL_isSpoiled_190 : decode cL_isSpoiled 190 = .ok (.iaload, 1) := by decide +kernel
theorem dL_isSpoiled_191 : decode cL_isSpoiled 191 = .ok (.if_icmp .ne 7, 3) := by decide +kernel
theorem dL_isSpoiled_194 : decode cL_isSpoiled 194 = .ok (.iconst 1, 1) := by decide +kernel
theorem dL_isSpoiled_195 : decode cL_isSpoiled 195 = .ok (.goto 4, 3) := by decide +kernel
theorem dL_isSpoiled_198 : decode cL_isSpoiled 198 = .ok (.iconst 0, 1) := by decide +kernel
theorem dL_isSpoiled_199 : decode cL_isSpoiled 199 = .ok (.istore 8, 2) := by decide +kernel
theorem dL_isSpoiled_201 : decode cL_isSpoiled 201 = .ok (.iinc 9 1, 3) := by decide +kernel
theorem dL_isSpoiled_204 : decode cL_isSpoiled 204 = .ok (.goto (-37), 3) := by decide +kernel
theorem dL_isSpoiled_207 : decode cL_isSpoiled 207 = .ok (.iload 8, 2) := by decide +kernel
theorem dL_isSpoiled_209 : decode cL_isSpoiled 209 = .ok (.ifCond .eq 23, 3) := by decide +kernel
theorem dL_isSpoiled_212 : decode cL_isSpoiled 212 = .ok (.iload 4, 2) := by decide +kernel
theorem dL_isSpoiled_214 : decode cL_isSpoiled 214 = .ok (.iconst 1, 1) := by decide +kernel
theorem dL_isSpoiled_215 : decode cL_isSpoiled 215 = .ok (.iand, 1) := by decide +kernel
theorem dL_isSpoiled_216 : decode cL_isSpoiled 216 = .ok (.ifCond .eq 12, 3) := by decide +kernel
theorem dL_isSpoiled_219 : decode cL_isSpoiled 219 = .ok (.aload_n 0, 1) := by decide +kernel
theorem dL_isSpoiled_220 : decode cL_isSpoiled 220 = .ok (.iload_n 1, 1) := by decide +kernel
theorem dL_isSpoiled_221 : decode cL_isSpoiled 221 = .ok (.iload_n 2, 1) := by decide +kernel
theorem dL_isSpoiled_222 : decode cL_isSpoiled 222 = .ok (.invokevirtual 61, 3) := by decide +kernel
theorem dL_isSpoiled_225 : decode cL_isSpoiled 225 = .ok (.ifCond .lt 7, 3) := by decide +kernel
theorem dL_isSpoiled_228 : decode cL_isSpoiled 228 = .ok (.iconst 1, 1) := by decide +kernel
theorem dL_isSpoiled_229 : decode cL_isSpoiled 229 = .ok (.goto 4, 3) := by decide +kernel
theorem dL_isSpoiled_232 : decode cL_isSpoiled 232 = .ok (.iconst 0, 1) := by decide +kernel
theorem dL_isSpoiled_233 : decode cL_isSpoiled 233 = .ok (.ireturn, 1) := by decide +kernel
theorem dL_loads_0 : decode cL_loads 0 = .ok (.aload_n 0, 1) := by decide +kernel
theorem dL_loads_1 : decode cL_loads 1 = .ok (.iconst 0, 1) := by decide +kernel
theorem dL_loads_2 : decode cL_loads 2 = .ok (.invokevirtual 34, 3) := by decide +kernel
theorem dL_loads_5 : decode cL_loads 5 = .ok (.istore_n 3, 1) := by decide +kernel
theorem dL_loads_6 : decode cL_loads 6 = .ok (.aload_n 0, 1) := by decide +kernel
theorem dL_loads_7 : decode cL_loads 7 = .ok (.iload_n 1, 1) := by decide +kernel
theorem dL_loads_8 : decode cL_loads 8 = .ok (.iconst 3, 1) := by decide +kernel
theorem dL_loads_9 : decode cL_loads 9 = .ok (.invokevirtual 64, 3) := by decide +kernel
theorem dL_loads_12 : decode cL_loads 12 = .ok (.iconst 1, 1) := by decide +kernel
theorem dL_loads_13 : decode cL_loads 13 = .ok (.if_icmp .ne 7, 3) := by decide +kernel
theorem dL_loads_16 : decode cL_loads 16 = .ok (.iconst 1, 1) := by decide +kernel
theorem dL_loads_17 : decode cL_loads 17 = .ok (.goto 4, 3) := by decide +kernel
theorem dL_loads_20 : decode cL_loads 20 = .ok (.iconst 0, 1) := by decide +kernel
theorem dL_loads_21 : decode cL_loads 21 = .ok (.istore 4, 2) := by decide +kernel
theorem dL_loads_23 : decode cL_loads 23 = .ok (.aload_n 0, 1) := by decide +kernel
theorem dL_loads_24 : decode cL_loads 24 = .ok (.iload_n 1, 1) := by decide +kernel
theorem dL_loads_25 : decode cL_loads 25 = .ok (.invokevirtual 67, 3) := by decide +kernel
theorem dL_loads_28 : decode cL_loads 28 = .ok (.istore 5, 2) := by decide +kernel
theorem dL_loads_30 : decode cL_loads 30 = .ok (.aload_n 0, 1) := by decide +kernel
theorem dL_loads_31 : decode cL_loads 31 = .ok (.invokevirtual 70, 3) := by decide +kernel
theorem dL_loads_34 : decode cL_loads 34 = .ok (.iload 5, 2) := by decide +kernel
theorem dL_loads_36 : decode cL_loads 36 = .ok (.if_icmp .ne 31, 3) := by decide +kernel
theorem dL_loads_39 : decode cL_loads 39 = .ok (.aload_n 0, 1) := by decide +kernel
theorem dL_loads_40 : decode cL_loads 40 = .ok (.iload_n 1, 1) := by decide +kernel
theorem dL_loads_41 : decode cL_loads 41 = .ok (.invokevirtual 73, 3) := by decide +kernel
theorem dL_loads_44 : decode cL_loads 44 = .ok (.ifCond .lt 23, 3) := by decide +kernel
theorem dL_loads_47 : decode cL_loads 47 = .ok (.aload_n 0, 1) := by decide +kernel
theorem dL_loads_48 : decode cL_loads 48 = .ok (.iload_n 1, 1) := by decide +kernel
theorem dL_loads_49 : decode cL_loads 49 = .ok (.iconst 3, 1) := by decide +kernel
theorem dL_loads_50 : decode cL_loads 50 = .ok (.invokevirtual 64, 3) := by decide +kernel
theorem dL_loads_53 : decode cL_loads 53 = .ok (.ifCond .ne 14, 3) := by decide +kernel
theorem dL_loads_56 : decode cL_loads 56 = .ok (.aload_n 0, 1) := by decide +kernel
theorem dL_loads_57 : decode cL_loads 57 = .ok (.invokevirtual 76, 3) := by decide +kernel
theorem dL_loads_60 : decode cL_loads 60 = .ok (.ifCond .ne 7, 3) := by decide +kernel
theorem dL_loads_63 : decode cL_loads 63 = .ok (.iconst 1, 1) := by decide +kernel
theorem dL_loads_64 : decode cL_loads 64 = .ok (.goto 4, 3) := by decide +kernel
theorem dL_loads_67 : decode cL_loads 67 = .ok (.iconst 0, 1) := by decide +kernel
theorem dL_loads_68 : decode cL_loads 68 = .ok (.istore 6, 2) := by decide +kernel
theorem dL_loads_70 : decode cL_loads 70 = .ok (.iload 6, 2) := by decide +kernel
theorem dL_loads_72 : decode cL_loads 72 = .ok (.ifCond .eq 26, 3) := by decide +kernel
theorem dL_loads_75 : decode cL_loads 75 = .ok (.aload_n 0, 1) := by decide +kernel
theorem dL_loads_76 : decode cL_loads 76 = .ok (.iload_n 1, 1) := by decide +kernel
theorem dL_loads_77 : decode cL_loads 77 = .ok (.invokevirtual 67, 3) := by decide +kernel
theorem dL_loads_80 : decode cL_loads 80 = .ok (.iload 5, 2) := by decide +kernel
theorem dL_loads_82 : decode cL_loads 82 = .ok (.if_icmp .ne 16, 3) := by decide +kernel
theorem dL_loads_85 : decode cL_loads 85 = .ok (.aload_n 0, 1) := by decide +kernel
theorem dL_loads_86 : decode cL_loads 86 = .ok (.invokevirtual 76, 3) := by decide +kernel
theorem dL_loads_89 : decode cL_loads 89 = .ok (.iload 5, 2) := by decide +kernel
theorem dL_loads_91 : decode cL_loads 91 = .ok (.if_icmp .ne 7, 3) := by decide +kernel
theorem dL_loads_94 : decode cL_loads 94 = .ok (.iconst 1, 1) := by decide +kernel
theorem dL_loads_95 : decode cL_loads 95 = .ok (.goto 4, 3) := by decide +kernel
theorem dL_loads_98 : decode cL_loads 98 = .ok (.iconst 0, 1) := by decide +kernel
theorem dL_loads_99 : decode cL_loads 99 = .ok (.istore 6, 2) := by decide +kernel
theorem dL_loads_101 : decode cL_loads 101 = .ok (.iload 4, 2) := by decide +kernel
theorem dL_loads_103 : decode cL_loads 103 = .ok (.ifCond .ne 33, 3) := by decide +kernel
theorem dL_loads_106 : decode cL_loads 106 = .ok (.iload 6, 2) := by decide +kernel
theorem dL_loads_108 : decode cL_loads 108 = .ok (.ifCond .eq 25, 3) := by decide +kernel
theorem dL_loads_111 : decode cL_loads 111 = .ok (.aload_n 0, 1) := by decide +kernel
theorem dL_loads_112 : decode cL_loads 112 = .ok (.iload_n 1, 1) := by decide +kernel
theorem dL_loads_113 : decode cL_loads 113 = .ok (.invokevirtual 67, 3) := by decide +kernel
theorem dL_loads_116 : decode cL_loads 116 = .ok (.iload 5, 2) := by decide +kernel
theorem dL_loads_118 : decode cL_loads 118 = .ok (.if_icmp .ne 15, 3) := by decide +kernel
theorem dL_loads_121 : decode cL_loads 121 = .ok (.aload_n 0, 1) := by decide +kernel
theorem dL_loads_122 : decode cL_loads 122 = .ok (.iload_n 1, 1) := by decide +kernel
theorem dL_loads_123 : decode cL_loads 123 = .ok (.invokevirtual 73, 3) := by decide +kernel
theorem dL_loads_126 : decode cL_loads 126 = .ok (.ifCond .ne 7, 3) := by decide +kernel
theorem dL_loads_129 : decode cL_loads 129 = .ok (.iconst 1, 1) := by decide +kernel
theorem dL_loads_130 : decode cL_loads 130 = .ok (.goto 4, 3) := by decide +kernel
theorem dL_loads_133 : decode cL_loads 133 = .ok (.iconst 0, 1) := by decide +kernel
theorem dL_loads_134 : decode cL_loads 134 = .ok (.istore 6, 2) := by decide +kernel
theorem dL_loads_136 : decode cL_loads 136 = .ok (.iload 6, 2) := by decide +kernel
theorem dL_loads_138 : decode cL_loads 138 = .ok (.ifCond .eq 100, 3) := by decide +kernel
theorem dL_loads_141 : decode cL_loads 141 = .ok (.aload_n 0, 1) := by decide +kernel
theorem dL_loads_142 : decode cL_loads 142 = .ok (.iload_n 2, 1) := by decide +kernel
theorem dL_loads_143 : decode cL_loads 143 = .ok (.iconst 0, 1) := by decide +kernel
theorem dL_loads_144 : decode cL_loads 144 = .ok (.invokevirtual 64, 3) := by decide +kernel
theorem dL_loads_147 : decode cL_loads 147 = .ok (.aload_n 0, 1) := by decide +kernel
theorem dL_loads_148 : decode cL_loads 148 = .ok (.iload_n 1, 1) := by decide +kernel
theorem dL_loads_149 : decode cL_loads 149 = .ok (.iconst 0, 1) := by decide +kernel
theorem dL_loads_150 : decode cL_loads 150 = .ok (.invokevirtual 64, 3) := by decide +kernel
theorem dL_loads_153 : decode cL_loads 153 = .ok (.if_icmp .ne 85, 3) := by decide +kernel
theorem dL_loads_156 : decode cL_loads 156 = .ok (.aload_n 0, 1) := by decide +kernel
theorem dL_loads_157 : decode cL_loads 157 = .ok (.iload_n 1, 1) := by decide +kernel
theorem dL_loads_158 : decode cL_loads 158 = .ok (.invokevirtual 67, 3) := by decide +kernel
theorem dL_loads_161 : decode cL_loads 161 = .ok (.iload 5, 2) := by decide +kernel
theorem dL_loads_163 : decode cL_loads 163 = .ok (.if_icmp .ne 15, 3) := by decide +kernel
theorem dL_loads_166 : decode cL_loads 166 = .ok (.aload_n 0, 1) := by decide +kernel
theorem dL_loads_167 : decode cL_loads 167 = .ok (.iload_n 2, 1) := by decide +kernel
theorem dL_loads_168 : decode cL_loads 168 = .ok (.invokevirtual 73, 3) := by decide +kernel
theorem dL_loads_171 : decode cL_loads 171 = .ok (.ifCond .lt 7, 3) := by decide +kernel
theorem dL_loads_174 : decode cL_loads 174 = .ok (.iconst 1, 1) := by decide +kernel
theorem dL_loads_175 : decode cL_loads 175 = .ok (.goto 4, 3) := by decide +kernel
theorem dL_loads_178 : decode cL_loads 178 = .ok (.iconst 0, 1) := by decide +kernel
theorem dL_loads_179 : decode cL_loads 179 = .ok (.istore 6, 2) := by decide +kernel
theorem dL_loads_181 : decode cL_loads 181 = .ok (.iconst 0, 1) := by decide +kernel
theorem dL_loads_182 : decode cL_loads 182 = .ok (.istore 7, 2) := by decide +kernel
theorem dL_loads_184 : decode cL_loads 184 = .ok (.iload 7, 2) := by decide +kernel
theorem dL_loads_186 : decode cL_loads 186 = .ok (.aload_n 0, 1) := by decide +kernel
theorem dL_loads_187 : decode cL_loads 187 = .ok (.iload_n 1, 1) := by decide +kernel
theorem dL_loads_188 : decode cL_loads 188 = .ok (.iconst 0, 1) := by decide +kernel
theorem dL_loads_189 : decode cL_loads 189 = .ok (.invokevirtual 64, 3) := by decide +kernel
theorem dL_loads_192 : decode cL_loads 192 = .ok (.if_icmp .ge 46, 3) := by decide +kernel
theorem dL_loads_195 : decode cL_loads 195 = .ok (.iload 6, 2) := by decide +kernel
theorem dL_loads_197 : decode cL_loads 197 = .ok (.ifCond .eq 41, 3) := by decide +kernel
theorem dL_loads_200 : decode cL_loads 200 = .ok (.aload_n 0, 1) := by decide +kernel
theorem dL_loads_201 : decode cL_loads 201 = .ok (.iload_n 3, 1) := by decide +kernel
theorem dL_loads_202 : decode cL_loads 202 = .ok (.iload_n 1, 1) := by decide +kernel
theorem dL_loads_203 : decode cL_loads 203 = .ok (.imul, 1) := by decide +kernel
theorem dL_loads_204 : decode cL_loads 204 = .ok (.iload 7, 2) := by decide +kernel
theorem dL_loads_206 : decode cL_loads 206 = .ok (.iadd, 1) := by decide +kernel
theorem dL_loads_207 : decode cL_loads 207 = .ok (.iconst 1, 1) := by decide +kernel
theorem dL_loads_208 : decode cL_loads 208 = .ok (.invokevirtual 24, 3) := by decide +kernel
theorem dL_loads_211 : decode cL_loads 211 = .ok (.aload_n 0, 1) := by decide +kernel
theorem dL_loads_212 : decode cL_loads 212 = .ok (.iload_n 3, 1) := by decide +kernel
theorem dL_loads_213 : decode cL_loads 213 = .ok (.iload_n 2, 1) := by decide +kernel
theorem dL_loads_214 : decode cL_loads 214 = .ok (.imul, 1) := by decide +kernel
theorem dL_loads_215 : decode cL_loads 215 = .ok (.iload 7, 2) := by decide +kernel
theorem dL_loads_217 : decode cL_loads 217 = .ok (.iadd, 1) := by decide +kernel
theorem dL_loads_218 : decode cL_loads 218 = .ok (.iconst 1, 1) := by decide +kernel
theorem dL_loads_219 : decode cL_loads 219 = .ok (.invokevirtual 24, 3) := by decide +kernel
theorem dL_loads_222 : decode cL_loads 222 = .ok (.if_icmp .ne 7, 3) := by decide +kernel
theorem dL_loads_225 : decode cL_loads 225 = .ok (.iconst 1, 1) := by decide +kernel
theorem dL_loads_226 : decode cL_loads 226 = .ok (.goto 4, 3) := by decide +kernel
theorem dL_loads_229 : decode cL_loads 229 = .ok (.iconst 0, 1) := by decide +kernel
theorem dL_loads_230 : decode cL_loads 230 = .ok (.istore 6, 2) := by decide +kernel
theorem dL_loads_232 : decode cL_loads 232 = .ok (.iinc 7 1, 3) := by decide +kernel
theorem dL_loads_235 : decode cL_loads 235 = .ok (.goto (-51), 3) := by decide +kernel
theorem dL_loads_238 : decode cL_loads 238 = .ok (.iload 6, 2) := by decide +kernel
theorem dL_loads_240 : decode cL_loads 240 = .ok (.ireturn, 1) := by decide +kernel
theorem dL_isAsGuessed_0 : decode cL_isAsGuessed 0 = .ok (.iconst 1, 1) := by decide +kernel
theorem dL_isAsGuessed_1 : decode cL_isAsGuessed 1 = .ok (.istore_n 1, 1) := by decide +kernel
theorem dL_isAsGuessed_2 : decode cL_isAsGuessed 2 = .ok (.iconst 0, 1) := by decide +kernel
theorem dL_isAsGuessed_3 : decode cL_isAsGuessed 3 = .ok (.istore_n 2, 1) := by decide +kernel
theorem dL_isAsGuessed_4 : decode cL_isAsGuessed 4 = .ok (.iload_n 2, 1) := by decide +kernel
theorem dL_isAsGuessed_5 : decode cL_isAsGuessed 5 = .ok (.aload_n 0, 1) := by decide +kernel
theorem dL_isAsGuessed_6 : decode cL_isAsGuessed 6 = .ok (.iconst 0, 1) := by decide +kernel
theorem dL_isAsGuessed_7 : decode cL_isAsGuessed 7 = .ok (.invokevirtual 9, 3) := by decide +kernel
theorem dL_isAsGuessed_10 : decode cL_isAsGuessed 10 = .ok (.if_icmp .ge 34, 3) := by decide +kernel
theorem dL_isAsGuessed_13 : decode cL_isAsGuessed 13 = .ok (.iload_n 1, 1) := by decide +kernel
theorem dL_isAsGuessed_14 : decode cL_isAsGuessed 14 = .ok (.ifCond .eq 30, 3) := by decide +kernel
theorem dL_isAsGuessed_17 : decode cL_isAsGuessed 17 = .ok (.aload_n 0, 1) := by decide +kernel
theorem dL_isAsGuessed_18 : decode cL_isAsGuessed 18 = .ok (.iload_n 2, 1) := by decide +kernel
theorem dL_isAsGuessed_19 : decode cL_isAsGuessed 19 = .ok (.iconst 1, 1) := by decide +kernel
theorem dL_isAsGuessed_20 : decode cL_isAsGuessed 20 = .ok (.invokevirtual 24, 3) := by decide +kernel
theorem dL_isAsGuessed_23 : decode cL_isAsGuessed 23 = .ok (.aload_n 0, 1) := by decide +kernel
theorem dL_isAsGuessed_24 : decode cL_isAsGuessed 24 = .ok (.iload_n 2, 1) := by decide +kernel
theorem dL_isAsGuessed_25 : decode cL_isAsGuessed 25 = .ok (.iconst 2, 1) := by decide +kernel
theorem dL_isAsGuessed_26 : decode cL_isAsGuessed 26 = .ok (.invokevirtual 24, 3) := by decide +kernel
theorem dL_isAsGuessed_29 : decode cL_isAsGuessed 29 = .ok (.if_icmp .ne 7, 3) := by decide +kernel
theorem dL_isAsGuessed_32 : decode cL_isAsGuessed 32 = .ok (.iconst 1, 1) := by decide +kernel
theorem dL_isAsGuessed_33 : decode cL_isAsGuessed 33 = .ok (.goto 4, 3) := by decide +kernel
theorem dL_isAsGuessed_36 : decode cL_isAsGuessed 36 = .ok (.iconst 0, 1) := by decide +kernel
theorem dL_isAsGuessed_37 : decode cL_isAsGuessed 37 = .ok (.istore_n 1, 1) := by decide +kernel
theorem dL_isAsGuessed_38 : decode cL_isAsGuessed 38 = .ok (.iinc 2 1, 3) := by decide +kernel
theorem dL_isAsGuessed_41 : decode cL_isAsGuessed 41 = .ok (.goto (-37), 3) := by decide +kernel
theorem dL_isAsGuessed_44 : decode cL_isAsGuessed 44 = .ok (.iconst 0, 1) := by decide +kernel
theorem dL_isAsGuessed_45 : decode cL_isAsGuessed 45 = .ok (.istore_n 2, 1) := by decide +kernel
theorem dL_isAsGuessed_46 : decode cL_isAsGuessed 46 = .ok (.iload_n 2, 1) := by decide +kernel
theorem dL_isAsGuessed_47 : decode cL_isAsGuessed 47 = .ok (.aload_n 0, 1) := by decide +kernel
theorem dL_isAsGuessed_48 : decode cL_isAsGuessed 48 = .ok (.iconst 2, 1) := by decide +kernel
theorem dL_isAsGuessed_49 : decode cL_isAsGuessed 49 = .ok (.invokevirtual 9, 3) := by decide +kernel
theorem dL_isAsGuessed_52 : decode cL_isAsGuessed 52 = .ok (.if_icmp .ge 171, 3) := by decide +kernel
theorem dL_isAsGuessed_55 : decode cL_isAsGuessed 55 = .ok (.iload_n 1, 1) := by decide +kernel
theorem dL_isAsGuessed_56 : decode cL_isAsGuessed 56 = .ok (.ifCond .eq 167, 3) := by decide +kernel
theorem dL_isAsGuessed_59 : decode cL_isAsGuessed 59 = .ok (.iload_n 2, 1) := by decide +kernel
theorem dL_isAsGuessed_60 : decode cL_isAsGuessed 60 = .ok (.aload_n 0, 1) := by decide +kernel
theorem dL_isAsGuessed_61 : decode cL_isAsGuessed 61 = .ok (.iconst 0, 1) := by decide +kernel
theorem dL_isAsGuessed_62 : decode cL_isAsGuessed 62 = .ok (.invokevirtual 34, 3) := by decide +kernel
theorem dL_isAsGuessed_65 : decode cL_isAsGuessed 65 = .ok (.imul, 1) := by decide +kernel
theorem dL_isAsGuessed_66 : decode cL_isAsGuessed 66 = .ok (.istore_n 3, 1) := by decide +kernel
theorem dL_isAsGuessed_67 : decode cL_isAsGuessed 67 = .ok (.aload_n 0, 1) := by decide +kernel
theorem dL_isAsGuessed_68 : decode cL_isAsGuessed 68 = .ok (.iload_n 2, 1) := by decide +kernel
theorem dL_isAsGuessed_69 : decode cL_isAsGuessed 69 = .ok (.iconst 0, 1) := by decide +kernel
theorem dL_isAsGuessed_70 : decode cL_isAsGuessed 70 = .ok (.invokevirtual 64, 3) := by decide +kernel
theorem dL_isAsGuessed_73 : decode cL_isAsGuessed 73 = .ok (.istore 4, 2) := by decide +kernel
theorem dL_isAsGuessed_75 : decode cL_isAsGuessed 75 = .ok (.aload_n 0, 1) := by decide +kernel
theorem dL_isAsGuessed_76 : decode cL_isAsGuessed 76 = .ok (.iload_n 2, 1) := by decide +kernel
theorem dL_isAsGuessed_77 : decode cL_isAsGuessed 77 = .ok (.iconst 2, 1) := by decide +kernel
theorem dL_isAsGuessed_78 : decode cL_isAsGuessed 78 = .ok (.invokevirtual 64, 3) := by decide +kernel
theorem dL_isAsGuessed_81 : decode cL_isAsGuessed 81 = .ok (.istore 5, 2) := by decide +kernel
theorem dL_isAsGuessed_83 : decode cL_isAsGuessed 83 = .ok (.aload_n 0, 1) := by decide +kernel
theorem dL_isAsGuessed_84 : decode cL_isAsGuessed 84 = .ok (.iload_n 3, 1) := by decide +kernel
theorem dL_isAsGuessed_85 : decode cL_isAsGuessed 85 = .ok (.iload 4, 2) := by decide +kernel
theorem dL_isAsGuessed_87 : decode cL_isAsGuessed 87 = .ok (.iload 5, 2) := by decide +kernel
theorem dL_isAsGuessed_89 : decode cL_isAsGuessed 89 = .ok (.invokevirtual 79, 3) := by decide +kernel
theorem dL_isAsGuessed_92 : decode cL_isAsGuessed 92 = .ok (.aload_n 0, 1) := by decide +kernel
theorem dL_isAsGuessed_93 : decode cL_isAsGuessed 93 = .ok (.iload_n 2, 1) := by decide +kernel
theorem dL_isAsGuessed_94 : decode cL_isAsGuessed 94 = .ok (.iconst 4, 1) := by decide +kernel
theorem dL_isAsGuessed_95 : decode cL_isAsGuessed 95 = .ok (.invokevirtual 64, 3) := by decide +kernel
theorem dL_isAsGuessed_98 : decode cL_isAsGuessed 98 = .ok (.if_icmp .ne 22, 3) := by decide +kernel
theorem dL_isAsGuessed_101 : decode cL_isAsGuessed 101 = .ok (.aload_n 0, 1) := by decide +kernel
theorem dL_isAsGuessed_102 : decode cL_isAsGuessed 102 = .ok (.iload_n 2, 1) := by decide +kernel
theorem dL_isAsGuessed_103 : decode cL_isAsGuessed 103 = .ok (.iconst 1, 1) := by decide +kernel
theorem dL_isAsGuessed_104 : decode cL_isAsGuessed 104 = .ok (.invokevirtual 64, 3) := by decide +kernel
theorem dL_isAsGuessed_107 : decode cL_isAsGuessed 107 = .ok (.aload_n 0, 1) := by decide +kernel
theorem dL_isAsGuessed_108 : decode cL_isAsGuessed 108 = .ok (.iload_n 3, 1) := by decide +kernel
theorem dL_isAsGuessed_109 : decode cL_isAsGuessed 109 = .ok (.iconst 0, 1) := by decide +kernel
theorem dL_isAsGuessed_110 : decode cL_isAsGuessed 110 = .ok (.invokevirtual 24, 3) := by decide +kernel
theorem dL_isAsGuessed_113 : decode cL_isAsGuessed 113 = .ok (.if_icmp .ne 7, 3) := by decide +kernel
theorem dL_isAsGuessed_116 : decode cL_isAsGuessed 116 = .ok (.iconst 1, 1) := by decide +kernel
theorem dL_isAsGuessed_117 : decode cL_isAsGuessed 117 = .ok (.goto 4, 3) := by decide +kernel
theorem dL_isAsGuessed_120 : decode cL_isAsGuessed 120 = .ok (.iconst 0, 1) := by decide +kernel
theorem dL_isAsGuessed_121 : decode cL_isAsGuessed 121 = .ok (.istore_n 1, 1) := by decide +kernel
theorem dL_isAsGuessed_122 : decode cL_isAsGuessed 122 = .ok (.iload_n 1, 1) := by decide +kernel
theorem dL_isAsGuessed_123 : decode cL_isAsGuessed 123 = .ok (.ifCond .eq 52, 3) := by decide +kernel
theorem dL_isAsGuessed_126 : decode cL_isAsGuessed 126 = .ok (.aload_n 0, 1) := by decide +kernel
theorem dL_isAsGuessed_127 : decode cL_isAsGuessed 127 = .ok (.iconst 1, 1) := by decide +kernel
theorem dL_isAsGuessed_128 : decode cL_isAsGuessed 128 = .ok (.invokevirtual 34, 3) := by decide +kernel
theorem dL_isAsGuessed_131 : decode cL_isAsGuessed 131 = .ok (.iconst 1, 1) := by decide +kernel
theorem dL_isAsGuessed_132 : decode cL_isAsGuessed 132 = .ok (.if_icmp .ne 18, 3) := by decide +kernel
theorem dL_isAsGuessed_135 : decode cL_isAsGuessed 135 = .ok (.iload 5, 2) := by decide +kernel
theorem dL_isAsGuessed_137 : decode cL_isAsGuessed 137 = .ok (.aload_n 0, 1) := by decide +kernel
theorem dL_isAsGuessed_138 : decode cL_isAsGuessed 138 = .ok (.iload_n 3, 1) := by decide +kernel
theorem dL_isAsGuessed_139 : decode cL_isAsGuessed 139 = .ok (.iload 4, 2) := by decide +kernel
theorem dL_isAsGuessed_141 : decode cL_isAsGuessed 141 = .ok (.invokevirtual 82, 3) := by decide +kernel
theorem dL_isAsGuessed_144 : decode cL_isAsGuessed 144 = .ok (.if_icmp .ne 31, 3) := by decide +kernel
theorem dL_isAsGuessed_147 : decode cL_isAsGuessed 147 = .ok (.goto 24, 3) := by decide +kernel
theorem dL_isAsGuessed_150 : decode cL_isAsGuessed 150 = .ok (.iload 5, 2) := by decide +kernel
theorem dL_isAsGuessed_152 : decode cL_isAsGuessed 152 = .ok (.iload_n 2, 1) := by decide +kernel
theorem dL_isAsGuessed_153 : decode cL_isAsGuessed 153 = .ok (.ifCond .ne 7, 3) := by decide +kernel
theorem dL_isAsGuessed_156 : decode cL_isAsGuessed 156 = .ok (.iconst 0, 1) := by decide +kernel
theorem dL_isAsGuessed_157 : decode cL_isAsGuessed 157 = .ok (.goto 11, 3) := by decide +kernel
theorem dL_isAsGuessed_160 : decode cL_isAsGuessed 160 = .ok (.aload_n 0, 1) := by decide +kernel
theorem dL_isAsGuessed_161 : decode cL_isAsGuessed 161 = .ok (.iload_n 2, 1) := by decide +kernel
theorem dL_isAsGuessed_162 : decode cL_isAsGuessed 162 = .ok (.iconst 1, 1) := by decide +kernel
theorem dL_isAsGuessed_163 : decode cL_isAsGuessed 163 = .ok (.isub, 1) := by decide +kernel
theorem dL_isAsGuessed_164 : decode cL_isAsGuessed 164 = .ok (.iconst 5, 1) := by decide +kernel
theorem dL_isAsGuessed_165 : decode cL_isAsGuessed 165 = .ok (.invokevirtual 64, 3) := by decide +kernel
theorem dL_isAsGuessed_168 : decode cL_isAsGuessed 168 = .ok (.if_icmp .ne 7, 3) := by decide +kernel
theorem dL_isAsGuessed_171 : decode cL_isAsGuessed 171 = .ok (.iconst 1, 1) := by decide +kernel
theorem dL_isAsGuessed_172 : decode cL_isAsGuessed 172 = .ok (.goto 4, 3) := by decide +kernel
theorem dL_isAsGuessed_175 : decode cL_isAsGuessed 175 = .ok (.iconst 0, 1) := by decide +kernel
theorem dL_isAsGuessed_176 : decode cL_isAsGuessed 176 = .ok (.istore_n 1, 1) := by decide +kernel
theorem dL_isAsGuessed_177 : decode cL_isAsGuessed 177 = .ok (.aload_n 0, 1) := by decide +kernel
theorem dL_isAsGuessed_178 : decode cL_isAsGuessed 178 = .ok (.iload_n 3, 1) := by decide +kernel
theorem dL_isAsGuessed_179 : decode cL_isAsGuessed 179 = .ok (.iload 4, 2) := by decide +kernel
theorem dL_isAsGuessed_181 : decode cL_isAsGuessed 181 = .ok (.invokevirtual 82, 3) := by decide +kernel
theorem dL_isAsGuessed_184 : decode cL_isAsGuessed 184 = .ok (.istore 6, 2) := by decide +kernel
theorem dL_isAsGuessed_186 : decode cL_isAsGuessed 186 = .ok (.iload_n 1, 1) := by decide +kernel
theorem dL_isAsGuessed_187 : decode cL_isAsGuessed 187 = .ok (.ifCond .eq 28, 3) := by decide +kernel
theorem dL_isAsGuessed_190 : decode cL_isAsGuessed 190 = .ok (.aload_n 0, 1) := by decide +kernel
theorem dL_isAsGuessed_191 : decode cL_isAsGuessed 191 = .ok (.iload_n 3, 1) := by decide +kernel
theorem dL_isAsGuessed_192 : decode cL_isAsGuessed 192 = .ok (.iload 4, 2) := by decide +kernel
theorem dL_isAsGuessed_194 : decode cL_isAsGuessed 194 = .ok (.iload 6, 2) := by decide +kernel
theorem dL_isAsGuessed_196 : decode cL_isAsGuessed 196 = .ok (.invokevirtual 79, 3) := by decide +kernel
theorem dL_isAsGuessed_199 : decode cL_isAsGuessed 199 = .ok (.aload_n 0, 1) := by decide +kernel
theorem dL_isAsGuessed_200 : decode cL_isAsGuessed 200 = .ok (.iload_n 3, 1) := by decide +kernel
theorem dL_isAsGuessed_201 : decode cL_isAsGuessed 201 = .ok (.iload 4, 2) := by decide +kernel
theorem dL_isAsGuessed_203 : decode cL_isAsGuessed 203 = .ok (.iload 5, 2) := by decide +kernel
theorem dL_isAsGuessed_205 : decode cL_isAsGuessed 205 = .ok (.invokevirtual 79, 3) := by decide +kernel
theorem dL_isAsGuessed_208 : decode cL_isAsGuessed 208 = .ok (.if_icmp .gt 7, 3) := by decide +kernel
theorem dL_isAsGuessed_211 : decode cL_isAsGuessed 211 = .ok (.iconst 1, 1) := by decide +kernel
theorem dL_isAsGuessed_212 : decode cL_isAsGuessed 212 = .ok (.goto 4, 3) := by decide +kernel
theorem dL_isAsGuessed_215 : decode cL_isAsGuessed 215 = .ok (.iconst 0, 1) := by decide +kernel
theorem dL_isAsGuessed_216 : decode cL_isAsGuessed 216 = .ok (.istore_n 1, 1) := by decide +kernel
theorem dL_isAsGuessed_217 : decode cL_isAsGuessed 217 = .ok (.iinc 2 1, 3) := by decide +kernel
theorem dL_isAsGuessed_220 : decode cL_isAsGuessed 220 = .ok (.goto (-174), 3) := by decide +kernel
theorem dL_isAsGuessed_223 : decode cL_isAsGuessed 223 = .ok (.iload_n 1, 1) := by decide +kernel
theorem dL_isAsGuessed_224 : decode cL_isAsGuessed 224 = .ok (.ireturn, 1) := by decide +kernel
theorem dL_holds_0 : decode cL_holds 0 = .ok (.aload_n 0, 1) := by decide +kernel
theorem dL_holds_1 : decode cL_holds 1 = .ok (.iconst 0, 1) := by decide +kernel
theorem dL_holds_2 : decode cL_holds 2 = .ok (.invokevirtual 9, 3) := by decide +kernel
theorem dL_holds_5 : decode cL_holds 5 = .ok (.istore_n 1, 1) := by decide +kernel
theorem dL_holds_6 : decode cL_holds 6 = .ok (.aload_n 0, 1) := by decide +kernel
theorem dL_holds_7 : decode cL_holds 7 = .ok (.iconst 2, 1) := by decide +kernel
theorem dL_holds_8 : decode cL_holds 8 = .ok (.invokevirtual 9, 3) := by decide +kernel
theorem dL_holds_11 : decode cL_holds 11 = .ok (.istore_n 2, 1) := by decide +kernel
theorem dL_holds_12 : decode cL_holds 12 = .ok (.aload_n 0, 1) := by decide +kernel
theorem dL_holds_13 : decode cL_holds 13 = .ok (.iconst 1, 1) := by decide +kernel
theorem dL_holds_14 : decode cL_holds 14 = .ok (.invokevirtual 9, 3) := by decide +kernel
theorem dL_holds_17 : decode cL_holds 17 = .ok (.iconst 1, 1) := by decide +kernel
theorem dL_holds_18 : decode cL_holds 18 = .ok (.if_icmp .ne 7, 3) := by decide +kernel
theorem dL_holds_21 : decode cL_holds 21 = .ok (.iconst 1, 1) := by decide +kernel
theorem dL_holds_22 : decode cL_holds 22 = .ok (.goto 4, 3) := by decide +kernel
theorem dL_holds_25 : decode cL_holds 25 = .ok (.iconst 0, 1) := by decide +kernel
theorem dL_holds_26 : decode cL_holds 26 = .ok (.istore_n 3, 1) := by decide +kernel
theorem dL_holds_27 : decode cL_holds 27 = .ok (.iconst 0, 1) := by decide +kernel
theorem dL_holds_28 : decode cL_holds 28 = .ok (.istore 4, 2) := by decide +kernel
theorem dL_holds_30 : decode cL_holds 30 = .ok (.iconst 0, 1) := by decide +kernel
theorem dL_holds_31 : decode cL_holds 31 = .ok (.istore 5, 2) := by decide +kernel
theorem dL_holds_33 : decode cL_holds 33 = .ok (.iconst 0, 1) := by decide +kernel
theorem dL_holds_34 : decode cL_holds 34 = .ok (.istore 6, 2) := by decide +kernel
theorem dL_holds_36 : decode cL_holds 36 = .ok (.iconst 0, 1) := by decide +kernel
theorem dL_holds_37 : decode cL_holds 37 = .ok (.istore 7, 2) := by decide +kernel
theorem dL_holds_39 : decode cL_holds 39 = .ok (.iload_n 3, 1) := by decide +kernel
theorem dL_holds_40 : decode cL_holds 40 = .ok (.ifCond .eq 30, 3) := by decide +kernel
theorem dL_holds_43 : decode cL_holds 43 = .ok (.iload_n 2, 1) := by decide +kernel
theorem dL_holds_44 : decode cL_holds 44 = .ok (.iload_n 1, 1) := by decide +kernel
theorem dL_holds_45 : decode cL_holds 45 = .ok (.aload_n 0, 1) := by decide +kernel
theorem dL_holds_46 : decode cL_holds 46 = .ok (.iconst 0, 1) := by decide +kernel
theorem dL_holds_47 : decode cL_holds 47 = .ok (.invokevirtual 34, 3) := by decide +kernel
theorem dL_holds_50 : decode cL_holds 50 = .ok (.iadd, 1) := by decide +kernel
theorem dL_holds_51 : decode cL_holds 51 = .ok (.iconst 1, 1) := by decide +kernel
theorem dL_holds_52 : decode cL_holds 52 = .ok (.isub, 1) := by decide +kernel
theorem dL_holds_53 : decode cL_holds 53 = .ok (.aload_n 0, 1) := by decide +kernel
theorem dL_holds_54 : decode cL_holds 54 = .ok (.iconst 0, 1) := by decide +kernel
theorem dL_holds_55 : decode cL_holds 55 = .ok (.invokevirtual 34, 3) := by decide +kernel
theorem dL_holds_58 : decode cL_holds 58 = .ok (.idiv, 1) := by decide +kernel
theorem dL_holds_59 : decode cL_holds 59 = .ok (.if_icmp .ne 7, 3) := by decide +kernel
theorem dL_holds_62 : decode cL_holds 62 = .ok (.iconst 1, 1) := by decide +kernel
theorem dL_holds_63 : decode cL_holds 63 = .ok (.goto 24, 3) := by decide +kernel
theorem dL_holds_66 : decode cL_holds 66 = .ok (.iconst 0, 1) := by decide +kernel
theorem dL_holds_67 : decode cL_holds 67 = .ok (.goto 20, 3) := by decide +kernel
theorem dL_holds_70 : decode cL_holds 70 = .ok (.iload_n 2, 1) := by decide +kernel
theorem dL_holds_71 : decode cL_holds 71 = .ok (.ifCond .ne 15, 3) := by decide +kernel
theorem dL_holds_74 : decode cL_holds 74 = .ok (.aload_n 0, 1) := by decide +kernel
theorem dL_holds_75 : decode cL_holds 75 = .ok (.iconst 3, 1) := by decide +kernel
theorem dL_holds_76 : decode cL_holds 76 = .ok (.invokevirtual 9, 3) := by decide +kernel
theorem dL_holds_79 : decode cL_holds 79 = .ok (.ifCond .ne 7, 3) := by decide +kernel
theorem dL_holds_82 : decode cL_holds 82 = .ok (.iconst 1, 1) := by decide +kernel
theorem dL_holds_83 : decode cL_holds 83 = .ok (.goto 4, 3) := by decide +kernel
theorem dL_holds_86 : decode cL_holds 86 = .ok (.iconst 0, 1) := by decide +kernel
theorem dL_holds_87 : decode cL_holds 87 = .ok (.istore 8, 2) := by decide +kernel
theorem dL_holds_89 : decode cL_holds 89 = .ok (.iconst 0, 1) := by decide +kernel
theorem dL_holds_90 : decode cL_holds 90 = .ok (.istore 9, 2) := by decide +kernel
theorem dL_holds_92 : decode cL_holds 92 = .ok (.iload 9, 2) := by decide +kernel
theorem dL_holds_94 : decode cL_holds 94 = .ok (.iload_n 1, 1) := by decide +kernel
theorem dL_holds_95 : decode cL_holds 95 = .ok (.if_icmp .ge 242, 3) := by decide +kernel
theorem dL_holds_98 : decode cL_holds 98 = .ok (.iload 8, 2) := by decide +kernel
theorem dL_holds_100 : decode cL_holds 100 = .ok (.ifCond .eq 237, 3) := by decide +kernel
theorem dL_holds_103 : decode cL_holds 103 = .ok (.aload_n 0, 1) := by decide +kernel
theorem dL_holds_104 : decode cL_holds 104 = .ok (.iload 9, 2) := by decide +kernel
theorem dL_holds_106 : decode cL_holds 106 = .ok (.iconst 0, 1) := by decide +kernel
theorem dL_holds_107 : decode cL_holds 107 = .ok (.invokevirtual 24, 3) := by decide +kernel
theorem dL_holds_110 : decode cL_holds 110 = .ok (.sipush 10000, 3) := by decide +kernel
theorem dL_holds_113 : decode cL_holds 113 = .ok (.isub, 1) := by decide +kernel
theorem dL_holds_114 : decode cL_holds 114 = .ok (.istore 10, 2) := by decide +kernel
theorem dL_holds_116 : decode cL_holds 116 = .ok (.aload_n 0, 1) := by decide +kernel
theorem dL_holds_117 : decode cL_holds 117 = .ok (.iload 9, 2) := by decide +kernel
theorem dL_holds_119 : decode cL_holds 119 = .ok (.iconst 1, 1) := by decide +kernel
theorem dL_holds_120 : decode cL_holds 120 = .ok (.invokevirtual 24, 3) := by decide +kernel
theorem dL_holds_123 : decode cL_holds 123 = .ok (.sipush 10000, 3) := by decide +kernel
theorem dL_holds_126 : decode cL_holds 126 = .ok (.isub, 1) := by decide +kernel
theorem dL_holds_127 : decode cL_holds 127 = .ok (.istore 11, 2) := by decide +kernel
theorem dL_holds_129 : decode cL_holds 129 = .ok (.iload 10, 2) := by decide +kernel
theorem dL_holds_131 : decode cL_holds 131 = .ok (.sipush (-2048), 3) := by decide +kernel
theorem dL_holds_134 : decode cL_holds 134 = .ok (.if_icmp .lt 15, 3) := by decide +kernel
theorem dL_holds_137 : decode cL_holds 137 = .ok (.iload 10, 2) := by decide +kernel
theorem dL_holds_139 : decode cL_holds 139 = .ok (.sipush 2047, 3) := by decide +kernel
theorem dL_holds_142 : decode cL_holds 142 = .ok (.if_icmp .gt 7, 3) := by decide +kernel
theorem dL_holds_145 : decode cL_holds 145 = .ok (.iconst 1, 1) := by decide +kernel
theorem dL_holds_146 : decode cL_holds 146 = .ok (.goto 4, 3) := by decide +kernel
theorem dL_holds_149 : decode cL_holds 149 = .ok (.iconst 0, 1) := by decide +kernel
theorem dL_holds_150 : decode cL_holds 150 = .ok (.istore 8, 2) := by decide +kernel
theorem dL_holds_152 : decode cL_holds 152 = .ok (.iload_n 3, 1) := by decide +kernel
theorem dL_holds_153 : decode cL_holds 153 = .ok (.ifCond .eq 147, 3) := by decide +kernel
theorem dL_holds_156 : decode cL_holds 156 = .ok (.iload 10, 2) := by decide +kernel
theorem dL_holds_158 : decode cL_holds 158 = .ok (.iload 11, 2) := by decide +kernel
theorem dL_holds_160 : decode cL_holds 160 = .ok (.isub, 1) := by decide +kernel
theorem dL_holds_161 : decode cL_holds 161 = .ok (.istore 12, 2) := by decide +kernel
theorem dL_holds_163 : decode cL_holds 163 = .ok (.iload 8, 2) := by decide +kernel
theorem dL_holds_165 : decode cL_holds 165 = .ok (.ifCond .eq 74, 3) := by decide +kernel
theorem dL_holds_168 : decode cL_holds 168 = .ok (.iload 11, 2) := by decide +kernel
theorem dL_holds_170 : decode cL_holds 170 = .ok (.sipush (-2048), 3) := by decide +kernel
theorem dL_holds_173 : decode cL_holds 173 = .ok (.if_icmp .lt 66, 3) := by decide +kernel
theorem dL_holds_176 : decode cL_holds 176 = .ok (.iload 11, 2) := by decide +kernel
theorem dL_holds_178 : decode cL_holds 178 = .ok (.sipush 2047, 3) := by decide +kernel
theorem dL_holds_181 : decode cL_holds 181 = .ok (.if_icmp .gt 58, 3) := by decide +kernel
theorem dL_holds_184 : decode cL_holds 184 = .ok (.aload_n 0, 1) := by decide +kernel
theorem dL_holds_185 : decode cL_holds 185 = .ok (.iload 9, 2) := by decide +kernel
theorem dL_holds_187 : decode cL_holds 187 = .ok (.iconst 5, 1) := by decide +kernel
theorem dL_holds_188 : decode cL_holds 188 = .ok (.invokevirtual 24, 3) := by decide +kernel
theorem dL_holds_191 : decode cL_holds 191 = .ok (.iload 12, 2) := by decide +kernel
theorem dL_holds_193 : decode cL_holds 193 = .ok (.sipush 10000, 3) := by decide +kernel
theorem dL_holds_196 : decode cL_holds 196 = .ok (.iadd, 1) := by decide +kernel
theorem dL_holds_197 : decode cL_holds 197 = .ok (.if_icmp .ne 42, 3) := by decide +kernel
theorem dL_holds_200 : decode cL_holds 200 = .ok (.aload_n 0, 1) := by decide +kernel
theorem dL_holds_201 : decode cL_holds 201 = .ok (.iload 9, 2) := by decide +kernel
theorem dL_holds_203 : decode cL_holds 203 = .ok (.iconst 3, 1) := by decide +kernel
theorem dL_holds_204 : decode cL_holds 204 = .ok (.invokevirtual 24, 3) := by decide +kernel
theorem dL_holds_207 : decode cL_holds 207 = .ok (.iconst (-1), 1) := by decide +kernel
theorem dL_holds_208 : decode cL_holds 208 = .ok (.if_icmp .ne 7, 3) := by decide +kernel
theorem dL_holds_211 : decode cL_holds 211 = .ok (.iconst 1, 1) := by decide +kernel
theorem dL_holds_212 : decode cL_holds 212 = .ok (.goto 4, 3) := by decide +kernel
theorem dL_holds_215 : decode cL_holds 215 = .ok (.iconst 0, 1) := by decide +kernel
theorem dL_holds_216 : decode cL_holds 216 = .ok (.iload 9, 2) := by decide +kernel
theorem dL_holds_218 : decode cL_holds 218 = .ok (.aload_n 0, 1) := by decide +kernel
theorem dL_holds_219 : decode cL_holds 219 = .ok (.iconst 0, 1) := by decide +kernel
theorem dL_holds_220 : decode cL_holds 220 = .ok (.invokevirtual 34, 3) := by decide +kernel
theorem dL_holds_223 : decode cL_holds 223 = .ok (.irem, 1) := by decide +kernel
theorem dL_holds_224 : decode cL_holds 224 = .ok (.ifCond .ne 7, 3) := by decide +kernel
theorem dL_holds_227 : decode cL_holds 227 = .ok (.iconst 1, 1) := by decide +kernel
theorem dL_holds_228 : decode cL_holds 228 = .ok (.goto 4, 3) := by decide +kernel
theorem dL_holds_231 : decode cL_holds 231 = .ok (.iconst 0, 1) := by decide +kernel
theorem dL_holds_232 : decode cL_holds 232 = .ok (.if_icmp .ne 7, 3) := by decide +kernel
theorem dL_holds_235 : decode cL_holds 235 = .ok (.iconst 1, 1) := by decide +kernel
theorem dL_holds_236 : decode cL_holds 236 = .ok (.goto 4, 3) := by decide +kernel
theorem dL_holds_239 : decode cL_holds 239 = .ok (.iconst 0, 1) := by decide +kernel
theorem dL_holds_240 : decode cL_holds 240 = .ok (.istore 8, 2) := by decide +kernel
theorem dL_holds_242 : decode cL_holds 242 = .ok (.iload 4, 2) := by decide +kernel
theorem dL_holds_244 : decode cL_holds 244 = .ok (.iload 12, 2) := by decide +kernel
theorem dL_holds_246 : decode cL_holds 246 = .ok (.iload 12, 2) := by decide +kernel
theorem dL_holds_248 : decode cL_holds 248 = .ok (.imul, 1) := by decide +kernel
theorem dL_holds_249 : decode cL_holds 249 = .ok (.iadd, 1) := by decide +kernel
theorem dL_holds_250 : decode cL_holds 250 = .ok (.istore 4, 2) := by decide +kernel
theorem dL_holds_252 : decode cL_holds 252 = .ok (.iload 12, 2) := by decide +kernel
theorem dL_holds_254 : decode cL_holds 254 = .ok (.iload 6, 2) := by decide +kernel
theorem dL_holds_256 : decode cL_holds 256 = .ok (.if_icmp .le 8, 3) := by decide +kernel
theorem dL_holds_259 : decode cL_holds 259 = .ok (.iload 12, 2) := by decide +kernel
theorem dL_holds_261 : decode cL_holds 261 = .ok (.goto 19, 3) := by decide +kernel
theorem dL_holds_264 : decode cL_holds 264 = .ok (.iload 12, 2) := by decide +kernel
theorem dL_holds_266 : decode cL_holds 266 = .ok (.ineg, 1) := by decide +kernel
theorem dL_holds_267 : decode cL_holds 267 = .ok (.iload 6, 2) := by decide +kernel
theorem dL_holds_269 : decode cL_holds 269 = .ok (.if_icmp .le 9, 3) := by decide +kernel
theorem dL_holds_272 : decode cL_holds 272 = .ok (.iload 12, 2) := by decide +kernel
theorem dL_holds_274 : decode cL_holds 274 = .ok (.ineg, 1) := by decide +kernel
theorem dL_holds_275 : decode cL_holds 275 = .ok (.goto 5, 3) := by decide +kernel
theorem dL_holds_278 : decode cL_holds 278 = .ok (.iload 6, 2) := by decide +kernel
theorem dL_holds_280 : decode cL_holds 280 = .ok (.istore 6, 2) := by decide +kernel
theorem dL_holds_282 : decode cL_holds 282 = .ok (.iload 7, 2) := by decide +kernel
theorem dL_holds_284 : decode cL_holds 284 = .ok (.iload 12, 2) := by decide +kernel
theorem dL_holds_286 : decode cL_holds 286 = .ok (.ifCond .ne 7, 3) := by decide +kernel
theorem dL_holds_289 : decode cL_holds 289 = .ok (.iconst 1, 1) := by decide +kernel
theorem dL_holds_290 : decode cL_holds 290 = .ok (.goto 4, 3) := by decide +kernel
theorem dL_holds_293 : decode cL_holds 293 = .ok (.iconst 0, 1) := by decide +kernel
theorem dL_holds_294 : decode cL_holds 294 = .ok (.iadd, 1) := by decide +kernel
theorem dL_holds_295 : decode cL_holds 295 = .ok (.istore 7, 2) := by decide +kernel
theorem dL_holds_297 : decode cL_holds 297 = .ok (.goto 34, 3) := by decide +kernel
theorem dL_holds_300 : decode cL_holds 300 = .ok (.iload 8, 2) := by decide +kernel
theorem dL_holds_302 : decode cL_holds 302 = .ok (.ifCond .eq 26, 3) := by decide +kernel
theorem dL_holds_305 : decode cL_holds 305 = .ok (.iload 11, 2) := by decide +kernel
theorem dL_holds_307 : decode cL_holds 307 = .ok (.sipush (-10001), 3) := by decide +kernel
theorem dL_holds_310 : decode cL_holds 310 = .ok (.if_icmp .ne 18, 3) := by decide +kernel
theorem dL_holds_313 : decode cL_holds 313 = .ok (.aload_n 0, 1) := by decide +kernel
theorem dL_holds_314 : decode cL_holds 314 = .ok (.iload 9, 2) := by decide +kernel
theorem dL_holds_316 : decode cL_holds 316 = .ok (.iconst 4, 1) := by decide +kernel
theorem dL_holds_317 : decode cL_holds 317 = .ok (.invokevirtual 24, 3) := by decide +kernel
theorem dL_holds_320 : decode cL_holds 320 = .ok (.iconst (-1), 1) := by decide +kernel
theorem dL_holds_321 : decode cL_holds 321 = .ok (.if_icmp .ne 7, 3) := by decide +kernel
theorem dL_holds_324 : decode cL_holds 324 = .ok (.iconst 1, 1) := by decide +kernel
theorem dL_holds_325 : decode cL_holds 325 = .ok (.goto 4, 3) := by decide +kernel
theorem dL_holds_328 : decode cL_holds 328 = .ok (.iconst 0, 1) := by decide +kernel
theorem dL_holds_329 : decode cL_holds 329 = .ok (.istore 8, 2) := by decide +kernel
theorem dL_holds_331 : decode cL_holds 331 = .ok (.iinc 9 1, 3) := by decide +kernel
theorem dL_holds_334 : decode cL_holds 334 = .ok (.goto (-242), 3) := by decide +kernel
theorem dL_holds_337 : decode cL_holds 337 = .ok (.iconst 0, 1) := by decide +kernel
theorem dL_holds_338 : decode cL_holds 338 = .ok (.istore 9, 2) := by decide +kernel
theorem dL_holds_340 : decode cL_holds 340 = .ok (.iload 9, 2) := by decide +kernel
theorem dL_holds_342 : decode cL_holds 342 = .ok (.iload_n 2, 1) := by decide +kernel
theorem dL_holds_343 : decode cL_holds 343 = .ok (.if_icmp .ge 100, 3) := by decide +kernel
theorem dL_holds_346 : decode cL_holds 346 = .ok (.iload 8, 2) := by decide +kernel
theorem dL_holds_348 : decode cL_holds 348 = .ok (.ifCond .eq 95, 3) := by decide +kernel
theorem dL_holds_351 : decode cL_holds 351 = .ok (.iload 5, 2) := by decide +kernel
theorem dL_holds_353 : decode cL_holds 353 = .ok (.aload_n 0, 1) := by decide +kernel
theorem dL_holds_354 : decode cL_holds 354 = .ok (.iload 9, 2) := by decide +kernel
theorem dL_holds_356 : decode cL_holds 356 = .ok (.iconst 4, 1) := by decide +kernel
theorem dL_holds_357 : decode cL_holds 357 = .ok (.invokevirtual 64, 3) := by decide +kernel
theorem dL_holds_360 : decode cL_holds 360 = .ok (.iadd, 1) := by decide +kernel
theorem dL_holds_361 : decode cL_holds 361 = .ok (.istore 5, 2) := by decide +kernel
theorem dL_holds_363 : decode cL_holds 363 = .ok (.iload 9, 2) := by decide +kernel
theorem dL_holds_365 : decode cL_holds 365 = .ok (.aload_n 0, 1) := by decide +kernel
theorem dL_holds_366 : decode cL_holds 366 = .ok (.iconst 0, 1) := by decide +kernel
theorem dL_holds_367 : decode cL_holds 367 = .ok (.invokevirtual 34, 3) := by decide +kernel
theorem dL_holds_370 : decode cL_holds 370 = .ok (.imul, 1) := by decide +kernel
theorem dL_holds_371 : decode cL_holds 371 = .ok (.aload_n 0, 1) := by decide +kernel
theorem dL_holds_372 : decode cL_holds 372 = .ok (.iload 9, 2) := by decide +kernel
theorem dL_holds_374 : decode cL_holds 374 = .ok (.iconst 0, 1) := by decide +kernel
theorem dL_holds_375 : decode cL_holds 375 = .ok (.invokevirtual 64, 3) := by decide +kernel
theorem dL_holds_378 : decode cL_holds 378 = .ok (.iadd, 1) := by decide +kernel
theorem dL_holds_379 : decode cL_holds 379 = .ok (.iconst 1, 1) := by decide +kernel
theorem dL_holds_380 : decode cL_holds 380 = .ok (.isub, 1) := by decide +kernel
theorem dL_holds_381 : decode cL_holds 381 = .ok (.istore 10, 2) := by decide +kernel
theorem dL_holds_383 : decode cL_holds 383 = .ok (.aload_n 0, 1) := by decide +kernel
theorem dL_holds_384 : decode cL_holds 384 = .ok (.iload 9, 2) := by decide +kernel
theorem dL_holds_386 : decode cL_holds 386 = .ok (.iconst 3, 1) := by decide +kernel
theorem dL_holds_387 : decode cL_holds 387 = .ok (.invokevirtual 64, 3) := by decide +kernel
theorem dL_holds_390 : decode cL_holds 390 = .ok (.iconst 1, 1) := by decide +kernel
theorem dL_holds_391 : decode cL_holds 391 = .ok (.if_icmp .ne 22, 3) := by decide +kernel
theorem dL_holds_394 : decode cL_holds 394 = .ok (.aload_n 0, 1) := by decide +kernel
theorem dL_holds_395 : decode cL_holds 395 = .ok (.iload 10, 2) := by decide +kernel
theorem dL_holds_397 : decode cL_holds 397 = .ok (.iconst 4, 1) := by decide +kernel
theorem dL_holds_398 : decode cL_holds 398 = .ok (.invokevirtual 24, 3) := by decide +kernel
theorem dL_holds_401 : decode cL_holds 401 = .ok (.iconst (-1), 1) := by decide +kernel
theorem dL_holds_402 : decode cL_holds 402 = .ok (.if_icmp .ne 7, 3) := by decide +kernel
theorem dL_holds_405 : decode cL_holds 405 = .ok (.iconst 1, 1) := by decide +kernel
theorem dL_holds_406 : decode cL_holds 406 = .ok (.goto 29, 3) := by decide +kernel
theorem dL_holds_409 : decode cL_holds 409 = .ok (.iconst 0, 1) := by decide +kernel
theorem dL_holds_410 : decode cL_holds 410 = .ok (.goto 25, 3) := by decide +kernel
theorem dL_holds_413 : decode cL_holds 413 = .ok (.aload_n 0, 1) := by decide +kernel
theorem dL_holds_414 : decode cL_holds 414 = .ok (.iload 10, 2) := by decide +kernel
theorem dL_holds_416 : decode cL_holds 416 = .ok (.iconst 4, 1) := by decide +kernel
theorem dL_holds_417 : decode cL_holds 417 = .ok (.invokevirtual 24, 3) := by decide +kernel
theorem dL_holds_420 : decode cL_holds 420 = .ok (.aload_n 0, 1) := by decide +kernel
theorem dL_holds_421 : decode cL_holds 421 = .ok (.iload 9, 2) := by decide +kernel
theorem dL_holds_423 : decode cL_holds 423 = .ok (.iconst 5, 1) := by decide +kernel
theorem dL_holds_424 : decode cL_holds 424 = .ok (.invokevirtual 64, 3) := by decide +kernel
theorem dL_holds_427 : decode cL_holds 427 = .ok (.if_icmp .ne 7, 3) := by decide +kernel
theorem dL_holds_430 : decode cL_holds 430 = .ok (.iconst 1, 1) := by decide +kernel
theorem dL_holds_431 : decode cL_holds 431 = .ok (.goto 4, 3) := by decide +kernel
theorem dL_holds_434 : decode cL_holds 434 = .ok (.iconst 0, 1) := by decide +kernel
theorem dL_holds_435 : decode cL_holds 435 = .ok (.istore 8, 2) := by decide +kernel
theorem dL_holds_437 : decode cL_holds 437 = .ok (.iinc 9 1, 3) := by decide +kernel
theorem dL_holds_440 : decode cL_holds 440 = .ok (.goto (-100), 3) := by decide +kernel
theorem dL_holds_443 : decode cL_holds 443 = .ok (.iload 8, 2) := by decide +kernel
theorem dL_holds_445 : decode cL_holds 445 = .ok (.ifCond .eq 56, 3) := by decide +kernel
theorem dL_holds_448 : decode cL_holds 448 = .ok (.aload_n 0, 1) := by decide +kernel
theorem dL_holds_449 : decode cL_holds 449 = .ok (.iconst 4, 1) := by decide +kernel
theorem dL_holds_450 : decode cL_holds 450 = .ok (.invokevirtual 9, 3) := by decide +kernel
theorem dL_holds_453 : decode cL_holds 453 = .ok (.iload 4, 2) := by decide +kernel
theorem dL_holds_455 : decode cL_holds 455 = .ok (.if_icmp .ne 46, 3) := by decide +kernel
theorem dL_holds_458 : decode cL_holds 458 = .ok (.aload_n 0, 1) := by decide +kernel
theorem dL_holds_459 : decode cL_holds 459 = .ok (.iconst 5, 1) := by decide +kernel
theorem dL_holds_460 : decode cL_holds 460 = .ok (.invokevirtual 9, 3) := by decide +kernel
theorem dL_holds_463 : decode cL_holds 463 = .ok (.iload 5, 2) := by decide +kernel
theorem dL_holds_465 : decode cL_holds 465 = .ok (.if_icmp .ne 36, 3) := by decide +kernel
theorem dL_holds_468 : decode cL_holds 468 = .ok (.iload 5, 2) := by decide +kernel
theorem dL_holds_470 : decode cL_holds 470 = .ok (.iload 4, 2) := by decide +kernel
theorem dL_holds_472 : decode cL_holds 472 = .ok (.if_icmp .ne 29, 3) := by decide +kernel
theorem dL_holds_475 : decode cL_holds 475 = .ok (.aload_n 0, 1) := by decide +kernel
theorem dL_holds_476 : decode cL_holds 476 = .ok (.bipush 6, 2) := by decide +kernel
theorem dL_holds_478 : decode cL_holds 478 = .ok (.invokevirtual 9, 3) := by decide +kernel
theorem dL_holds_481 : decode cL_holds 481 = .ok (.iload 6, 2) := by decide +kernel
theorem dL_holds_483 : decode cL_holds 483 = .ok (.if_icmp .ne 18, 3) := by decide +kernel
theorem dL_holds_486 : decode cL_holds 486 = .ok (.aload_n 0, 1) := by decide +kernel
theorem dL_holds_487 : decode cL_holds 487 = .ok (.bipush 7, 2) := by decide +kernel
theorem dL_holds_489 : decode cL_holds 489 = .ok (.invokevirtual 9, 3) := by decide +kernel
theorem dL_holds_492 : decode cL_holds 492 = .ok (.iload 7, 2) := by decide +kernel
theorem dL_holds_494 : decode cL_holds 494 = .ok (.if_icmp .ne 7, 3) := by decide +kernel
theorem dL_holds_497 : decode cL_holds 497 = .ok (.iconst 1, 1) := by decide +kernel
theorem dL_holds_498 : decode cL_holds 498 = .ok (.goto 4, 3) := by decide +kernel
theorem dL_holds_501 : decode cL_holds 501 = .ok (.iconst 0, 1) := by decide +kernel
theorem dL_holds_502 : decode cL_holds 502 = .ok (.istore 8, 2) := by decide +kernel
theorem dL_holds_504 : decode cL_holds 504 = .ok (.iload 8, 2) := by decide +kernel
theorem dL_holds_506 : decode cL_holds 506 = .ok (.ifCond .eq 54, 3) := by decide +kernel
theorem dL_holds_509 : decode cL_holds 509 = .ok (.aload_n 0, 1) := by decide +kernel
theorem dL_holds_510 : decode cL_holds 510 = .ok (.bipush 8, 2) := by decide +kernel
theorem dL_holds_512 : decode cL_holds 512 = .ok (.invokevirtual 9, 3) := by decide +kernel
theorem dL_holds_515 : decode cL_holds 515 = .ok (.iload_n 3, 1) := by decide +kernel
theorem dL_holds_516 : decode cL_holds 516 = .ok (.ifCond .eq 14, 3) := by decide +kernel
theorem dL_holds_519 : decode cL_holds 519 = .ok (.bipush 14, 2) := by decide +kernel
theorem dL_holds_521 : decode cL_holds 521 = .ok (.iload_n 2, 1) := by decide +kernel
theorem dL_holds_522 : decode cL_holds 522 = .ok (.imul, 1) := by decide +kernel
theorem dL_holds_523 : decode cL_holds 523 = .ok (.iconst 4, 1) := by decide +kernel
theorem dL_holds_524 : decode cL_holds 524 = .ok (.iload_n 1, 1) := by decide +kernel
theorem dL_holds_525 : decode cL_holds 525 = .ok (.imul, 1) := by decide +kernel
theorem dL_holds_526 : decode cL_holds 526 = .ok (.iadd, 1) := by decide +kernel
theorem dL_holds_527 : decode cL_holds 527 = .ok (.goto 4, 3) := by decide +kernel
theorem dL_holds_530 : decode cL_holds 530 = .ok (.iconst 0, 1) := by decide +kernel
theorem dL_holds_531 : decode cL_holds 531 = .ok (.if_icmp .ne 29, 3) := by decide +kernel
theorem dL_holds_534 : decode cL_holds 534 = .ok (.aload_n 0, 1) := by decide +kernel
theorem dL_holds_535 : decode cL_holds 535 = .ok (.invokevirtual 85, 3) := by decide +kernel
theorem dL_holds_538 : decode cL_holds 538 = .ok (.iload_n 3, 1) := by decide +kernel
theorem dL_holds_539 : decode cL_holds 539 = .ok (.ifCond .eq 12, 3) := by decide +kernel
theorem dL_holds_542 : decode cL_holds 542 = .ok (.iload 4, 2) := by decide +kernel
theorem dL_holds_544 : decode cL_holds 544 = .ok (.i2d, 1) := by decide +kernel
theorem dL_holds_545 : decode cL_holds 545 = .ok (.iload_n 1, 1) := by decide +kernel
theorem dL_holds_546 : decode cL_holds 546 = .ok (.i2d, 1) := by decide +kernel
theorem dL_holds_547 : decode cL_holds 547 = .ok (.ddiv, 1) := by decide +kernel
theorem dL_holds_548 : decode cL_holds 548 = .ok (.goto 4, 3) := by decide +kernel
theorem dL_holds_551 : decode cL_holds 551 = .ok (.dconst 0, 1) := by decide +kernel
theorem dL_holds_552 : decode cL_holds 552 = .ok (.dcmp .l, 1) := by decide +kernel
theorem dL_holds_553 : decode cL_holds 553 = .ok (.ifCond .ne 7, 3) := by decide +kernel
theorem dL_holds_556 : decode cL_holds 556 = .ok (.iconst 1, 1) := by decide +kernel
theorem dL_holds_557 : decode cL_holds 557 = .ok (.goto 4, 3) := by decide +kernel
theorem dL_holds_560 : decode cL_holds 560 = .ok (.iconst 0, 1) := by decide +kernel
theorem dL_holds_561 : decode cL_holds 561 = .ok (.ireturn, 1) := by decide +kernel
theorem dL_law_0 : decode cL_law 0 = .ok (.new 10, 3) := by decide +kernel
theorem dL_law_3 : decode cL_law 3 = .ok (.dup, 1) := by decide +kernel
theorem dL_law_4 : decode cL_law 4 = .ok (.invokespecial 89, 3) := by decide +kernel
theorem dL_law_7 : decode cL_law 7 = .ok (.astore_n 1, 1) := by decide +kernel
theorem dL_law_8 : decode cL_law 8 = .ok (.aload_n 1, 1) := by decide +kernel
theorem dL_law_9 : decode cL_law 9 = .ok (.invokestatic 90, 3) := by decide +kernel
theorem dL_law_12 : decode cL_law 12 = .ok (.ifCond .eq 25, 3) := by decide +kernel
theorem dL_law_15 : decode cL_law 15 = .ok (.aload_n 1, 1) := by decide +kernel
theorem dL_law_16 : decode cL_law 16 = .ok (.invokevirtual 93, 3) := by decide +kernel
theorem dL_law_19 : decode cL_law 19 = .ok (.fconst 0, 1) := by decide +kernel
theorem dL_law_20 : decode cL_law 20 = .ok (.fcmp .l, 1) := by decide +kernel
theorem dL_law_21 : decode cL_law 21 = .ok (.ifCond .ne 16, 3) := by decide +kernel
theorem dL_law_24 : decode cL_law 24 = .ok (.aload_n 1, 1) := by decide +kernel
theorem dL_law_25 : decode cL_law 25 = .ok (.bipush 11, 2) := by decide +kernel
theorem dL_law_27 : decode cL_law 27 = .ok (.invokevirtual 9, 3) := by decide +kernel
theorem dL_law_30 : decode cL_law 30 = .ok (.ifCond .ne 7, 3) := by decide +kernel
theorem dL_law_33 : decode cL_law 33 = .ok (.iconst 1, 1) := by decide +kernel
theorem dL_law_34 : decode cL_law 34 = .ok (.goto 4, 3) := by decide +kernel
theorem dL_law_37 : decode cL_law 37 = .ok (.iconst 0, 1) := by decide +kernel
theorem dL_law_38 : decode cL_law 38 = .ok (.istore_n 2, 1) := by decide +kernel
theorem dL_law_39 : decode cL_law 39 = .ok (.aload_n 0, 1) := by decide +kernel
theorem dL_law_40 : decode cL_law 40 = .ok (.arraylength, 1) := by decide +kernel
theorem dL_law_41 : decode cL_law 41 = .ok (.iconst 2, 1) := by decide +kernel
theorem dL_law_42 : decode cL_law 42 = .ok (.idiv, 1) := by decide +kernel
theorem dL_law_43 : decode cL_law 43 = .ok (.bipush 24, 2) := by decide +kernel
theorem dL_law_45 : decode cL_law 45 = .ok (.if_icmp .le 8, 3) := by decide +kernel
theorem dL_law_48 : decode cL_law 48 = .ok (.bipush 24, 2) := by decide +kernel
theorem dL_law_50 : decode cL_law 50 = .ok (.goto 7, 3) := by decide +kernel
theorem dL_law_53 : decode cL_law 53 = .ok (.aload_n 0, 1) := by decide +kernel
theorem dL_law_54 : decode cL_law 54 = .ok (.arraylength, 1) := by decide +kernel
theorem dL_law_55 : decode cL_law 55 = .ok (.iconst 2, 1) := by decide +kernel
theorem dL_law_56 : decode cL_law 56 = .ok (.idiv, 1) := by decide +kernel
theorem dL_law_57 : decode cL_law 57 = .ok (.istore_n 3, 1) := by decide +kernel
theorem dL_law_58 : decode cL_law 58 = .ok (.iconst 0, 1) := by decide +kernel
theorem dL_law_59 : decode cL_law 59 = .ok (.istore 4, 2) := by decide +kernel
theorem dL_law_61 : decode cL_law 61 = .ok (.iload 4, 2) := by decide +kernel
theorem dL_law_63 : decode cL_law 63 = .ok (.iload_n 3, 1) := by decide +kernel
theorem dL_law_64 : decode cL_law 64 = .ok (.if_icmp .ge 51, 3) := by decide +kernel
theorem dL_law_67 : decode cL_law 67 = .ok (.iload_n 2, 1) := by decide +kernel
theorem dL_law_68 : decode cL_law 68 = .ok (.ifCond .eq 47, 3) := by decide +kernel
theorem dL_law_71 : decode cL_law 71 = .ok (.aload_n 1, 1) := by decide +kernel
theorem dL_law_72 : decode cL_law 72 = .ok (.aload_n 0, 1) := by decide +kernel
theorem dL_law_73 : decode cL_law 73 = .ok (.iconst 2, 1) := by decide +kernel
theorem dL_law_74 : decode cL_law 74 = .ok (.iload 4, 2) := by decide +kernel
theorem dL_law_76 : decode cL_law 76 = .ok (.imul, 1) := by decide +kernel
theorem dL_law_77 : decode cL_law 77 = .ok (.invokestatic 97, 3) := by decide +kernel
theorem dL_law_80 : decode cL_law 80 = .ok (.aload_n 0, 1) := by decide +kernel
theorem dL_law_81 : decode cL_law 81 = .ok (.iconst 2, 1) := by decide +kernel
theorem dL_law_82 : decode cL_law 82 = .ok (.iload 4, 2) := by decide +kernel
theorem dL_law_84 : decode cL_law 84 = .ok (.imul, 1) := by decide +kernel
theorem dL_law_85 : decode cL_law 85 = .ok (.iconst 1, 1) := by decide +kernel
theorem dL_law_86 : decode cL_law 86 = .ok (.iadd, 1) := by decide +kernel
theorem dL_law_87 : decode cL_law 87 = .ok (.invokestatic 97, 3) := by decide +kernel
theorem dL_law_90 : decode cL_law 90 = .ok (.invokestatic 101, 3) := by decide +kernel
theorem dL_law_93 : decode cL_law 93 = .ok (.ifCond .eq 14, 3) := by decide +kernel
theorem dL_law_96 : decode cL_law 96 = .ok (.aload_n 1, 1) := by decide +kernel
theorem dL_law_97 : decode cL_law 97 = .ok (.invokestatic 90, 3) := by decide +kernel
theorem dL_law_100 : decode cL_law 100 = .ok (.ifCond .eq 7, 3) := by decide +kernel
theorem dL_law_103 : decode cL_law 103 = .ok (.iconst 1, 1) := by decide +kernel
theorem dL_law_104 : decode cL_law 104 = .ok (.goto 4, 3) := by decide +kernel
theorem dL_law_107 : decode cL_law 107 = .ok (.iconst 0, 1) := by decide +kernel
theorem dL_law_108 : decode cL_law 108 = .ok (.istore_n 2, 1) := by decide +kernel
theorem dL_law_109 : decode cL_law 109 = .ok (.iinc 4 1, 3) := by decide +kernel
theorem dL_law_112 : decode cL_law 112 = .ok (.goto (-51), 3) := by decide +kernel
theorem dL_law_115 : decode cL_law 115 = .ok (.aload_n 1, 1) := by decide +kernel
theorem dL_law_116 : decode cL_law 116 = .ok (.iconst 0, 1) := by decide +kernel
theorem dL_law_117 : decode cL_law 117 = .ok (.invokevirtual 9, 3) := by decide +kernel
theorem dL_law_120 : decode cL_law 120 = .ok (.istore 4, 2) := by decide +kernel
theorem dL_law_122 : decode cL_law 122 = .ok (.aload_n 1, 1) := by decide +kernel
theorem dL_law_123 : decode cL_law 123 = .ok (.iconst 4, 1) := by decide +kernel
theorem dL_law_124 : decode cL_law 124 = .ok (.invokevirtual 9, 3) := by decide +kernel
theorem dL_law_127 : decode cL_law 127 = .ok (.istore 5, 2) := by decide +kernel
theorem dL_law_129 : decode cL_law 129 = .ok (.aload_n 1, 1) := by decide +kernel
theorem dL_law_130 : decode cL_law 130 = .ok (.bipush 9, 2) := by decide +kernel
theorem dL_law_132 : decode cL_law 132 = .ok (.invokevirtual 9, 3) := by decide +kernel
theorem dL_law_135 : decode cL_law 135 = .ok (.istore 6, 2) := by decide +kernel
theorem dL_law_137 : decode cL_law 137 = .ok (.iload_n 2, 1) := by decide +kernel
theorem dL_law_138 : decode cL_law 138 = .ok (.ifCond .eq 71, 3) := by decide +kernel
theorem dL_law_141 : decode cL_law 141 = .ok (.aload_n 1, 1) := by decide +kernel
theorem dL_law_142 : decode cL_law 142 = .ok (.iconst 0, 1) := by decide +kernel
theorem dL_law_143 : decode cL_law 143 = .ok (.invokevirtual 104, 3) := by decide +kernel
theorem dL_law_146 : decode cL_law 146 = .ok (.iload 4, 2) := by decide +kernel
theorem dL_law_148 : decode cL_law 148 = .ok (.if_icmp .ne 61, 3) := by decide +kernel
theorem dL_law_151 : decode cL_law 151 = .ok (.aload_n 1, 1) := by decide +kernel
theorem dL_law_152 : decode cL_law 152 = .ok (.iconst 1, 1) := by decide +kernel
theorem dL_law_153 : decode cL_law 153 = .ok (.sipush 2047, 3) := by decide +kernel
theorem dL_law_156 : decode cL_law 156 = .ok (.iconst 5, 1) := by decide +kernel
theorem dL_law_157 : decode cL_law 157 = .ok (.invokevirtual 30, 3) := by decide +kernel
theorem dL_law_160 : decode cL_law 160 = .ok (.ifCond .lt 49, 3) := by decide +kernel
theorem dL_law_163 : decode cL_law 163 = .ok (.aload_n 1, 1) := by decide +kernel
theorem dL_law_164 : decode cL_law 164 = .ok (.invokevirtual 50, 3) := by decide +kernel
theorem dL_law_167 : decode cL_law 167 = .ok (.ifCond .le 42, 3) := by decide +kernel
theorem dL_law_170 : decode cL_law 170 = .ok (.aload_n 1, 1) := by decide +kernel
theorem dL_law_171 : decode cL_law 171 = .ok (.invokevirtual 107, 3) := by decide +kernel
theorem dL_law_174 : decode cL_law 174 = .ok (.ifCond .lt 35, 3) := by decide +kernel
theorem dL_law_177 : decode cL_law 177 = .ok (.aload_n 1, 1) := by decide +kernel
theorem dL_law_178 : decode cL_law 178 = .ok (.invokevirtual 107, 3) := by decide +kernel
theorem dL_law_181 : decode cL_law 181 = .ok (.ifCond .lt 28, 3) := by decide +kernel
theorem dL_law_184 : decode cL_law 184 = .ok (.aload_n 1, 1) := by decide +kernel
theorem dL_law_185 : decode cL_law 185 = .ok (.iconst 4, 1) := by decide +kernel
theorem dL_law_186 : decode cL_law 186 = .ok (.invokevirtual 9, 3) := by decide +kernel
theorem dL_law_189 : decode cL_law 189 = .ok (.iload 5, 2) := by decide +kernel
theorem dL_law_191 : decode cL_law 191 = .ok (.if_icmp .ne 18, 3) := by decide +kernel
theorem dL_law_194 : decode cL_law 194 = .ok (.aload_n 1, 1) := by decide +kernel
theorem dL_law_195 : decode cL_law 195 = .ok (.bipush 9, 2) := by decide +kernel
theorem dL_law_197 : decode cL_law 197 = .ok (.invokevirtual 9, 3) := by decide +kernel
theorem dL_law_200 : decode cL_law 200 = .ok (.iload 6, 2) := by decide +kernel
theorem dL_law_202 : decode cL_law 202 = .ok (.if_icmp .ne 7, 3) := by decide +kernel
theorem dL_law_205 : decode cL_law 205 = .ok (.iconst 1, 1) := by decide +kernel
theorem dL_law_206 : decode cL_law 206 = .ok (.goto 4, 3) := by decide +kernel
theorem dL_law_209 : decode cL_law 209 = .ok (.iconst 0, 1) := by decide +kernel
theorem dL_law_210 : decode cL_law 210 = .ok (.istore_n 2, 1) := by decide +kernel
theorem dL_law_211 : decode cL_law 211 = .ok (.iload_n 2, 1) := by decide +kernel
theorem dL_law_212 : decode cL_law 212 = .ok (.ifCond .eq 55, 3) := by decide +kernel
theorem dL_law_215 : decode cL_law 215 = .ok (.aload_n 1, 1) := by decide +kernel
theorem dL_law_216 : decode cL_law 216 = .ok (.iconst 3, 1) := by decide +kernel
theorem dL_law_217 : decode cL_law 217 = .ok (.invokevirtual 21, 3) := by decide +kernel
theorem dL_law_220 : decode cL_law 220 = .ok (.iload 4, 2) := by decide +kernel
theorem dL_law_222 : decode cL_law 222 = .ok (.if_icmp .ne 45, 3) := by decide +kernel
theorem dL_law_225 : decode cL_law 225 = .ok (.aload_n 1, 1) := by decide +kernel
theorem dL_law_226 : decode cL_law 226 = .ok (.iconst 0, 1) := by decide +kernel
theorem dL_law_227 : decode cL_law 227 = .ok (.invokevirtual 110, 3) := by decide +kernel
theorem dL_law_230 : decode cL_law 230 = .ok (.iload 4, 2) := by decide +kernel
theorem dL_law_232 : decode cL_law 232 = .ok (.if_icmp .ne 35, 3) := by decide +kernel
theorem dL_law_235 : decode cL_law 235 = .ok (.aload_n 1, 1) := by decide +kernel
theorem dL_law_236 : decode cL_law 236 = .ok (.iconst 4, 1) := by decide +kernel
theorem dL_law_237 : decode cL_law 237 = .ok (.invokevirtual 9, 3) := by decide +kernel
theorem dL_law_240 : decode cL_law 240 = .ok (.iload 5, 2) := by decide +kernel
theorem dL_law_242 : decode cL_law 242 = .ok (.if_icmp .ne 25, 3) := by decide +kernel
theorem dL_law_245 : decode cL_law 245 = .ok (.aload_n 1, 1) := by decide +kernel
theorem dL_law_246 : decode cL_law 246 = .ok (.bipush 9, 2) := by decide +kernel
theorem dL_law_248 : decode cL_law 248 = .ok (.invokevirtual 9, 3) := by decide +kernel
theorem dL_law_251 : decode cL_law 251 = .ok (.iload 6, 2) := by decide +kernel
theorem dL_law_253 : decode cL_law 253 = .ok (.if_icmp .ne 14, 3) := by decide +kernel
theorem dL_law_256 : decode cL_law 256 = .ok (.aload_n 1, 1) := by decide +kernel
theorem dL_law_257 : decode cL_law 257 = .ok (.invokestatic 90, 3) := by decide +kernel
theorem dL_law_260 : decode cL_law 260 = .ok (.ifCond .eq 7, 3) := by decide +kernel
theorem dL_law_263 : decode cL_law 263 = .ok (.iconst 1, 1) := by decide +kernel
theorem dL_law_264 : decode cL_law 264 = .ok (.goto 4, 3) := by decide +kernel
theorem dL_law_267 : decode cL_law 267 = .ok (.iconst 0, 1) := by decide +kernel
theorem dL_law_268 : decode cL_law 268 = .ok (.ireturn, 1) := by decide +kernel
