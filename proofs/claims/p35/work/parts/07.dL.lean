theorem dL_cell_0 : decode cL_cell 0 = .ok (.iload_n 1, 1) := by decide +kernel
theorem dL_cell_1 : decode cL_cell 1 = .ok (.aload_n 0, 1) := by decide +kernel
theorem dL_cell_2 : decode cL_cell 2 = .ok (.arraylength, 1) := by decide +kernel
theorem dL_cell_3 : decode cL_cell 3 = .ok (.if_icmp .ge 9, 3) := by decide +kernel
theorem dL_cell_6 : decode cL_cell 6 = .ok (.aload_n 0, 1) := by decide +kernel
theorem dL_cell_7 : decode cL_cell 7 = .ok (.iload_n 1, 1) := by decide +kernel
theorem dL_cell_8 : decode cL_cell 8 = .ok (.iaload, 1) := by decide +kernel
theorem dL_cell_9 : decode cL_cell 9 = .ok (.goto 15, 3) := by decide +kernel
theorem dL_cell_12 : decode cL_cell 12 = .ok (.sipush 7919, 3) := by decide +kernel
theorem dL_cell_15 : decode cL_cell 15 = .ok (.iload_n 1, 1) := by decide +kernel
theorem dL_cell_16 : decode cL_cell 16 = .ok (.iconst 3, 1) := by decide +kernel
theorem dL_cell_17 : decode cL_cell 17 = .ok (.iadd, 1) := by decide +kernel
theorem dL_cell_18 : decode cL_cell 18 = .ok (.imul, 1) := by decide +kernel
theorem dL_cell_19 : decode cL_cell 19 = .ok (.iload_n 1, 1) := by decide +kernel
theorem dL_cell_20 : decode cL_cell 20 = .ok (.bipush 11, 2) := by decide +kernel
theorem dL_cell_22 : decode cL_cell 22 = .ok (.iadd, 1) := by decide +kernel
theorem dL_cell_23 : decode cL_cell 23 = .ok (.imul, 1) := by decide +kernel
theorem dL_cell_24 : decode cL_cell 24 = .ok (.ireturn, 1) := by decide +kernel
theorem dL_low_0 : decode cL_low 0 = .ok (.iload_n 0, 1) := by decide +kernel
theorem dL_low_1 : decode cL_low 1 = .ok (.ldc 7, 2) := by decide +kernel
theorem dL_low_3 : decode cL_low 3 = .ok (.iand, 1) := by decide +kernel
theorem dL_low_4 : decode cL_low 4 = .ok (.iload_n 1, 1) := by decide +kernel
theorem dL_low_5 : decode cL_low 5 = .ok (.irem, 1) := by decide +kernel
theorem dL_low_6 : decode cL_low 6 = .ok (.ireturn, 1) := by decide +kernel
theorem dL_rests_0 : decode cL_rests 0 = .ok (.aload_n 0, 1) := by decide +kernel
theorem dL_rests_1 : decode cL_rests 1 = .ok (.iconst 0, 1) := by decide +kernel
theorem dL_rests_2 : decode cL_rests 2 = .ok (.invokevirtual 8, 3) := by decide +kernel
theorem dL_rests_5 : decode cL_rests 5 = .ok (.ifCond .eq 12, 3) := by decide +kernel
theorem dL_rests_8 : decode cL_rests 8 = .ok (.aload_n 0, 1) := by decide +kernel
theorem dL_rests_9 : decode cL_rests 9 = .ok (.iconst 0, 1) := by decide +kernel
theorem dL_rests_10 : decode cL_rests 10 = .ok (.invokevirtual 8, 3) := by decide +kernel
theorem dL_rests_13 : decode cL_rests 13 = .ok (.iconst 3, 1) := by decide +kernel
theorem dL_rests_14 : decode cL_rests 14 = .ok (.if_icmp .le 7, 3) := by decide +kernel
theorem dL_rests_17 : decode cL_rests 17 = .ok (.iconst 1, 1) := by decide +kernel
theorem dL_rests_18 : decode cL_rests 18 = .ok (.goto 4, 3) := by decide +kernel
theorem dL_rests_21 : decode cL_rests 21 = .ok (.iconst 0, 1) := by decide +kernel
theorem dL_rests_22 : decode cL_rests 22 = .ok (.ireturn, 1) := by decide +kernel
theorem dL_rules_0 : decode cL_rules 0 = .ok (.aload_n 0, 1) := by decide +kernel
theorem dL_rules_1 : decode cL_rules 1 = .ok (.iconst 0, 1) := by decide +kernel
theorem dL_rules_2 : decode cL_rules 2 = .ok (.invokevirtual 8, 3) := by decide +kernel
theorem dL_rules_5 : decode cL_rules 5 = .ok (.istore_n 1, 1) := by decide +kernel
theorem dL_rules_6 : decode cL_rules 6 = .ok (.aload_n 0, 1) := by decide +kernel
theorem dL_rules_7 : decode cL_rules 7 = .ok (.iconst 1, 1) := by decide +kernel
theorem dL_rules_8 : decode cL_rules 8 = .ok (.invokevirtual 8, 3) := by decide +kernel
theorem dL_rules_11 : decode cL_rules 11 = .ok (.istore_n 2, 1) := by decide +kernel
theorem dL_rules_12 : decode cL_rules 12 = .ok (.aload_n 0, 1) := by decide +kernel
theorem dL_rules_13 : decode cL_rules 13 = .ok (.iconst 2, 1) := by decide +kernel
theorem dL_rules_14 : decode cL_rules 14 = .ok (.invokevirtual 8, 3) := by decide +kernel
theorem dL_rules_17 : decode cL_rules 17 = .ok (.istore_n 3, 1) := by decide +kernel
theorem dL_rules_18 : decode cL_rules 18 = .ok (.aload_n 0, 1) := by decide +kernel
theorem dL_rules_19 : decode cL_rules 19 = .ok (.iconst 3, 1) := by decide +kernel
theorem dL_rules_20 : decode cL_rules 20 = .ok (.invokevirtual 8, 3) := by decide +kernel
theorem dL_rules_23 : decode cL_rules 23 = .ok (.istore 4, 2) := by decide +kernel
theorem dL_rules_25 : decode cL_rules 25 = .ok (.iload_n 1, 1) := by decide +kernel
theorem dL_rules_26 : decode cL_rules 26 = .ok (.ifCond .lt 76, 3) := by decide +kernel
theorem dL_rules_29 : decode cL_rules 29 = .ok (.iload_n 1, 1) := by decide +kernel
theorem dL_rules_30 : decode cL_rules 30 = .ok (.iconst 5, 1) := by decide +kernel
theorem dL_rules_31 : decode cL_rules 31 = .ok (.if_icmp .gt 71, 3) := by decide +kernel
theorem dL_rules_34 : decode cL_rules 34 = .ok (.iload_n 3, 1) := by decide +kernel
theorem dL_rules_35 : decode cL_rules 35 = .ok (.ifCond .lt 67, 3) := by decide +kernel
theorem dL_rules_38 : decode cL_rules 38 = .ok (.iload_n 3, 1) := by decide +kernel
theorem dL_rules_39 : decode cL_rules 39 = .ok (.ldc 14, 2) := by decide +kernel
theorem dL_rules_41 : decode cL_rules 41 = .ok (.if_icmp .gt 61, 3) := by decide +kernel
theorem dL_rules_44 : decode cL_rules 44 = .ok (.aload_n 0, 1) := by decide +kernel
theorem dL_rules_45 : decode cL_rules 45 = .ok (.invokestatic 15, 3) := by decide +kernel
theorem dL_rules_48 : decode cL_rules 48 = .ok (.iload_n 3, 1) := by decide +kernel
theorem dL_rules_49 : decode cL_rules 49 = .ok (.ifCond .ne 7, 3) := by decide +kernel
theorem dL_rules_52 : decode cL_rules 52 = .ok (.iconst 1, 1) := by decide +kernel
theorem dL_rules_53 : decode cL_rules 53 = .ok (.goto 4, 3) := by decide +kernel
theorem dL_rules_56 : decode cL_rules 56 = .ok (.iconst 0, 1) := by decide +kernel
theorem dL_rules_57 : decode cL_rules 57 = .ok (.if_icmp .ne 45, 3) := by decide +kernel
theorem dL_rules_60 : decode cL_rules 60 = .ok (.iload_n 1, 1) := by decide +kernel
theorem dL_rules_61 : decode cL_rules 61 = .ok (.ifCond .ne 12, 3) := by decide +kernel
theorem dL_rules_64 : decode cL_rules 64 = .ok (.iload_n 2, 1) := by decide +kernel
theorem dL_rules_65 : decode cL_rules 65 = .ok (.bipush (-6), 2) := by decide +kernel
theorem dL_rules_67 : decode cL_rules 67 = .ok (.if_icmp .eq 16, 3) := by decide +kernel
theorem dL_rules_70 : decode cL_rules 70 = .ok (.goto 32, 3) := by decide +kernel
theorem dL_rules_73 : decode cL_rules 73 = .ok (.iload_n 2, 1) := by decide +kernel
theorem dL_rules_74 : decode cL_rules 74 = .ok (.ifCond .lt 28, 3) := by decide +kernel
theorem dL_rules_77 : decode cL_rules 77 = .ok (.iload_n 2, 1) := by decide +kernel
theorem dL_rules_78 : decode cL_rules 78 = .ok (.iload 4, 2) := by decide +kernel
theorem dL_rules_80 : decode cL_rules 80 = .ok (.if_icmp .ge 22, 3) := by decide +kernel
theorem dL_rules_83 : decode cL_rules 83 = .ok (.aload_n 0, 1) := by decide +kernel
theorem dL_rules_84 : decode cL_rules 84 = .ok (.invokestatic 15, 3) := by decide +kernel
theorem dL_rules_87 : decode cL_rules 87 = .ok (.aload_n 0, 1) := by decide +kernel
theorem dL_rules_88 : decode cL_rules 88 = .ok (.invokevirtual 21, 3) := by decide +kernel
theorem dL_rules_91 : decode cL_rules 91 = .ok (.ifCond .ne 7, 3) := by decide +kernel
theorem dL_rules_94 : decode cL_rules 94 = .ok (.iconst 1, 1) := by decide +kernel
theorem dL_rules_95 : decode cL_rules 95 = .ok (.goto 4, 3) := by decide +kernel
theorem dL_rules_98 : decode cL_rules 98 = .ok (.iconst 0, 1) := by decide +kernel
theorem dL_rules_99 : decode cL_rules 99 = .ok (.if_icmp .eq 5, 3) := by decide +kernel
theorem dL_rules_102 : decode cL_rules 102 = .ok (.iconst 0, 1) := by decide +kernel
theorem dL_rules_103 : decode cL_rules 103 = .ok (.ireturn, 1) := by decide +kernel
theorem dL_rules_104 : decode cL_rules 104 = .ok (.iconst 0, 1) := by decide +kernel
theorem dL_rules_105 : decode cL_rules 105 = .ok (.istore 5, 2) := by decide +kernel
theorem dL_rules_107 : decode cL_rules 107 = .ok (.iload 5, 2) := by decide +kernel
theorem dL_rules_109 : decode cL_rules 109 = .ok (.iload 4, 2) := by decide +kernel
theorem dL_rules_111 : decode cL_rules 111 = .ok (.if_icmp .ge 122, 3) := by decide +kernel
theorem dL_rules_114 : decode cL_rules 114 = .ok (.iload 5, 2) := by decide +kernel
theorem dL_rules_116 : decode cL_rules 116 = .ok (.ifCond .le 20, 3) := by decide +kernel
theorem dL_rules_119 : decode cL_rules 119 = .ok (.aload_n 0, 1) := by decide +kernel
theorem dL_rules_120 : decode cL_rules 120 = .ok (.iload 5, 2) := by decide +kernel
theorem dL_rules_122 : decode cL_rules 122 = .ok (.invokevirtual 25, 3) := by decide +kernel
theorem dL_rules_125 : decode cL_rules 125 = .ok (.aload_n 0, 1) := by decide +kernel
theorem dL_rules_126 : decode cL_rules 126 = .ok (.iload 5, 2) := by decide +kernel
theorem dL_rules_128 : decode cL_rules 128 = .ok (.iconst 1, 1) := by decide +kernel
theorem dL_rules_129 : decode cL_rules 129 = .ok (.isub, 1) := by decide +kernel
theorem dL_rules_130 : decode cL_rules 130 = .ok (.invokevirtual 25, 3) := by decide +kernel
theorem dL_rules_133 : decode cL_rules 133 = .ok (.if_icmp .le 55, 3) := by decide +kernel
theorem dL_rules_136 : decode cL_rules 136 = .ok (.aload_n 0, 1) := by decide +kernel
theorem dL_rules_137 : decode cL_rules 137 = .ok (.iload 5, 2) := by decide +kernel
theorem dL_rules_139 : decode cL_rules 139 = .ok (.invokevirtual 28, 3) := by decide +kernel
theorem dL_rules_142 : decode cL_rules 142 = .ok (.ifCond .ge 14, 3) := by decide +kernel
theorem dL_rules_145 : decode cL_rules 145 = .ok (.aload_n 0, 1) := by decide +kernel
theorem dL_rules_146 : decode cL_rules 146 = .ok (.iload 5, 2) := by decide +kernel
theorem dL_rules_148 : decode cL_rules 148 = .ok (.invokevirtual 28, 3) := by decide +kernel
theorem dL_rules_151 : decode cL_rules 151 = .ok (.bipush (-6), 2) := by decide +kernel
theorem dL_rules_153 : decode cL_rules 153 = .ok (.if_icmp .ne 35, 3) := by decide +kernel
theorem dL_rules_156 : decode cL_rules 156 = .ok (.aload_n 0, 1) := by decide +kernel
theorem dL_rules_157 : decode cL_rules 157 = .ok (.iload 5, 2) := by decide +kernel
theorem dL_rules_159 : decode cL_rules 159 = .ok (.invokevirtual 31, 3) := by decide +kernel
theorem dL_rules_162 : decode cL_rules 162 = .ok (.bipush (-6), 2) := by decide +kernel
theorem dL_rules_164 : decode cL_rules 164 = .ok (.if_icmp .eq 26, 3) := by decide +kernel
theorem dL_rules_167 : decode cL_rules 167 = .ok (.aload_n 0, 1) := by decide +kernel
theorem dL_rules_168 : decode cL_rules 168 = .ok (.iload 5, 2) := by decide +kernel
theorem dL_rules_170 : decode cL_rules 170 = .ok (.invokevirtual 31, 3) := by decide +kernel
theorem dL_rules_173 : decode cL_rules 173 = .ok (.iconst 1, 1) := by decide +kernel
theorem dL_rules_174 : decode cL_rules 174 = .ok (.if_icmp .lt 14, 3) := by decide +kernel
theorem dL_rules_177 : decode cL_rules 177 = .ok (.aload_n 0, 1) := by decide +kernel
theorem dL_rules_178 : decode cL_rules 178 = .ok (.iload 5, 2) := by decide +kernel
theorem dL_rules_180 : decode cL_rules 180 = .ok (.invokevirtual 31, 3) := by decide +kernel
theorem dL_rules_183 : decode cL_rules 183 = .ok (.ldc 14, 2) := by decide +kernel
theorem dL_rules_185 : decode cL_rules 185 = .ok (.if_icmp .le 5, 3) := by decide +kernel
theorem dL_rules_188 : decode cL_rules 188 = .ok (.iconst 0, 1) := by decide +kernel
theorem dL_rules_189 : decode cL_rules 189 = .ok (.ireturn, 1) := by decide +kernel
theorem dL_rules_190 : decode cL_rules 190 = .ok (.aload_n 0, 1) := by decide +kernel
theorem dL_rules_191 : decode cL_rules 191 = .ok (.iload 5, 2) := by decide +kernel
theorem dL_rules_193 : decode cL_rules 193 = .ok (.invokevirtual 34, 3) := by decide +kernel
theorem dL_rules_196 : decode cL_rules 196 = .ok (.istore 6, 2) := by decide +kernel
theorem dL_rules_198 : decode cL_rules 198 = .ok (.iload 6, 2) := by decide +kernel
theorem dL_rules_200 : decode cL_rules 200 = .ok (.bipush (-6), 2) := by decide +kernel
theorem dL_rules_202 : decode cL_rules 202 = .ok (.if_icmp .eq 25, 3) := by decide +kernel
theorem dL_rules_205 : decode cL_rules 205 = .ok (.iload 6, 2) := by decide +kernel
theorem dL_rules_207 : decode cL_rules 207 = .ok (.ifCond .lt 18, 3) := by decide +kernel
theorem dL_rules_210 : decode cL_rules 210 = .ok (.aload_n 0, 1) := by decide +kernel
theorem dL_rules_211 : decode cL_rules 211 = .ok (.iload 6, 2) := by decide +kernel
theorem dL_rules_213 : decode cL_rules 213 = .ok (.aload_n 0, 1) := by decide +kernel
theorem dL_rules_214 : decode cL_rules 214 = .ok (.iload 5, 2) := by decide +kernel
theorem dL_rules_216 : decode cL_rules 216 = .ok (.invokevirtual 25, 3) := by decide +kernel
theorem dL_rules_219 : decode cL_rules 219 = .ok (.invokevirtual 37, 3) := by decide +kernel
theorem dL_rules_222 : decode cL_rules 222 = .ok (.ifCond .ge 5, 3) := by decide +kernel
theorem dL_rules_225 : decode cL_rules 225 = .ok (.iconst 0, 1) := by decide +kernel
theorem dL_rules_226 : decode cL_rules 226 = .ok (.ireturn, 1) := by decide +kernel
theorem dL_rules_227 : decode cL_rules 227 = .ok (.iinc 5 1, 3) := by decide +kernel
theorem dL_rules_230 : decode cL_rules 230 = .ok (.goto (-123), 3) := by decide +kernel
theorem dL_rules_233 : decode cL_rules 233 = .ok (.iconst 0, 1) := by decide +kernel
theorem dL_rules_234 : decode cL_rules 234 = .ok (.istore 5, 2) := by decide +kernel
theorem dL_rules_236 : decode cL_rules 236 = .ok (.iload 5, 2) := by decide +kernel
theorem dL_rules_238 : decode cL_rules 238 = .ok (.aload_n 0, 1) := by decide +kernel
theorem dL_rules_239 : decode cL_rules 239 = .ok (.iconst 5, 1) := by decide +kernel
theorem dL_rules_240 : decode cL_rules 240 = .ok (.invokevirtual 8, 3) := by decide +kernel
theorem dL_rules_243 : decode cL_rules 243 = .ok (.if_icmp .ge 147, 3) := by decide +kernel
theorem dL_rules_246 : decode cL_rules 246 = .ok (.aload_n 0, 1) := by decide +kernel
theorem dL_rules_247 : decode cL_rules 247 = .ok (.iload 5, 2) := by decide +kernel
theorem dL_rules_249 : decode cL_rules 249 = .ok (.iconst 4, 1) := by decide +kernel
theorem dL_rules_250 : decode cL_rules 250 = .ok (.invokevirtual 41, 3) := by decide +kernel
theorem dL_rules_253 : decode cL_rules 253 = .ok (.aload_n 0, 1) := by decide +kernel
theorem dL_rules_254 : decode cL_rules 254 = .ok (.iload 5, 2) := by decide +kernel
theorem dL_rules_256 : decode cL_rules 256 = .ok (.iconst 5, 1) := by decide +kernel
theorem dL_rules_257 : decode cL_rules 257 = .ok (.invokevirtual 41, 3) := by decide +kernel
theorem dL_rules_260 : decode cL_rules 260 = .ok (.if_icmp .gt 53, 3) := by decide +kernel
theorem dL_rules_263 : decode cL_rules 263 = .ok (.aload_n 0, 1) := by decide +kernel
theorem dL_rules_264 : decode cL_rules 264 = .ok (.iload 5, 2) := by decide +kernel
theorem dL_rules_266 : decode cL_rules 266 = .ok (.iconst 5, 1) := by decide +kernel
theorem dL_rules_267 : decode cL_rules 267 = .ok (.invokevirtual 41, 3) := by decide +kernel
theorem dL_rules_270 : decode cL_rules 270 = .ok (.aload_n 0, 1) := by decide +kernel
theorem dL_rules_271 : decode cL_rules 271 = .ok (.bipush 8, 2) := by decide +kernel
theorem dL_rules_273 : decode cL_rules 273 = .ok (.invokevirtual 8, 3) := by decide +kernel
theorem dL_rules_276 : decode cL_rules 276 = .ok (.if_icmp .gt 37, 3) := by decide +kernel
theorem dL_rules_279 : decode cL_rules 279 = .ok (.aload_n 0, 1) := by decide +kernel
theorem dL_rules_280 : decode cL_rules 280 = .ok (.iload 5, 2) := by decide +kernel
theorem dL_rules_282 : decode cL_rules 282 = .ok (.iconst 5, 1) := by decide +kernel
theorem dL_rules_283 : decode cL_rules 283 = .ok (.invokevirtual 41, 3) := by decide +kernel
theorem dL_rules_286 : decode cL_rules 286 = .ok (.ifCond .ne 7, 3) := by decide +kernel
theorem dL_rules_289 : decode cL_rules 289 = .ok (.iconst 1, 1) := by decide +kernel
theorem dL_rules_290 : decode cL_rules 290 = .ok (.goto 4, 3) := by decide +kernel
theorem dL_rules_293 : decode cL_rules 293 = .ok (.iconst 0, 1) := by decide +kernel
theorem dL_rules_294 : decode cL_rules 294 = .ok (.aload_n 0, 1) := by decide +kernel
theorem dL_rules_295 : decode cL_rules 295 = .ok (.iload 5, 2) := by decide +kernel
theorem dL_rules_297 : decode cL_rules 297 = .ok (.bipush 6, 2) := by decide +kernel
theorem dL_rules_299 : decode cL_rules 299 = .ok (.invokevirtual 41, 3) := by decide +kernel
theorem dL_rules_302 : decode cL_rules 302 = .ok (.ifCond .ne 7, 3) := by decide +kernel
theorem dL_rules_305 : decode cL_rules 305 = .ok (.iconst 1, 1) := by decide +kernel
theorem dL_rules_306 : decode cL_rules 306 = .ok (.goto 4, 3) := by decide +kernel
theorem dL_rules_309 : decode cL_rules 309 = .ok (.iconst 0, 1) := by decide +kernel
theorem dL_rules_310 : decode cL_rules 310 = .ok (.if_icmp .eq 5, 3) := by decide +kernel
theorem dL_rules_313 : decode cL_rules 313 = .ok (.iconst 0, 1) := by decide +kernel
theorem dL_rules_314 : decode cL_rules 314 = .ok (.ireturn, 1) := by decide +kernel
theorem dL_rules_315 : decode cL_rules 315 = .ok (.aload_n 0, 1) := by decide +kernel
theorem dL_rules_316 : decode cL_rules 316 = .ok (.iload 5, 2) := by decide +kernel
theorem dL_rules_318 : decode cL_rules 318 = .ok (.iconst 0, 1) := by decide +kernel
theorem dL_rules_319 : decode cL_rules 319 = .ok (.invokevirtual 44, 3) := by decide +kernel
theorem dL_rules_322 : decode cL_rules 322 = .ok (.istore 6, 2) := by decide +kernel
theorem dL_rules_324 : decode cL_rules 324 = .ok (.iconst 1, 1) := by decide +kernel
theorem dL_rules_325 : decode cL_rules 325 = .ok (.istore 7, 2) := by decide +kernel
theorem dL_rules_327 : decode cL_rules 327 = .ok (.iload 6, 2) := by decide +kernel
theorem dL_rules_329 : decode cL_rules 329 = .ok (.ifCond .lt 55, 3) := by decide +kernel
theorem dL_rules_332 : decode cL_rules 332 = .ok (.iload 7, 2) := by decide +kernel
theorem dL_rules_334 : decode cL_rules 334 = .ok (.iconst 4, 1) := by decide +kernel
theorem dL_rules_335 : decode cL_rules 335 = .ok (.if_icmp .ge 49, 3) := by decide +kernel
theorem dL_rules_338 : decode cL_rules 338 = .ok (.aload_n 0, 1) := by decide +kernel
theorem dL_rules_339 : decode cL_rules 339 = .ok (.iload 5, 2) := by decide +kernel
theorem dL_rules_341 : decode cL_rules 341 = .ok (.iload 7, 2) := by decide +kernel
theorem dL_rules_343 : decode cL_rules 343 = .ok (.invokevirtual 44, 3) := by decide +kernel
theorem dL_rules_346 : decode cL_rules 346 = .ok (.istore 8, 2) := by decide +kernel
theorem dL_rules_348 : decode cL_rules 348 = .ok (.iload 8, 2) := by decide +kernel
theorem dL_rules_350 : decode cL_rules 350 = .ok (.ifCond .lt 24, 3) := by decide +kernel
theorem dL_rules_353 : decode cL_rules 353 = .ok (.aload_n 0, 1) := by decide +kernel
theorem dL_rules_354 : decode cL_rules 354 = .ok (.iload 8, 2) := by decide +kernel
theorem dL_rules_356 : decode cL_rules 356 = .ok (.iload 5, 2) := by decide +kernel
theorem dL_rules_358 : decode cL_rules 358 = .ok (.invokevirtual 47, 3) := by decide +kernel
theorem dL_rules_361 : decode cL_rules 361 = .ok (.aload_n 0, 1) := by decide +kernel
theorem dL_rules_362 : decode cL_rules 362 = .ok (.iload 6, 2) := by decide +kernel
theorem dL_rules_364 : decode cL_rules 364 = .ok (.iload 5, 2) := by decide +kernel
theorem dL_rules_366 : decode cL_rules 366 = .ok (.invokevirtual 47, 3) := by decide +kernel
theorem dL_rules_369 : decode cL_rules 369 = .ok (.if_icmp .le 5, 3) := by decide +kernel
theorem dL_rules_372 : decode cL_rules 372 = .ok (.iconst 0, 1) := by decide +kernel
theorem dL_rules_373 : decode cL_rules 373 = .ok (.ireturn, 1) := by decide +kernel
theorem dL_rules_374 : decode cL_rules 374 = .ok (.iload 8, 2) := by decide +kernel
theorem dL_rules_376 : decode cL_rules 376 = .ok (.istore 6, 2) := by decide +kernel
theorem dL_rules_378 : decode cL_rules 378 = .ok (.iinc 7 1, 3) := by decide +kernel
theorem dL_rules_381 : decode cL_rules 381 = .ok (.goto (-54), 3) := by decide +kernel
theorem dL_rules_384 : decode cL_rules 384 = .ok (.iinc 5 1, 3) := by decide +kernel
theorem dL_rules_387 : decode cL_rules 387 = .ok (.goto (-151), 3) := by decide +kernel
theorem dL_rules_390 : decode cL_rules 390 = .ok (.aload_n 0, 1) := by decide +kernel
theorem dL_rules_391 : decode cL_rules 391 = .ok (.iload 4, 2) := by decide +kernel
theorem dL_rules_393 : decode cL_rules 393 = .ok (.invokevirtual 25, 3) := by decide +kernel
theorem dL_rules_396 : decode cL_rules 396 = .ok (.iconst (-1), 1) := by decide +kernel
theorem dL_rules_397 : decode cL_rules 397 = .ok (.if_icmp .ne 21, 3) := by decide +kernel
theorem dL_rules_400 : decode cL_rules 400 = .ok (.aload_n 0, 1) := by decide +kernel
theorem dL_rules_401 : decode cL_rules 401 = .ok (.aload_n 0, 1) := by decide +kernel
theorem dL_rules_402 : decode cL_rules 402 = .ok (.iconst 5, 1) := by decide +kernel
theorem dL_rules_403 : decode cL_rules 403 = .ok (.invokevirtual 8, 3) := by decide +kernel
theorem dL_rules_406 : decode cL_rules 406 = .ok (.iconst 0, 1) := by decide +kernel
theorem dL_rules_407 : decode cL_rules 407 = .ok (.invokevirtual 41, 3) := by decide +kernel
theorem dL_rules_410 : decode cL_rules 410 = .ok (.iconst (-1), 1) := by decide +kernel
theorem dL_rules_411 : decode cL_rules 411 = .ok (.if_icmp .ne 7, 3) := by decide +kernel
theorem dL_rules_414 : decode cL_rules 414 = .ok (.iconst 1, 1) := by decide +kernel
theorem dL_rules_415 : decode cL_rules 415 = .ok (.goto 4, 3) := by decide +kernel
theorem dL_rules_418 : decode cL_rules 418 = .ok (.iconst 0, 1) := by decide +kernel
theorem dL_rules_419 : decode cL_rules 419 = .ok (.ireturn, 1) := by decide +kernel
theorem dL_told_0 : decode cL_told 0 = .ok (.ldc2_w 50, 3) := by decide +kernel
theorem dL_told_3 : decode cL_told 3 = .ok (.lstore_n 1, 1) := by decide +kernel
theorem dL_told_4 : decode cL_told 4 = .ok (.iconst 0, 1) := by decide +kernel
theorem dL_told_5 : decode cL_told 5 = .ok (.istore_n 3, 1) := by decide +kernel
theorem dL_told_6 : decode cL_told 6 = .ok (.iload_n 3, 1) := by decide +kernel
theorem dL_told_7 : decode cL_told 7 = .ok (.bipush 20, 2) := by decide +kernel
theorem dL_told_9 : decode cL_told 9 = .ok (.if_icmp .ge 38, 3) := by decide +kernel
theorem dL_told_12 : decode cL_told 12 = .ok (.iload_n 3, 1) := by decide +kernel
theorem dL_told_13 : decode cL_told 13 = .ok (.bipush 12, 2) := by decide +kernel
theorem dL_told_15 : decode cL_told 15 = .ok (.if_icmp .eq 9, 3) := by decide +kernel
theorem dL_told_18 : decode cL_told 18 = .ok (.iload_n 3, 1) := by decide +kernel
theorem dL_told_19 : decode cL_told 19 = .ok (.bipush 13, 2) := by decide +kernel
theorem dL_told_21 : decode cL_told 21 = .ok (.if_icmp .ne 7, 3) := by decide +kernel
theorem dL_told_24 : decode cL_told 24 = .ok (.lload_n 1, 1) := by decide +kernel
theorem dL_told_25 : decode cL_told 25 = .ok (.goto 15, 3) := by decide +kernel
theorem dL_told_28 : decode cL_told 28 = .ok (.ldc2_w 52, 3) := by decide +kernel
theorem dL_told_31 : decode cL_told 31 = .ok (.lload_n 1, 1) := by decide +kernel
theorem dL_told_32 : decode cL_told 32 = .ok (.lmul, 1) := by decide +kernel
theorem dL_told_33 : decode cL_told 33 = .ok (.aload_n 0, 1) := by decide +kernel
theorem dL_told_34 : decode cL_told 34 = .ok (.iload_n 3, 1) := by decide +kernel
theorem dL_told_35 : decode cL_told 35 = .ok (.invokevirtual 8, 3) := by decide +kernel
theorem dL_told_38 : decode cL_told 38 = .ok (.i2l, 1) := by decide +kernel
theorem dL_told_39 : decode cL_told 39 = .ok (.ladd, 1) := by decide +kernel
theorem dL_told_40 : decode cL_told 40 = .ok (.lstore_n 1, 1) := by decide +kernel
theorem dL_told_41 : decode cL_told 41 = .ok (.iinc 3 1, 3) := by decide +kernel
theorem dL_told_44 : decode cL_told 44 = .ok (.goto (-38), 3) := by decide +kernel
theorem dL_told_47 : decode cL_told 47 = .ok (.iconst 0, 1) := by decide +kernel
theorem dL_told_48 : decode cL_told 48 = .ok (.istore_n 3, 1) := by decide +kernel
theorem dL_told_49 : decode cL_told 49 = .ok (.iload_n 3, 1) := by decide +kernel
theorem dL_told_50 : decode cL_told 50 = .ok (.aload_n 0, 1) := by decide +kernel
theorem dL_told_51 : decode cL_told 51 = .ok (.iconst 3, 1) := by decide +kernel
theorem dL_told_52 : decode cL_told 52 = .ok (.invokevirtual 8, 3) := by decide +kernel
theorem dL_told_55 : decode cL_told 55 = .ok (.if_icmp .ge 110, 3) := by decide +kernel
theorem dL_told_58 : decode cL_told 58 = .ok (.ldc2_w 52, 3) := by decide +kernel
theorem dL_told_61 : decode cL_told 61 = .ok (.lload_n 1, 1) := by decide +kernel
theorem dL_told_62 : decode cL_told 62 = .ok (.lmul, 1) := by decide +kernel
theorem dL_told_63 : decode cL_told 63 = .ok (.aload_n 0, 1) := by decide +kernel
theorem dL_told_64 : decode cL_told 64 = .ok (.iload_n 3, 1) := by decide +kernel
theorem dL_told_65 : decode cL_told 65 = .ok (.invokevirtual 25, 3) := by decide +kernel
theorem dL_told_68 : decode cL_told 68 = .ok (.i2l, 1) := by decide +kernel
theorem dL_told_69 : decode cL_told 69 = .ok (.ladd, 1) := by decide +kernel
theorem dL_told_70 : decode cL_told 70 = .ok (.lstore_n 1, 1) := by decide +kernel
theorem dL_told_71 : decode cL_told 71 = .ok (.ldc2_w 52, 3) := by decide +kernel
theorem dL_told_74 : decode cL_told 74 = .ok (.lload_n 1, 1) := by decide +kernel
theorem dL_told_75 : decode cL_told 75 = .ok (.lmul, 1) := by decide +kernel
theorem dL_told_76 : decode cL_told 76 = .ok (.aload_n 0, 1) := by decide +kernel
theorem dL_told_77 : decode cL_told 77 = .ok (.iload_n 3, 1) := by decide +kernel
theorem dL_told_78 : decode cL_told 78 = .ok (.invokevirtual 28, 3) := by decide +kernel
theorem dL_told_81 : decode cL_told 81 = .ok (.i2l, 1) := by decide +kernel
theorem dL_told_82 : decode cL_told 82 = .ok (.ladd, 1) := by decide +kernel
theorem dL_told_83 : decode cL_told 83 = .ok (.lstore_n 1, 1) := by decide +kernel
theorem dL_told_84 : decode cL_told 84 = .ok (.ldc2_w 52, 3) := by decide +kernel
theorem dL_told_87 : decode cL_told 87 = .ok (.lload_n 1, 1) := by decide +kernel
theorem dL_told_88 : decode cL_told 88 = .ok (.lmul, 1) := by decide +kernel
theorem dL_told_89 : decode cL_told 89 = .ok (.aload_n 0, 1) := by decide +kernel
theorem dL_told_90 : decode cL_told 90 = .ok (.iload_n 3, 1) := by decide +kernel
theorem dL_told_91 : decode cL_told 91 = .ok (.invokevirtual 31, 3) := by decide +kernel
theorem dL_told_94 : decode cL_told 94 = .ok (.i2l, 1) := by decide +kernel
theorem dL_told_95 : decode cL_told 95 = .ok (.ladd, 1) := by decide +kernel
theorem dL_told_96 : decode cL_told 96 = .ok (.lstore_n 1, 1) := by decide +kernel
theorem dL_told_97 : decode cL_told 97 = .ok (.ldc2_w 52, 3) := by decide +kernel
theorem dL_told_100 : decode cL_told 100 = .ok (.lload_n 1, 1) := by decide +kernel
theorem dL_told_101 : decode cL_told 101 = .ok (.lmul, 1) := by decide +kernel
theorem dL_told_102 : decode cL_told 102 = .ok (.aload_n 0, 1) := by decide +kernel
theorem dL_told_103 : decode cL_told 103 = .ok (.iload_n 3, 1) := by decide +kernel
theorem dL_told_104 : decode cL_told 104 = .ok (.invokevirtual 34, 3) := by decide +kernel
theorem dL_told_107 : decode cL_told 107 = .ok (.i2l, 1) := by decide +kernel
theorem dL_told_108 : decode cL_told 108 = .ok (.ladd, 1) := by decide +kernel
theorem dL_told_109 : decode cL_told 109 = .ok (.lstore_n 1, 1) := by decide +kernel
theorem dL_told_110 : decode cL_told 110 = .ok (.iconst 0, 1) := by decide +kernel
theorem dL_told_111 : decode cL_told 111 = .ok (.istore 4, 2) := by decide +kernel
theorem dL_told_113 : decode cL_told 113 = .ok (.iload 4, 2) := by decide +kernel
theorem dL_told_115 : decode cL_told 115 = .ok (.aload_n 0, 1) := by decide +kernel
theorem dL_told_116 : decode cL_told 116 = .ok (.iconst 5, 1) := by decide +kernel
theorem dL_told_117 : decode cL_told 117 = .ok (.invokevirtual 8, 3) := by decide +kernel
theorem dL_told_120 : decode cL_told 120 = .ok (.if_icmp .ge 39, 3) := by decide +kernel
theorem dL_told_123 : decode cL_told 123 = .ok (.ldc2_w 52, 3) := by decide +kernel
theorem dL_told_126 : decode cL_told 126 = .ok (.lload_n 1, 1) := by decide +kernel
theorem dL_told_127 : decode cL_told 127 = .ok (.lmul, 1) := by decide +kernel
theorem dL_told_128 : decode cL_told 128 = .ok (.aload_n 0, 1) := by decide +kernel
theorem dL_told_129 : decode cL_told 129 = .ok (.iload_n 3, 1) := by decide +kernel
theorem dL_told_130 : decode cL_told 130 = .ok (.iload 4, 2) := by decide +kernel
theorem dL_told_132 : decode cL_told 132 = .ok (.invokevirtual 54, 3) := by decide +kernel
theorem dL_told_135 : decode cL_told 135 = .ok (.i2l, 1) := by decide +kernel
theorem dL_told_136 : decode cL_told 136 = .ok (.ladd, 1) := by decide +kernel
theorem dL_told_137 : decode cL_told 137 = .ok (.lstore_n 1, 1) := by decide +kernel
theorem dL_told_138 : decode cL_told 138 = .ok (.ldc2_w 52, 3) := by decide +kernel
theorem dL_told_141 : decode cL_told 141 = .ok (.lload_n 1, 1) := by decide +kernel
theorem dL_told_142 : decode cL_told 142 = .ok (.lmul, 1) := by decide +kernel
theorem dL_told_143 : decode cL_told 143 = .ok (.aload_n 0, 1) := by decide +kernel
theorem dL_told_144 : decode cL_told 144 = .ok (.iload_n 3, 1) := by decide +kernel
theorem dL_told_145 : decode cL_told 145 = .ok (.iload 4, 2) := by decide +kernel
theorem dL_told_147 : decode cL_told 147 = .ok (.invokevirtual 47, 3) := by decide +kernel
theorem dL_told_150 : decode cL_told 150 = .ok (.i2l, 1) := by decide +kernel
theorem dL_told_151 : decode cL_told 151 = .ok (.ladd, 1) := by decide +kernel
theorem dL_told_152 : decode cL_told 152 = .ok (.lstore_n 1, 1) := by decide +kernel
theorem dL_told_153 : decode cL_told 153 = .ok (.iinc 4 1, 3) := by decide +kernel
theorem dL_told_156 : decode cL_told 156 = .ok (.goto (-43), 3) := by decide +kernel
theorem dL_told_159 : decode cL_told 159 = .ok (.iinc 3 1, 3) := by decide +kernel
theorem dL_told_162 : decode cL_told 162 = .ok (.goto (-113), 3) := by decide +kernel
theorem dL_told_165 : decode cL_told 165 = .ok (.iconst 0, 1) := by decide +kernel
theorem dL_told_166 : decode cL_told 166 = .ok (.istore_n 3, 1) := by decide +kernel
theorem dL_told_167 : decode cL_told 167 = .ok (.iload_n 3, 1) := by decide +kernel
theorem dL_told_168 : decode cL_told 168 = .ok (.aload_n 0, 1) := by decide +kernel
theorem dL_told_169 : decode cL_told 169 = .ok (.iconst 5, 1) := by decide +kernel
theorem dL_told_170 : decode cL_told 170 = .ok (.invokevirtual 8, 3) := by decide +kernel
theorem dL_told_173 : decode cL_told 173 = .ok (.if_icmp .ge 55, 3) := by decide +kernel
theorem dL_told_176 : decode cL_told 176 = .ok (.iconst 0, 1) := by decide +kernel
theorem dL_told_177 : decode cL_told 177 = .ok (.istore 4, 2) := by decide +kernel
theorem dL_told_179 : decode cL_told 179 = .ok (.iload 4, 2) := by decide +kernel
theorem dL_told_181 : decode cL_told 181 = .ok (.bipush 8, 2) := by decide +kernel
theorem dL_told_183 : decode cL_told 183 = .ok (.if_icmp .ge 24, 3) := by decide +kernel
theorem dL_told_186 : decode cL_told 186 = .ok (.ldc2_w 52, 3) := by decide +kernel
theorem dL_told_189 : decode cL_told 189 = .ok (.lload_n 1, 1) := by decide +kernel
theorem dL_told_190 : decode cL_told 190 = .ok (.lmul, 1) := by decide +kernel
theorem dL_told_191 : decode cL_told 191 = .ok (.aload_n 0, 1) := by decide +kernel
theorem dL_told_192 : decode cL_told 192 = .ok (.iload_n 3, 1) := by decide +kernel
theorem dL_told_193 : decode cL_told 193 = .ok (.iload 4, 2) := by decide +kernel
theorem dL_told_195 : decode cL_told 195 = .ok (.invokevirtual 41, 3) := by decide +kernel
theorem dL_told_198 : decode cL_told 198 = .ok (.i2l, 1) := by decide +kernel
theorem dL_told_199 : decode cL_told 199 = .ok (.ladd, 1) := by decide +kernel
theorem dL_told_200 : decode cL_told 200 = .ok (.lstore_n 1, 1) := by decide +kernel
theorem dL_told_201 : decode cL_told 201 = .ok (.iinc 4 1, 3) := by decide +kernel
theorem dL_told_204 : decode cL_told 204 = .ok (.goto (-25), 3) := by decide +kernel
theorem dL_told_207 : decode cL_told 207 = .ok (.ldc2_w 52, 3) := by decide +kernel
theorem dL_told_210 : decode cL_told 210 = .ok (.lload_n 1, 1) := by decide +kernel
theorem dL_told_211 : decode cL_told 211 = .ok (.lmul, 1) := by decide +kernel
theorem dL_told_212 : decode cL_told 212 = .ok (.aload_n 0, 1) := by decide +kernel
theorem dL_told_213 : decode cL_told 213 = .ok (.iload_n 3, 1) := by decide +kernel
theorem dL_told_214 : decode cL_told 214 = .ok (.bipush 100, 2) := by decide +kernel
theorem dL_told_216 : decode cL_told 216 = .ok (.invokevirtual 57, 3) := by decide +kernel
theorem dL_told_219 : decode cL_told 219 = .ok (.i2l, 1) := by decide +kernel
theorem dL_told_220 : decode cL_told 220 = .ok (.ladd, 1) := by decide +kernel
theorem dL_told_221 : decode cL_told 221 = .ok (.lstore_n 1, 1) := by decide +kernel
theorem dL_told_222 : decode cL_told 222 = .ok (.iinc 3 1, 3) := by decide +kernel
theorem dL_told_225 : decode cL_told 225 = .ok (.goto (-58), 3) := by decide +kernel
theorem dL_told_228 : decode cL_told 228 = .ok (.lload_n 1, 1) := by decide +kernel
theorem dL_told_229 : decode cL_told 229 = .ok (.lreturn, 1) := by decide +kernel
theorem dL_foretells_0 : decode cL_foretells 0 = .ok (.iload_n 1, 1) := by decide +kernel
theorem dL_foretells_1 : decode cL_foretells 1 = .ok (.aload_n 0, 1) := by decide +kernel
theorem dL_foretells_2 : decode cL_foretells 2 = .ok (.iconst 5, 1) := by decide +kernel
theorem dL_foretells_3 : decode cL_foretells 3 = .ok (.invokevirtual 8, 3) := by decide +kernel
theorem dL_foretells_6 : decode cL_foretells 6 = .ok (.invokestatic 60, 3) := by decide +kernel
theorem dL_foretells_9 : decode cL_foretells 9 = .ok (.istore_n 2, 1) := by decide +kernel
theorem dL_foretells_10 : decode cL_foretells 10 = .ok (.aload_n 0, 1) := by decide +kernel
theorem dL_foretells_11 : decode cL_foretells 11 = .ok (.invokevirtual 21, 3) := by decide +kernel
theorem dL_foretells_14 : decode cL_foretells 14 = .ok (.istore_n 3, 1) := by decide +kernel
theorem dL_foretells_15 : decode cL_foretells 15 = .ok (.aload_n 0, 1) := by decide +kernel
theorem dL_foretells_16 : decode cL_foretells 16 = .ok (.iload_n 1, 1) := by decide +kernel
theorem dL_foretells_17 : decode cL_foretells 17 = .ok (.invokevirtual 63, 3) := by decide +kernel
theorem dL_foretells_20 : decode cL_foretells 20 = .ok (.istore 4, 2) := by decide +kernel
theorem dL_foretells_22 : decode cL_foretells 22 = .ok (.aload_n 0, 1) := by decide +kernel
theorem dL_foretells_23 : decode cL_foretells 23 = .ok (.iload_n 2, 1) := by decide +kernel
theorem dL_foretells_24 : decode cL_foretells 24 = .ok (.iload_n 1, 1) := by decide +kernel
theorem dL_foretells_25 : decode cL_foretells 25 = .ok (.invokevirtual 66, 3) := by decide +kernel
theorem dL_foretells_28 : decode cL_foretells 28 = .ok (.istore 5, 2) := by decide +kernel
theorem dL_foretells_30 : decode cL_foretells 30 = .ok (.aload_n 0, 1) := by decide +kernel
theorem dL_foretells_31 : decode cL_foretells 31 = .ok (.bipush 8, 2) := by decide +kernel
theorem dL_foretells_33 : decode cL_foretells 33 = .ok (.invokevirtual 8, 3) := by decide +kernel
theorem dL_foretells_36 : decode cL_foretells 36 = .ok (.istore 6, 2) := by decide +kernel
theorem dL_foretells_38 : decode cL_foretells 38 = .ok (.aload_n 0, 1) := by decide +kernel
theorem dL_foretells_39 : decode cL_foretells 39 = .ok (.invokestatic 69, 3) := by decide +kernel
theorem dL_foretells_42 : decode cL_foretells 42 = .ok (.lstore 7, 2) := by decide +kernel
theorem dL_foretells_44 : decode cL_foretells 44 = .ok (.aload_n 0, 1) := by decide +kernel
theorem dL_foretells_45 : decode cL_foretells 45 = .ok (.iconst 1, 1) := by decide +kernel
theorem dL_foretells_46 : decode cL_foretells 46 = .ok (.invokevirtual 73, 3) := by decide +kernel
theorem dL_foretells_49 : decode cL_foretells 49 = .ok (.aload_n 0, 1) := by decide +kernel
theorem dL_foretells_50 : decode cL_foretells 50 = .ok (.iconst 0, 1) := by decide +kernel
theorem dL_foretells_51 : decode cL_foretells 51 = .ok (.invokevirtual 8, 3) := by decide +kernel
theorem dL_foretells_54 : decode cL_foretells 54 = .ok (.if_icmp .eq 5, 3) := by decide +kernel
theorem dL_foretells_57 : decode cL_foretells 57 = .ok (.iconst 0, 1) := by decide +kernel
theorem dL_foretells_58 : decode cL_foretells 58 = .ok (.ireturn, 1) := by decide +kernel
theorem dL_foretells_59 : decode cL_foretells 59 = .ok (.aload_n 0, 1) := by decide +kernel
theorem dL_foretells_60 : decode cL_foretells 60 = .ok (.iconst 0, 1) := by decide +kernel
theorem dL_foretells_61 : decode cL_foretells 61 = .ok (.invokevirtual 8, 3) := by decide +kernel
theorem dL_foretells_64 : decode cL_foretells 64 = .ok (.istore 9, 2) := by decide +kernel
theorem dL_foretells_66 : decode cL_foretells 66 = .ok (.bipush (-6), 2) := by decide +kernel
theorem dL_foretells_68 : decode cL_foretells 68 = .ok (.istore 10, 2) := by decide +kernel
theorem dL_foretells_70 : decode cL_foretells 70 = .ok (.bipush (-6), 2) := by decide +kernel
theorem dL_foretells_72 : decode cL_foretells 72 = .ok (.istore 11, 2) := by decide +kernel
theorem dL_foretells_74 : decode cL_foretells 74 = .ok (.iconst 0, 1) := by decide +kernel
theorem dL_foretells_75 : decode cL_foretells 75 = .ok (.istore 12, 2) := by decide +kernel
theorem dL_foretells_77 : decode cL_foretells 77 = .ok (.iload 12, 2) := by decide +kernel
theorem dL_foretells_79 : decode cL_foretells 79 = .ok (.iload_n 1, 1) := by decide +kernel
theorem dL_foretells_80 : decode cL_foretells 80 = .ok (.if_icmp .ge 108, 3) := by decide +kernel
theorem dL_foretells_83 : decode cL_foretells 83 = .ok (.aload_n 0, 1) := by decide +kernel
theorem dL_foretells_84 : decode cL_foretells 84 = .ok (.invokestatic 15, 3) := by decide +kernel
theorem dL_foretells_87 : decode cL_foretells 87 = .ok (.ifCond .ne 101, 3) := by decide +kernel
theorem dL_foretells_90 : decode cL_foretells 90 = .ok (.aload_n 0, 1) := by decide +kernel
theorem dL_foretells_91 : decode cL_foretells 91 = .ok (.iconst 0, 1) := by decide +kernel
theorem dL_foretells_92 : decode cL_foretells 92 = .ok (.invokevirtual 8, 3) := by decide +kernel
theorem dL_foretells_95 : decode cL_foretells 95 = .ok (.iconst 3, 1) := by decide +kernel
theorem dL_foretells_96 : decode cL_foretells 96 = .ok (.if_icmp .eq 7, 3) := by decide +kernel
theorem dL_foretells_99 : decode cL_foretells 99 = .ok (.iconst 1, 1) := by decide +kernel
theorem dL_foretells_100 : decode cL_foretells 100 = .ok (.goto 4, 3) := by decide +kernel
theorem dL_foretells_103 : decode cL_foretells 103 = .ok (.iconst 0, 1) := by decide +kernel
theorem dL_foretells_104 : decode cL_foretells 104 = .ok (.istore 13, 2) := by decide +kernel
theorem dL_foretells_106 : decode cL_foretells 106 = .ok (.aload_n 0, 1) := by decide +kernel
theorem dL_foretells_107 : decode cL_foretells 107 = .ok (.iconst 1, 1) := by decide +kernel
theorem dL_foretells_108 : decode cL_foretells 108 = .ok (.invokevirtual 8, 3) := by decide +kernel
theorem dL_foretells_111 : decode cL_foretells 111 = .ok (.istore 14, 2) := by decide +kernel
theorem dL_foretells_113 : decode cL_foretells 113 = .ok (.aload_n 0, 1) := by decide +kernel
theorem dL_foretells_114 : decode cL_foretells 114 = .ok (.iconst 1, 1) := by decide +kernel
theorem dL_foretells_115 : decode cL_foretells 115 = .ok (.invokevirtual 76, 3) := by decide +kernel
theorem dL_foretells_118 : decode cL_foretells 118 = .ok (.iconst 1, 1) := by decide +kernel
theorem dL_foretells_119 : decode cL_foretells 119 = .ok (.if_icmp .eq 5, 3) := by decide +kernel
theorem dL_foretells_122 : decode cL_foretells 122 = .ok (.iconst 0, 1) := by decide +kernel
theorem dL_foretells_123 : decode cL_foretells 123 = .ok (.ireturn, 1) := by decide +kernel
theorem dL_foretells_124 : decode cL_foretells 124 = .ok (.iinc 12 1, 3) := by decide +kernel
theorem dL_foretells_127 : decode cL_foretells 127 = .ok (.iload 13, 2) := by decide +kernel
theorem dL_foretells_129 : decode cL_foretells 129 = .ok (.ifCond .eq 25, 3) := by decide +kernel
theorem dL_foretells_132 : decode cL_foretells 132 = .ok (.aload_n 0, 1) := by decide +kernel
theorem dL_foretells_133 : decode cL_foretells 133 = .ok (.iload 14, 2) := by decide +kernel
theorem dL_foretells_135 : decode cL_foretells 135 = .ok (.iload_n 2, 1) := by decide +kernel
theorem dL_foretells_136 : decode cL_foretells 136 = .ok (.invokevirtual 54, 3) := by decide +kernel
theorem dL_foretells_139 : decode cL_foretells 139 = .ok (.iload 10, 2) := by decide +kernel
theorem dL_foretells_141 : decode cL_foretells 141 = .ok (.if_icmp .le 13, 3) := by decide +kernel
theorem dL_foretells_144 : decode cL_foretells 144 = .ok (.aload_n 0, 1) := by decide +kernel
theorem dL_foretells_145 : decode cL_foretells 145 = .ok (.iload 14, 2) := by decide +kernel
theorem dL_foretells_147 : decode cL_foretells 147 = .ok (.iload_n 2, 1) := by decide +kernel
theorem dL_foretells_148 : decode cL_foretells 148 = .ok (.invokevirtual 54, 3) := by decide +kernel
theorem dL_foretells_151 : decode cL_foretells 151 = .ok (.goto 5, 3) := by decide +kernel
theorem dL_foretells_154 : decode cL_foretells 154 = .ok (.iload 10, 2) := by decide +kernel
theorem dL_foretells_156 : decode cL_foretells 156 = .ok (.istore 10, 2) := by decide +kernel
theorem dL_foretells_158 : decode cL_foretells 158 = .ok (.iload 13, 2) := by decide +kernel
theorem dL_foretells_160 : decode cL_foretells 160 = .ok (.ifCond .eq 21, 3) := by decide +kernel
theorem dL_foretells_163 : decode cL_foretells 163 = .ok (.aload_n 0, 1) := by decide +kernel
theorem dL_foretells_164 : decode cL_foretells 164 = .ok (.iconst 0, 1) := by decide +kernel
theorem dL_foretells_165 : decode cL_foretells 165 = .ok (.invokevirtual 8, 3) := by decide +kernel
theorem dL_foretells_168 : decode cL_foretells 168 = .ok (.iconst 3, 1) := by decide +kernel
theorem dL_foretells_169 : decode cL_foretells 169 = .ok (.if_icmp .ne 12, 3) := by decide +kernel
theorem dL_foretells_172 : decode cL_foretells 172 = .ok (.aload_n 0, 1) := by decide +kernel
theorem dL_foretells_173 : decode cL_foretells 173 = .ok (.bipush 9, 2) := by decide +kernel
theorem dL_foretells_175 : decode cL_foretells 175 = .ok (.invokevirtual 8, 3) := by decide +kernel
theorem dL_foretells_178 : decode cL_foretells 178 = .ok (.goto 5, 3) := by decide +kernel
theorem dL_foretells_181 : decode cL_foretells 181 = .ok (.iload 11, 2) := by decide +kernel
theorem dL_foretells_183 : decode cL_foretells 183 = .ok (.istore 11, 2) := by decide +kernel
theorem dL_foretells_185 : decode cL_foretells 185 = .ok (.goto (-108), 3) := by decide +kernel
theorem dL_foretells_188 : decode cL_foretells 188 = .ok (.aload_n 0, 1) := by decide +kernel
theorem dL_foretells_189 : decode cL_foretells 189 = .ok (.bipush 8, 2) := by decide +kernel
theorem dL_foretells_191 : decode cL_foretells 191 = .ok (.invokevirtual 8, 3) := by decide +kernel
theorem dL_foretells_194 : decode cL_foretells 194 = .ok (.iload 6, 2) := by decide +kernel
theorem dL_foretells_196 : decode cL_foretells 196 = .ok (.iload 12, 2) := by decide +kernel
theorem dL_foretells_198 : decode cL_foretells 198 = .ok (.iadd, 1) := by decide +kernel
theorem dL_foretells_199 : decode cL_foretells 199 = .ok (.if_icmp .ne 48, 3) := by decide +kernel
theorem dL_foretells_202 : decode cL_foretells 202 = .ok (.iload 10, 2) := by decide +kernel
theorem dL_foretells_204 : decode cL_foretells 204 = .ok (.iload 5, 2) := by decide +kernel
theorem dL_foretells_206 : decode cL_foretells 206 = .ok (.if_icmp .ne 41, 3) := by decide +kernel
theorem dL_foretells_209 : decode cL_foretells 209 = .ok (.iload 11, 2) := by decide +kernel
theorem dL_foretells_211 : decode cL_foretells 211 = .ok (.iload 4, 2) := by decide +kernel
theorem dL_foretells_213 : decode cL_foretells 213 = .ok (.if_icmp .ne 34, 3) := by decide +kernel
theorem dL_foretells_216 : decode cL_foretells 216 = .ok (.aload_n 0, 1) := by decide +kernel
theorem dL_foretells_217 : decode cL_foretells 217 = .ok (.invokestatic 15, 3) := by decide +kernel
theorem dL_foretells_220 : decode cL_foretells 220 = .ok (.ifCond .eq 9, 3) := by decide +kernel
theorem dL_foretells_223 : decode cL_foretells 223 = .ok (.iload 12, 2) := by decide +kernel
theorem dL_foretells_225 : decode cL_foretells 225 = .ok (.iload_n 3, 1) := by decide +kernel
theorem dL_foretells_226 : decode cL_foretells 226 = .ok (.if_icmp .ne 21, 3) := by decide +kernel
theorem dL_foretells_229 : decode cL_foretells 229 = .ok (.iload_n 3, 1) := by decide +kernel
theorem dL_foretells_230 : decode cL_foretells 230 = .ok (.bipush (-6), 2) := by decide +kernel
theorem dL_foretells_232 : decode cL_foretells 232 = .ok (.if_icmp .eq 17, 3) := by decide +kernel
theorem dL_foretells_235 : decode cL_foretells 235 = .ok (.iload_n 3, 1) := by decide +kernel
theorem dL_foretells_236 : decode cL_foretells 236 = .ok (.iload_n 1, 1) := by decide +kernel
theorem dL_foretells_237 : decode cL_foretells 237 = .ok (.if_icmp .gt 12, 3) := by decide +kernel
theorem dL_foretells_240 : decode cL_foretells 240 = .ok (.aload_n 0, 1) := by decide +kernel
theorem dL_foretells_241 : decode cL_foretells 241 = .ok (.invokestatic 15, 3) := by decide +kernel
theorem dL_foretells_244 : decode cL_foretells 244 = .ok (.ifCond .ne 5, 3) := by decide +kernel
theorem dL_foretells_247 : decode cL_foretells 247 = .ok (.iconst 0, 1) := by decide +kernel
theorem dL_foretells_248 : decode cL_foretells 248 = .ok (.ireturn, 1) := by decide +kernel
theorem dL_foretells_249 : decode cL_foretells 249 = .ok (.aload_n 0, 1) := by decide +kernel
theorem dL_foretells_250 : decode cL_foretells 250 = .ok (.iconst 1, 1) := by decide +kernel
theorem dL_foretells_251 : decode cL_foretells 251 = .ok (.invokevirtual 79, 3) := by decide +kernel
theorem dL_foretells_254 : decode cL_foretells 254 = .ok (.iload 9, 2) := by decide +kernel
theorem dL_foretells_256 : decode cL_foretells 256 = .ok (.if_icmp .ne 17, 3) := by decide +kernel
theorem dL_foretells_259 : decode cL_foretells 259 = .ok (.aload_n 0, 1) := by decide +kernel
theorem dL_foretells_260 : decode cL_foretells 260 = .ok (.invokestatic 69, 3) := by decide +kernel
theorem dL_foretells_263 : decode cL_foretells 263 = .ok (.lload 7, 2) := by decide +kernel
theorem dL_foretells_265 : decode cL_foretells 265 = .ok (.lcmp, 1) := by decide +kernel
theorem dL_foretells_266 : decode cL_foretells 266 = .ok (.ifCond .ne 7, 3) := by decide +kernel
theorem dL_foretells_269 : decode cL_foretells 269 = .ok (.iconst 1, 1) := by decide +kernel
theorem dL_foretells_270 : decode cL_foretells 270 = .ok (.goto 4, 3) := by decide +kernel
theorem dL_foretells_273 : decode cL_foretells 273 = .ok (.iconst 0, 1) := by decide +kernel
theorem dL_foretells_274 : decode cL_foretells 274 = .ok (.ireturn, 1) := by decide +kernel
theorem dL_acts_0 : decode cL_acts 0 = .ok (.iload_n 1, 1) := by decide +kernel
theorem dL_acts_1 : decode cL_acts 1 = .ok (.bipush 15, 2) := by decide +kernel
theorem dL_acts_3 : decode cL_acts 3 = .ok (.iand, 1) := by decide +kernel
theorem dL_acts_4 : decode cL_acts 4 = .ok (.istore_n 3, 1) := by decide +kernel
theorem dL_acts_5 : decode cL_acts 5 = .ok (.aload_n 0, 1) := by decide +kernel
theorem dL_acts_6 : decode cL_acts 6 = .ok (.invokestatic 15, 3) := by decide +kernel
theorem dL_acts_9 : decode cL_acts 9 = .ok (.istore 4, 2) := by decide +kernel
theorem dL_acts_11 : decode cL_acts 11 = .ok (.aload_n 0, 1) := by decide +kernel
theorem dL_acts_12 : decode cL_acts 12 = .ok (.iconst 0, 1) := by decide +kernel
theorem dL_acts_13 : decode cL_acts 13 = .ok (.invokevirtual 8, 3) := by decide +kernel
theorem dL_acts_16 : decode cL_acts 16 = .ok (.istore 5, 2) := by decide +kernel
theorem dL_acts_18 : decode cL_acts 18 = .ok (.iload_n 3, 1) := by decide +kernel
theorem dL_acts_19 : decode cL_acts 19 = .ok (.iconst 4, 1) := by decide +kernel
theorem dL_acts_20 : decode cL_acts 20 = .ok (.if_icmp .ge 96, 3) := by decide +kernel
theorem dL_acts_23 : decode cL_acts 23 = .ok (.aload_n 0, 1) := by decide +kernel
theorem dL_acts_24 : decode cL_acts 24 = .ok (.bipush 8, 2) := by decide +kernel
theorem dL_acts_26 : decode cL_acts 26 = .ok (.invokevirtual 8, 3) := by decide +kernel
theorem dL_acts_29 : decode cL_acts 29 = .ok (.istore 6, 2) := by decide +kernel
theorem dL_acts_31 : decode cL_acts 31 = .ok (.iconst 1, 1) := by decide +kernel
theorem dL_acts_32 : decode cL_acts 32 = .ok (.iload_n 2, 1) := by decide +kernel
theorem dL_acts_33 : decode cL_acts 33 = .ok (.bipush 50, 2) := by decide +kernel
theorem dL_acts_35 : decode cL_acts 35 = .ok (.invokestatic 60, 3) := by decide +kernel
theorem dL_acts_38 : decode cL_acts 38 = .ok (.iadd, 1) := by decide +kernel
theorem dL_acts_39 : decode cL_acts 39 = .ok (.istore 7, 2) := by decide +kernel
theorem dL_acts_41 : decode cL_acts 41 = .ok (.aload_n 0, 1) := by decide +kernel
theorem dL_acts_42 : decode cL_acts 42 = .ok (.iload 7, 2) := by decide +kernel
theorem dL_acts_44 : decode cL_acts 44 = .ok (.invokevirtual 76, 3) := by decide +kernel
theorem dL_acts_47 : decode cL_acts 47 = .ok (.istore 8, 2) := by decide +kernel
theorem dL_acts_49 : decode cL_acts 49 = .ok (.iload 4, 2) := by decide +kernel
theorem dL_acts_51 : decode cL_acts 51 = .ok (.ifCond .eq 18, 3) := by decide +kernel
theorem dL_acts_54 : decode cL_acts 54 = .ok (.iload 8, 2) := by decide +kernel
theorem dL_acts_56 : decode cL_acts 56 = .ok (.bipush (-3), 2) := by decide +kernel
theorem dL_acts_58 : decode cL_acts 58 = .ok (.if_icmp .ne 7, 3) := by decide +kernel
theorem dL_acts_61 : decode cL_acts 61 = .ok (.iconst 1, 1) := by decide +kernel
theorem dL_acts_62 : decode cL_acts 62 = .ok (.goto 53, 3) := by decide +kernel
theorem dL_acts_65 : decode cL_acts 65 = .ok (.iconst 0, 1) := by decide +kernel
theorem dL_acts_66 : decode cL_acts 66 = .ok (.goto 49, 3) := by decide +kernel
theorem dL_acts_69 : decode cL_acts 69 = .ok (.iload 8, 2) := by decide +kernel
theorem dL_acts_71 : decode cL_acts 71 = .ok (.iconst 1, 1) := by decide +kernel
theorem dL_acts_72 : decode cL_acts 72 = .ok (.if_icmp .lt 42, 3) := by decide +kernel
theorem dL_acts_75 : decode cL_acts 75 = .ok (.iload 8, 2) := by decide +kernel
theorem dL_acts_77 : decode cL_acts 77 = .ok (.iload 7, 2) := by decide +kernel
theorem dL_acts_79 : decode cL_acts 79 = .ok (.if_icmp .gt 35, 3) := by decide +kernel
theorem dL_acts_82 : decode cL_acts 82 = .ok (.aload_n 0, 1) := by decide +kernel
theorem dL_acts_83 : decode cL_acts 83 = .ok (.bipush 8, 2) := by decide +kernel
theorem dL_acts_85 : decode cL_acts 85 = .ok (.invokevirtual 8, 3) := by decide +kernel
theorem dL_acts_88 : decode cL_acts 88 = .ok (.iload 6, 2) := by decide +kernel
theorem dL_acts_90 : decode cL_acts 90 = .ok (.iload 8, 2) := by decide +kernel
theorem dL_acts_92 : decode cL_acts 92 = .ok (.iadd, 1) := by decide +kernel
theorem dL_acts_93 : decode cL_acts 93 = .ok (.if_icmp .ne 21, 3) := by decide +kernel
theorem dL_acts_96 : decode cL_acts 96 = .ok (.iload 8, 2) := by decide +kernel
theorem dL_acts_98 : decode cL_acts 98 = .ok (.iload 7, 2) := by decide +kernel
theorem dL_acts_100 : decode cL_acts 100 = .ok (.if_icmp .eq 10, 3) := by decide +kernel
theorem dL_acts_103 : decode cL_acts 103 = .ok (.aload_n 0, 1) := by decide +kernel
theorem dL_acts_104 : decode cL_acts 104 = .ok (.invokestatic 15, 3) := by decide +kernel
theorem dL_acts_107 : decode cL_acts 107 = .ok (.ifCond .eq 7, 3) := by decide +kernel
theorem dL_acts_110 : decode cL_acts 110 = .ok (.iconst 1, 1) := by decide +kernel
theorem dL_acts_111 : decode cL_acts 111 = .ok (.goto 4, 3) := by decide +kernel
theorem dL_acts_114 : decode cL_acts 114 = .ok (.iconst 0, 1) := by decide +kernel
theorem dL_acts_115 : decode cL_acts 115 = .ok (.ireturn, 1) := by decide +kernel
theorem dL_acts_116 : decode cL_acts 116 = .ok (.iload_n 3, 1) := by decide +kernel
theorem dL_acts_117 : decode cL_acts 117 = .ok (.bipush 6, 2) := by decide +kernel
theorem dL_acts_119 : decode cL_acts 119 = .ok (.if_icmp .ge 126, 3) := by decide +kernel
theorem dL_acts_122 : decode cL_acts 122 = .ok (.aload_n 0, 1) := by decide +kernel
theorem dL_acts_123 : decode cL_acts 123 = .ok (.iconst 1, 1) := by decide +kernel
theorem dL_acts_124 : decode cL_acts 124 = .ok (.iload_n 2, 1) := by decide +kernel
theorem dL_acts_125 : decode cL_acts 125 = .ok (.sipush 1000, 3) := by decide +kernel
theorem dL_acts_128 : decode cL_acts 128 = .ok (.invokestatic 60, 3) := by decide +kernel
theorem dL_acts_131 : decode cL_acts 131 = .ok (.iadd, 1) := by decide +kernel
theorem dL_acts_132 : decode cL_acts 132 = .ok (.invokevirtual 82, 3) := by decide +kernel
theorem dL_acts_135 : decode cL_acts 135 = .ok (.istore 6, 2) := by decide +kernel
theorem dL_acts_137 : decode cL_acts 137 = .ok (.iload 4, 2) := by decide +kernel
theorem dL_acts_139 : decode cL_acts 139 = .ok (.ifCond .eq 73, 3) := by decide +kernel
theorem dL_acts_142 : decode cL_acts 142 = .ok (.iload 6, 2) := by decide +kernel
theorem dL_acts_144 : decode cL_acts 144 = .ok (.aload_n 0, 1) := by decide +kernel
theorem dL_acts_145 : decode cL_acts 145 = .ok (.iconst 3, 1) := by decide +kernel
theorem dL_acts_146 : decode cL_acts 146 = .ok (.invokevirtual 8, 3) := by decide +kernel
theorem dL_acts_149 : decode cL_acts 149 = .ok (.if_icmp .ne 59, 3) := by decide +kernel
theorem dL_acts_152 : decode cL_acts 152 = .ok (.aload_n 0, 1) := by decide +kernel
theorem dL_acts_153 : decode cL_acts 153 = .ok (.iconst 0, 1) := by decide +kernel
theorem dL_acts_154 : decode cL_acts 154 = .ok (.invokevirtual 8, 3) := by decide +kernel
theorem dL_acts_157 : decode cL_acts 157 = .ok (.iconst 1, 1) := by decide +kernel
theorem dL_acts_158 : decode cL_acts 158 = .ok (.if_icmp .ne 50, 3) := by decide +kernel
theorem dL_acts_161 : decode cL_acts 161 = .ok (.aload_n 0, 1) := by decide +kernel
theorem dL_acts_162 : decode cL_acts 162 = .ok (.iconst 1, 1) := by decide +kernel
theorem dL_acts_163 : decode cL_acts 163 = .ok (.invokevirtual 8, 3) := by decide +kernel
theorem dL_acts_166 : decode cL_acts 166 = .ok (.ifCond .ne 42, 3) := by decide +kernel
theorem dL_acts_169 : decode cL_acts 169 = .ok (.aload_n 0, 1) := by decide +kernel
theorem dL_acts_170 : decode cL_acts 170 = .ok (.iconst 2, 1) := by decide +kernel
theorem dL_acts_171 : decode cL_acts 171 = .ok (.invokevirtual 8, 3) := by decide +kernel
theorem dL_acts_174 : decode cL_acts 174 = .ok (.iconst 1, 1) := by decide +kernel
theorem dL_acts_175 : decode cL_acts 175 = .ok (.iload_n 2, 1) := by decide +kernel
theorem dL_acts_176 : decode cL_acts 176 = .ok (.sipush 1000, 3) := by decide +kernel
theorem dL_acts_179 : decode cL_acts 179 = .ok (.invokestatic 60, 3) := by decide +kernel
theorem dL_acts_182 : decode cL_acts 182 = .ok (.iadd, 1) := by decide +kernel
theorem dL_acts_183 : decode cL_acts 183 = .ok (.if_icmp .ne 25, 3) := by decide +kernel
theorem dL_acts_186 : decode cL_acts 186 = .ok (.aload_n 0, 1) := by decide +kernel
theorem dL_acts_187 : decode cL_acts 187 = .ok (.bipush 8, 2) := by decide +kernel
theorem dL_acts_189 : decode cL_acts 189 = .ok (.invokevirtual 8, 3) := by decide +kernel
theorem dL_acts_192 : decode cL_acts 192 = .ok (.ifCond .ne 16, 3) := by decide +kernel
theorem dL_acts_195 : decode cL_acts 195 = .ok (.aload_n 0, 1) := by decide +kernel
theorem dL_acts_196 : decode cL_acts 196 = .ok (.bipush 11, 2) := by decide +kernel
theorem dL_acts_198 : decode cL_acts 198 = .ok (.invokevirtual 8, 3) := by decide +kernel
theorem dL_acts_201 : decode cL_acts 201 = .ok (.ifCond .ne 7, 3) := by decide +kernel
theorem dL_acts_204 : decode cL_acts 204 = .ok (.iconst 1, 1) := by decide +kernel
theorem dL_acts_205 : decode cL_acts 205 = .ok (.goto 39, 3) := by decide +kernel
theorem dL_acts_208 : decode cL_acts 208 = .ok (.iconst 0, 1) := by decide +kernel
theorem dL_acts_209 : decode cL_acts 209 = .ok (.goto 35, 3) := by decide +kernel
theorem dL_acts_212 : decode cL_acts 212 = .ok (.iload 6, 2) := by decide +kernel
theorem dL_acts_214 : decode cL_acts 214 = .ok (.bipush (-5), 2) := by decide +kernel
theorem dL_acts_216 : decode cL_acts 216 = .ok (.if_icmp .ne 27, 3) := by decide +kernel
theorem dL_acts_219 : decode cL_acts 219 = .ok (.aload_n 0, 1) := by decide +kernel
theorem dL_acts_220 : decode cL_acts 220 = .ok (.bipush 11, 2) := by decide +kernel
theorem dL_acts_222 : decode cL_acts 222 = .ok (.invokevirtual 8, 3) := by decide +kernel
theorem dL_acts_225 : decode cL_acts 225 = .ok (.iconst 1, 1) := by decide +kernel
theorem dL_acts_226 : decode cL_acts 226 = .ok (.if_icmp .ne 17, 3) := by decide +kernel
theorem dL_acts_229 : decode cL_acts 229 = .ok (.aload_n 0, 1) := by decide +kernel
theorem dL_acts_230 : decode cL_acts 230 = .ok (.iconst 0, 1) := by decide +kernel
theorem dL_acts_231 : decode cL_acts 231 = .ok (.invokevirtual 8, 3) := by decide +kernel
theorem dL_acts_234 : decode cL_acts 234 = .ok (.iload 5, 2) := by decide +kernel
theorem dL_acts_236 : decode cL_acts 236 = .ok (.if_icmp .ne 7, 3) := by decide +kernel
theorem dL_acts_239 : decode cL_acts 239 = .ok (.iconst 1, 1) := by decide +kernel
theorem dL_acts_240 : decode cL_acts 240 = .ok (.goto 4, 3) := by decide +kernel
theorem dL_acts_243 : decode cL_acts 243 = .ok (.iconst 0, 1) := by decide +kernel
theorem dL_acts_244 : decode cL_acts 244 = .ok (.ireturn, 1) := by decide +kernel
theorem dL_acts_245 : decode cL_acts 245 = .ok (.iload_n 3, 1) := by decide +kernel
theorem dL_acts_246 : decode cL_acts 246 = .ok (.bipush 6, 2) := by decide +kernel
theorem dL_acts_248 : decode cL_acts 248 = .ok (.if_icmp .ne 61, 3) := by decide +kernel
theorem dL_acts_251 : decode cL_acts 251 = .ok (.iload_n 2, 1) := by decide +kernel
theorem dL_acts_252 : decode cL_acts 252 = .ok (.iconst 1, 1) := by decide +kernel
theorem dL_acts_253 : decode cL_acts 253 = .ok (.iand, 1) := by decide +kernel
theorem dL_acts_254 : decode cL_acts 254 = .ok (.iconst 1, 1) := by decide +kernel
theorem dL_acts_255 : decode cL_acts 255 = .ok (.if_icmp .ne 7, 3) := by decide +kernel
theorem dL_acts_258 : decode cL_acts 258 = .ok (.iconst 1, 1) := by decide +kernel
theorem dL_acts_259 : decode cL_acts 259 = .ok (.goto 4, 3) := by decide +kernel
theorem dL_acts_262 : decode cL_acts 262 = .ok (.iconst 0, 1) := by decide +kernel
theorem dL_acts_263 : decode cL_acts 263 = .ok (.istore 6, 2) := by decide +kernel
theorem dL_acts_265 : decode cL_acts 265 = .ok (.aload_n 0, 1) := by decide +kernel
theorem dL_acts_266 : decode cL_acts 266 = .ok (.iconst 1, 1) := by decide +kernel
theorem dL_acts_267 : decode cL_acts 267 = .ok (.invokevirtual 8, 3) := by decide +kernel
theorem dL_acts_270 : decode cL_acts 270 = .ok (.istore 7, 2) := by decide +kernel
theorem dL_acts_272 : decode cL_acts 272 = .ok (.aload_n 0, 1) := by decide +kernel
theorem dL_acts_273 : decode cL_acts 273 = .ok (.iload 6, 2) := by decide +kernel
theorem dL_acts_275 : decode cL_acts 275 = .ok (.invokevirtual 85, 3) := by decide +kernel
theorem dL_acts_278 : decode cL_acts 278 = .ok (.iload 5, 2) := by decide +kernel
theorem dL_acts_280 : decode cL_acts 280 = .ok (.iload 6, 2) := by decide +kernel
theorem dL_acts_282 : decode cL_acts 282 = .ok (.ifCond .eq 7, 3) := by decide +kernel
theorem dL_acts_285 : decode cL_acts 285 = .ok (.iconst 1, 1) := by decide +kernel
theorem dL_acts_286 : decode cL_acts 286 = .ok (.goto 4, 3) := by decide +kernel
theorem dL_acts_289 : decode cL_acts 289 = .ok (.iconst 2, 1) := by decide +kernel
theorem dL_acts_290 : decode cL_acts 290 = .ok (.if_icmp .ne 8, 3) := by decide +kernel
theorem dL_acts_293 : decode cL_acts 293 = .ok (.iload 7, 2) := by decide +kernel
theorem dL_acts_295 : decode cL_acts 295 = .ok (.goto 5, 3) := by decide +kernel
theorem dL_acts_298 : decode cL_acts 298 = .ok (.bipush (-3), 2) := by decide +kernel
theorem dL_acts_300 : decode cL_acts 300 = .ok (.if_icmp .ne 7, 3) := by decide +kernel
theorem dL_acts_303 : decode cL_acts 303 = .ok (.iconst 1, 1) := by decide +kernel
theorem dL_acts_304 : decode cL_acts 304 = .ok (.goto 4, 3) := by decide +kernel
theorem dL_acts_307 : decode cL_acts 307 = .ok (.iconst 0, 1) := by decide +kernel
theorem dL_acts_308 : decode cL_acts 308 = .ok (.ireturn, 1) := by decide +kernel
theorem dL_acts_309 : decode cL_acts 309 = .ok (.iload_n 3, 1) := by decide +kernel
theorem dL_acts_310 : decode cL_acts 310 = .ok (.bipush 7, 2) := by decide +kernel
theorem dL_acts_312 : decode cL_acts 312 = .ok (.if_icmp .ne 90, 3) := by decide +kernel
theorem dL_acts_315 : decode cL_acts 315 = .ok (.aload_n 0, 1) := by decide +kernel
theorem dL_acts_316 : decode cL_acts 316 = .ok (.iconst 1, 1) := by decide +kernel
theorem dL_acts_317 : decode cL_acts 317 = .ok (.invokevirtual 8, 3) := by decide +kernel
theorem dL_acts_320 : decode cL_acts 320 = .ok (.istore 6, 2) := by decide +kernel
theorem dL_acts_322 : decode cL_acts 322 = .ok (.iload 5, 2) := by decide +kernel
theorem dL_acts_324 : decode cL_acts 324 = .ok (.iconst 1, 1) := by decide +kernel
theorem dL_acts_325 : decode cL_acts 325 = .ok (.if_icmp .eq 9, 3) := by decide +kernel
theorem dL_acts_328 : decode cL_acts 328 = .ok (.iload 5, 2) := by decide +kernel
theorem dL_acts_330 : decode cL_acts 330 = .ok (.iconst 2, 1) := by decide +kernel
theorem dL_acts_331 : decode cL_acts 331 = .ok (.if_icmp .ne 7, 3) := by decide +kernel
theorem dL_acts_334 : decode cL_acts 334 = .ok (.iconst 1, 1) := by decide +kernel
theorem dL_acts_335 : decode cL_acts 335 = .ok (.goto 4, 3) := by decide +kernel
theorem dL_acts_338 : decode cL_acts 338 = .ok (.iconst 0, 1) := by decide +kernel
theorem dL_acts_339 : decode cL_acts 339 = .ok (.istore 7, 2) := by decide +kernel
theorem dL_acts_341 : decode cL_acts 341 = .ok (.aload_n 0, 1) := by decide +kernel
theorem dL_acts_342 : decode cL_acts 342 = .ok (.invokevirtual 89, 3) := by decide +kernel
theorem dL_acts_345 : decode cL_acts 345 = .ok (.iload 7, 2) := by decide +kernel
theorem dL_acts_347 : decode cL_acts 347 = .ok (.ifCond .eq 8, 3) := by decide +kernel
theorem dL_acts_350 : decode cL_acts 350 = .ok (.iload 6, 2) := by decide +kernel
theorem dL_acts_352 : decode cL_acts 352 = .ok (.goto 5, 3) := by decide +kernel
theorem dL_acts_355 : decode cL_acts 355 = .ok (.bipush (-3), 2) := by decide +kernel
theorem dL_acts_357 : decode cL_acts 357 = .ok (.if_icmp .ne 43, 3) := by decide +kernel
theorem dL_acts_360 : decode cL_acts 360 = .ok (.iload 7, 2) := by decide +kernel
theorem dL_acts_362 : decode cL_acts 362 = .ok (.ifCond .eq 34, 3) := by decide +kernel
theorem dL_acts_365 : decode cL_acts 365 = .ok (.aload_n 0, 1) := by decide +kernel
theorem dL_acts_366 : decode cL_acts 366 = .ok (.iconst 0, 1) := by decide +kernel
theorem dL_acts_367 : decode cL_acts 367 = .ok (.invokevirtual 8, 3) := by decide +kernel
theorem dL_acts_370 : decode cL_acts 370 = .ok (.iconst 3, 1) := by decide +kernel
theorem dL_acts_371 : decode cL_acts 371 = .ok (.if_icmp .ne 29, 3) := by decide +kernel
theorem dL_acts_374 : decode cL_acts 374 = .ok (.aload_n 0, 1) := by decide +kernel
theorem dL_acts_375 : decode cL_acts 375 = .ok (.bipush 10, 2) := by decide +kernel
theorem dL_acts_377 : decode cL_acts 377 = .ok (.invokevirtual 8, 3) := by decide +kernel
theorem dL_acts_380 : decode cL_acts 380 = .ok (.iload 6, 2) := by decide +kernel
theorem dL_acts_382 : decode cL_acts 382 = .ok (.if_icmp .ne 18, 3) := by decide +kernel
theorem dL_acts_385 : decode cL_acts 385 = .ok (.aload_n 0, 1) := by decide +kernel
theorem dL_acts_386 : decode cL_acts 386 = .ok (.bipush 9, 2) := by decide +kernel
theorem dL_acts_388 : decode cL_acts 388 = .ok (.invokevirtual 8, 3) := by decide +kernel
theorem dL_acts_391 : decode cL_acts 391 = .ok (.bipush (-6), 2) := by decide +kernel
theorem dL_acts_393 : decode cL_acts 393 = .ok (.if_icmp .ne 7, 3) := by decide +kernel
theorem dL_acts_396 : decode cL_acts 396 = .ok (.iconst 1, 1) := by decide +kernel
theorem dL_acts_397 : decode cL_acts 397 = .ok (.goto 4, 3) := by decide +kernel
theorem dL_acts_400 : decode cL_acts 400 = .ok (.iconst 0, 1) := by decide +kernel
theorem dL_acts_401 : decode cL_acts 401 = .ok (.ireturn, 1) := by decide +kernel
theorem dL_acts_402 : decode cL_acts 402 = .ok (.iload_n 3, 1) := by decide +kernel
theorem dL_acts_403 : decode cL_acts 403 = .ok (.bipush 8, 2) := by decide +kernel
theorem dL_acts_405 : decode cL_acts 405 = .ok (.if_icmp .ne 165, 3) := by decide +kernel
theorem dL_acts_408 : decode cL_acts 408 = .ok (.iload_n 2, 1) := by decide +kernel
theorem dL_acts_409 : decode cL_acts 409 = .ok (.bipush 6, 2) := by decide +kernel
theorem dL_acts_411 : decode cL_acts 411 = .ok (.invokestatic 60, 3) := by decide +kernel
theorem dL_acts_414 : decode cL_acts 414 = .ok (.istore 6, 2) := by decide +kernel
theorem dL_acts_416 : decode cL_acts 416 = .ok (.aload_n 0, 1) := by decide +kernel
theorem dL_acts_417 : decode cL_acts 417 = .ok (.bipush 14, 2) := by decide +kernel
theorem dL_acts_419 : decode cL_acts 419 = .ok (.iload 6, 2) := by decide +kernel
theorem dL_acts_421 : decode cL_acts 421 = .ok (.iadd, 1) := by decide +kernel
theorem dL_acts_422 : decode cL_acts 422 = .ok (.invokevirtual 8, 3) := by decide +kernel
theorem dL_acts_425 : decode cL_acts 425 = .ok (.istore 7, 2) := by decide +kernel
theorem dL_acts_427 : decode cL_acts 427 = .ok (.iconst 1, 1) := by decide +kernel
theorem dL_acts_428 : decode cL_acts 428 = .ok (.iload_n 2, 1) := by decide +kernel
theorem dL_acts_429 : decode cL_acts 429 = .ok (.iconst 4, 1) := by decide +kernel
theorem dL_acts_430 : decode cL_acts 430 = .ok (.ishr, 1) := by decide +kernel
theorem dL_acts_431 : decode cL_acts 431 = .ok (.bipush 9, 2) := by decide +kernel
theorem dL_acts_433 : decode cL_acts 433 = .ok (.invokestatic 60, 3) := by decide +kernel
theorem dL_acts_436 : decode cL_acts 436 = .ok (.iadd, 1) := by decide +kernel
theorem dL_acts_437 : decode cL_acts 437 = .ok (.istore 8, 2) := by decide +kernel
theorem dL_acts_439 : decode cL_acts 439 = .ok (.aload_n 0, 1) := by decide +kernel
theorem dL_acts_440 : decode cL_acts 440 = .ok (.iload 6, 2) := by decide +kernel
theorem dL_acts_442 : decode cL_acts 442 = .ok (.iload 8, 2) := by decide +kernel
theorem dL_acts_444 : decode cL_acts 444 = .ok (.invokevirtual 92, 3) := by decide +kernel
theorem dL_acts_447 : decode cL_acts 447 = .ok (.istore 9, 2) := by decide +kernel
theorem dL_acts_449 : decode cL_acts 449 = .ok (.iload 6, 2) := by decide +kernel
theorem dL_acts_451 : decode cL_acts 451 = .ok (.ifCond .ne 17, 3) := by decide +kernel
theorem dL_acts_454 : decode cL_acts 454 = .ok (.iload 8, 2) := by decide +kernel
theorem dL_acts_456 : decode cL_acts 456 = .ok (.iconst 3, 1) := by decide +kernel
theorem dL_acts_457 : decode cL_acts 457 = .ok (.if_icmp .ge 7, 3) := by decide +kernel
theorem dL_acts_460 : decode cL_acts 460 = .ok (.iconst 1, 1) := by decide +kernel
theorem dL_acts_461 : decode cL_acts 461 = .ok (.goto 60, 3) := by decide +kernel
theorem dL_acts_464 : decode cL_acts 464 = .ok (.iconst 0, 1) := by decide +kernel
theorem dL_acts_465 : decode cL_acts 465 = .ok (.goto 56, 3) := by decide +kernel
theorem dL_acts_468 : decode cL_acts 468 = .ok (.iload 6, 2) := by decide +kernel
theorem dL_acts_470 : decode cL_acts 470 = .ok (.iconst 1, 1) := by decide +kernel
theorem dL_acts_471 : decode cL_acts 471 = .ok (.if_icmp .ne 18, 3) := by decide +kernel
theorem dL_acts_474 : decode cL_acts 474 = .ok (.iload 8, 2) := by decide +kernel
theorem dL_acts_476 : decode cL_acts 476 = .ok (.bipush 9, 2) := by decide +kernel
theorem dL_acts_478 : decode cL_acts 478 = .ok (.if_icmp .ge 7, 3) := by decide +kernel
theorem dL_acts_481 : decode cL_acts 481 = .ok (.iconst 1, 1) := by decide +kernel
theorem dL_acts_482 : decode cL_acts 482 = .ok (.goto 39, 3) := by decide +kernel
theorem dL_acts_485 : decode cL_acts 485 = .ok (.iconst 0, 1) := by decide +kernel
theorem dL_acts_486 : decode cL_acts 486 = .ok (.goto 35, 3) := by decide +kernel
theorem dL_acts_489 : decode cL_acts 489 = .ok (.iload 6, 2) := by decide +kernel
theorem dL_acts_491 : decode cL_acts 491 = .ok (.iconst 2, 1) := by decide +kernel
theorem dL_acts_492 : decode cL_acts 492 = .ok (.if_icmp .ne 18, 3) := by decide +kernel
theorem dL_acts_495 : decode cL_acts 495 = .ok (.iload 8, 2) := by decide +kernel
theorem dL_acts_497 : decode cL_acts 497 = .ok (.bipush 6, 2) := by decide +kernel
theorem dL_acts_499 : decode cL_acts 499 = .ok (.if_icmp .ge 7, 3) := by decide +kernel
theorem dL_acts_502 : decode cL_acts 502 = .ok (.iconst 1, 1) := by decide +kernel
theorem dL_acts_503 : decode cL_acts 503 = .ok (.goto 18, 3) := by decide +kernel
theorem dL_acts_506 : decode cL_acts 506 = .ok (.iconst 0, 1) := by decide +kernel
theorem dL_acts_507 : decode cL_acts 507 = .ok (.goto 14, 3) := by decide +kernel
theorem dL_acts_510 : decode cL_acts 510 = .ok (.iload 6, 2) := by decide +kernel
theorem dL_acts_512 : decode cL_acts 512 = .ok (.iconst 4, 1) := by decide +kernel
theorem dL_acts_513 : decode cL_acts 513 = .ok (.if_icmp .eq 7, 3) := by decide +kernel
theorem dL_acts_516 : decode cL_acts 516 = .ok (.iconst 1, 1) := by decide +kernel
theorem dL_acts_517 : decode cL_acts 517 = .ok (.goto 4, 3) := by decide +kernel
theorem dL_acts_520 : decode cL_acts 520 = .ok (.iconst 0, 1) := by decide +kernel
theorem dL_acts_521 : decode cL_acts 521 = .ok (.istore 10, 2) := by decide +kernel
theorem dL_acts_523 : decode cL_acts 523 = .ok (.iload 9, 2) := by decide +kernel
theorem dL_acts_525 : decode cL_acts 525 = .ok (.iload 10, 2) := by decide +kernel
theorem dL_acts_527 : decode cL_acts 527 = .ok (.ifCond .eq 8, 3) := by decide +kernel
theorem dL_acts_530 : decode cL_acts 530 = .ok (.iload 7, 2) := by decide +kernel
theorem dL_acts_532 : decode cL_acts 532 = .ok (.goto 5, 3) := by decide +kernel
theorem dL_acts_535 : decode cL_acts 535 = .ok (.bipush (-2), 2) := by decide +kernel
theorem dL_acts_537 : decode cL_acts 537 = .ok (.if_icmp .ne 31, 3) := by decide +kernel
theorem dL_acts_540 : decode cL_acts 540 = .ok (.aload_n 0, 1) := by decide +kernel
theorem dL_acts_541 : decode cL_acts 541 = .ok (.bipush 14, 2) := by decide +kernel
theorem dL_acts_543 : decode cL_acts 543 = .ok (.iload 6, 2) := by decide +kernel
theorem dL_acts_545 : decode cL_acts 545 = .ok (.iadd, 1) := by decide +kernel
theorem dL_acts_546 : decode cL_acts 546 = .ok (.invokevirtual 8, 3) := by decide +kernel
theorem dL_acts_549 : decode cL_acts 549 = .ok (.iload 10, 2) := by decide +kernel
theorem dL_acts_551 : decode cL_acts 551 = .ok (.ifCond .eq 8, 3) := by decide +kernel
theorem dL_acts_554 : decode cL_acts 554 = .ok (.iload 8, 2) := by decide +kernel
theorem dL_acts_556 : decode cL_acts 556 = .ok (.goto 5, 3) := by decide +kernel
theorem dL_acts_559 : decode cL_acts 559 = .ok (.iload 7, 2) := by decide +kernel
theorem dL_acts_561 : decode cL_acts 561 = .ok (.if_icmp .ne 7, 3) := by decide +kernel
theorem dL_acts_564 : decode cL_acts 564 = .ok (.iconst 1, 1) := by decide +kernel
theorem dL_acts_565 : decode cL_acts 565 = .ok (.goto 4, 3) := by decide +kernel
theorem dL_acts_568 : decode cL_acts 568 = .ok (.iconst 0, 1) := by decide +kernel
theorem dL_acts_569 : decode cL_acts 569 = .ok (.ireturn, 1) := by decide +kernel
theorem dL_acts_570 : decode cL_acts 570 = .ok (.iload_n 3, 1) := by decide +kernel
theorem dL_acts_571 : decode cL_acts 571 = .ok (.bipush 9, 2) := by decide +kernel
theorem dL_acts_573 : decode cL_acts 573 = .ok (.if_icmp .ne 79, 3) := by decide +kernel
theorem dL_acts_576 : decode cL_acts 576 = .ok (.iload_n 2, 1) := by decide +kernel
theorem dL_acts_577 : decode cL_acts 577 = .ok (.aload_n 0, 1) := by decide +kernel
theorem dL_acts_578 : decode cL_acts 578 = .ok (.iconst 5, 1) := by decide +kernel
theorem dL_acts_579 : decode cL_acts 579 = .ok (.invokevirtual 8, 3) := by decide +kernel
theorem dL_acts_582 : decode cL_acts 582 = .ok (.invokestatic 60, 3) := by decide +kernel
theorem dL_acts_585 : decode cL_acts 585 = .ok (.istore 6, 2) := by decide +kernel
theorem dL_acts_587 : decode cL_acts 587 = .ok (.iconst 1, 1) := by decide +kernel
theorem dL_acts_588 : decode cL_acts 588 = .ok (.iload_n 2, 1) := by decide +kernel
theorem dL_acts_589 : decode cL_acts 589 = .ok (.iconst 3, 1) := by decide +kernel
theorem dL_acts_590 : decode cL_acts 590 = .ok (.ishr, 1) := by decide +kernel
theorem dL_acts_591 : decode cL_acts 591 = .ok (.sipush 300, 3) := by decide +kernel
theorem dL_acts_594 : decode cL_acts 594 = .ok (.invokestatic 60, 3) := by decide +kernel
theorem dL_acts_597 : decode cL_acts 597 = .ok (.iadd, 1) := by decide +kernel
theorem dL_acts_598 : decode cL_acts 598 = .ok (.istore 7, 2) := by decide +kernel
theorem dL_acts_600 : decode cL_acts 600 = .ok (.aload_n 0, 1) := by decide +kernel
theorem dL_acts_601 : decode cL_acts 601 = .ok (.iload 6, 2) := by decide +kernel
theorem dL_acts_603 : decode cL_acts 603 = .ok (.iload_n 2, 1) := by decide +kernel
theorem dL_acts_604 : decode cL_acts 604 = .ok (.iconst 2, 1) := by decide +kernel
theorem dL_acts_605 : decode cL_acts 605 = .ok (.ishr, 1) := by decide +kernel
theorem dL_acts_606 : decode cL_acts 606 = .ok (.iconst 3, 1) := by decide +kernel
theorem dL_acts_607 : decode cL_acts 607 = .ok (.invokestatic 60, 3) := by decide +kernel
theorem dL_acts_610 : decode cL_acts 610 = .ok (.iload 7, 2) := by decide +kernel
theorem dL_acts_612 : decode cL_acts 612 = .ok (.iconst 1, 1) := by decide +kernel
theorem dL_acts_613 : decode cL_acts 613 = .ok (.iload_n 2, 1) := by decide +kernel
theorem dL_acts_614 : decode cL_acts 614 = .ok (.iconst 5, 1) := by decide +kernel
theorem dL_acts_615 : decode cL_acts 615 = .ok (.ishr, 1) := by decide +kernel
theorem dL_acts_616 : decode cL_acts 616 = .ok (.bipush 60, 2) := by decide +kernel
theorem dL_acts_618 : decode cL_acts 618 = .ok (.invokestatic 60, 3) := by decide +kernel
theorem dL_acts_621 : decode cL_acts 621 = .ok (.iadd, 1) := by decide +kernel
theorem dL_acts_622 : decode cL_acts 622 = .ok (.iload_n 2, 1) := by decide +kernel
theorem dL_acts_623 : decode cL_acts 623 = .ok (.bipush 7, 2) := by decide +kernel
theorem dL_acts_625 : decode cL_acts 625 = .ok (.ishr, 1) := by decide +kernel
theorem dL_acts_626 : decode cL_acts 626 = .ok (.sipush 4000, 3) := by decide +kernel
theorem dL_acts_629 : decode cL_acts 629 = .ok (.invokestatic 60, 3) := by decide +kernel
theorem dL_acts_632 : decode cL_acts 632 = .ok (.invokevirtual 95, 3) := by decide +kernel
theorem dL_acts_635 : decode cL_acts 635 = .ok (.aload_n 0, 1) := by decide +kernel
theorem dL_acts_636 : decode cL_acts 636 = .ok (.iload 6, 2) := by decide +kernel
theorem dL_acts_638 : decode cL_acts 638 = .ok (.iload 7, 2) := by decide +kernel
theorem dL_acts_640 : decode cL_acts 640 = .ok (.invokevirtual 57, 3) := by decide +kernel
theorem dL_acts_643 : decode cL_acts 643 = .ok (.if_icmp .ne 7, 3) := by decide +kernel
theorem dL_acts_646 : decode cL_acts 646 = .ok (.iconst 1, 1) := by decide +kernel
theorem dL_acts_647 : decode cL_acts 647 = .ok (.goto 4, 3) := by decide +kernel
theorem dL_acts_650 : decode cL_acts 650 = .ok (.iconst 0, 1) := by decide +kernel
theorem dL_acts_651 : decode cL_acts 651 = .ok (.ireturn, 1) := by decide +kernel
theorem dL_acts_652 : decode cL_acts 652 = .ok (.iload_n 3, 1) := by decide +kernel
theorem dL_acts_653 : decode cL_acts 653 = .ok (.bipush 10, 2) := by decide +kernel
theorem dL_acts_655 : decode cL_acts 655 = .ok (.if_icmp .ne 89, 3) := by decide +kernel
theorem dL_acts_658 : decode cL_acts 658 = .ok (.iload_n 2, 1) := by decide +kernel
theorem dL_acts_659 : decode cL_acts 659 = .ok (.aload_n 0, 1) := by decide +kernel
theorem dL_acts_660 : decode cL_acts 660 = .ok (.iconst 5, 1) := by decide +kernel
theorem dL_acts_661 : decode cL_acts 661 = .ok (.invokevirtual 8, 3) := by decide +kernel
theorem dL_acts_664 : decode cL_acts 664 = .ok (.invokestatic 60, 3) := by decide +kernel
theorem dL_acts_667 : decode cL_acts 667 = .ok (.istore 6, 2) := by decide +kernel
theorem dL_acts_669 : decode cL_acts 669 = .ok (.aload_n 0, 1) := by decide +kernel
theorem dL_acts_670 : decode cL_acts 670 = .ok (.iload 6, 2) := by decide +kernel
theorem dL_acts_672 : decode cL_acts 672 = .ok (.iconst 3, 1) := by decide +kernel
theorem dL_acts_673 : decode cL_acts 673 = .ok (.invokevirtual 41, 3) := by decide +kernel
theorem dL_acts_676 : decode cL_acts 676 = .ok (.istore 7, 2) := by decide +kernel
theorem dL_acts_678 : decode cL_acts 678 = .ok (.iconst 1, 1) := by decide +kernel
theorem dL_acts_679 : decode cL_acts 679 = .ok (.iload_n 2, 1) := by decide +kernel
theorem dL_acts_680 : decode cL_acts 680 = .ok (.iconst 3, 1) := by decide +kernel
theorem dL_acts_681 : decode cL_acts 681 = .ok (.ishr, 1) := by decide +kernel
theorem dL_acts_682 : decode cL_acts 682 = .ok (.sipush 300, 3) := by decide +kernel
theorem dL_acts_685 : decode cL_acts 685 = .ok (.invokestatic 60, 3) := by decide +kernel
theorem dL_acts_688 : decode cL_acts 688 = .ok (.iadd, 1) := by decide +kernel
theorem dL_acts_689 : decode cL_acts 689 = .ok (.istore 8, 2) := by decide +kernel
theorem dL_acts_691 : decode cL_acts 691 = .ok (.aload_n 0, 1) := by decide +kernel
theorem dL_acts_692 : decode cL_acts 692 = .ok (.iload 6, 2) := by decide +kernel
theorem dL_acts_694 : decode cL_acts 694 = .ok (.iload 8, 2) := by decide +kernel
theorem dL_acts_696 : decode cL_acts 696 = .ok (.iload 8, 2) := by decide +kernel
theorem dL_acts_698 : decode cL_acts 698 = .ok (.iload_n 2, 1) := by decide +kernel
theorem dL_acts_699 : decode cL_acts 699 = .ok (.iconst 5, 1) := by decide +kernel
theorem dL_acts_700 : decode cL_acts 700 = .ok (.ishr, 1) := by decide +kernel
theorem dL_acts_701 : decode cL_acts 701 = .ok (.bipush 100, 2) := by decide +kernel
theorem dL_acts_703 : decode cL_acts 703 = .ok (.invokestatic 60, 3) := by decide +kernel
theorem dL_acts_706 : decode cL_acts 706 = .ok (.iadd, 1) := by decide +kernel
theorem dL_acts_707 : decode cL_acts 707 = .ok (.iconst 1, 1) := by decide +kernel
theorem dL_acts_708 : decode cL_acts 708 = .ok (.iload_n 2, 1) := by decide +kernel
theorem dL_acts_709 : decode cL_acts 709 = .ok (.bipush 7, 2) := by decide +kernel
theorem dL_acts_711 : decode cL_acts 711 = .ok (.ishr, 1) := by decide +kernel
theorem dL_acts_712 : decode cL_acts 712 = .ok (.sipush 3000, 3) := by decide +kernel
theorem dL_acts_715 : decode cL_acts 715 = .ok (.invokestatic 60, 3) := by decide +kernel
theorem dL_acts_718 : decode cL_acts 718 = .ok (.iadd, 1) := by decide +kernel
theorem dL_acts_719 : decode cL_acts 719 = .ok (.invokevirtual 99, 3) := by decide +kernel
theorem dL_acts_722 : decode cL_acts 722 = .ok (.iload 7, 2) := by decide +kernel
theorem dL_acts_724 : decode cL_acts 724 = .ok (.iconst 4, 1) := by decide +kernel
theorem dL_acts_725 : decode cL_acts 725 = .ok (.if_icmp .ne 8, 3) := by decide +kernel
theorem dL_acts_728 : decode cL_acts 728 = .ok (.bipush (-4), 2) := by decide +kernel
theorem dL_acts_730 : decode cL_acts 730 = .ok (.goto 5, 3) := by decide +kernel
theorem dL_acts_733 : decode cL_acts 733 = .ok (.iload 7, 2) := by decide +kernel
theorem dL_acts_735 : decode cL_acts 735 = .ok (.if_icmp .ne 7, 3) := by decide +kernel
theorem dL_acts_738 : decode cL_acts 738 = .ok (.iconst 1, 1) := by decide +kernel
theorem dL_acts_739 : decode cL_acts 739 = .ok (.goto 4, 3) := by decide +kernel
theorem dL_acts_742 : decode cL_acts 742 = .ok (.iconst 0, 1) := by decide +kernel
theorem dL_acts_743 : decode cL_acts 743 = .ok (.ireturn, 1) := by decide +kernel
theorem dL_acts_744 : decode cL_acts 744 = .ok (.iload_n 3, 1) := by decide +kernel
theorem dL_acts_745 : decode cL_acts 745 = .ok (.bipush 11, 2) := by decide +kernel
theorem dL_acts_747 : decode cL_acts 747 = .ok (.if_icmp .ne 16, 3) := by decide +kernel
theorem dL_acts_750 : decode cL_acts 750 = .ok (.aload_n 0, 1) := by decide +kernel
theorem dL_acts_751 : decode cL_acts 751 = .ok (.iconst 1, 1) := by decide +kernel
theorem dL_acts_752 : decode cL_acts 752 = .ok (.iload_n 2, 1) := by decide +kernel
theorem dL_acts_753 : decode cL_acts 753 = .ok (.bipush 60, 2) := by decide +kernel
theorem dL_acts_755 : decode cL_acts 755 = .ok (.invokestatic 60, 3) := by decide +kernel
theorem dL_acts_758 : decode cL_acts 758 = .ok (.iadd, 1) := by decide +kernel
theorem dL_acts_759 : decode cL_acts 759 = .ok (.invokestatic 103, 3) := by decide +kernel
theorem dL_acts_762 : decode cL_acts 762 = .ok (.ireturn, 1) := by decide +kernel
theorem dL_acts_763 : decode cL_acts 763 = .ok (.iload_n 3, 1) := by decide +kernel
theorem dL_acts_764 : decode cL_acts 764 = .ok (.bipush 12, 2) := by decide +kernel
theorem dL_acts_766 : decode cL_acts 766 = .ok (.if_icmp .ne 167, 3) := by decide +kernel
theorem dL_acts_769 : decode cL_acts 769 = .ok (.aload_n 0, 1) := by decide +kernel
theorem dL_acts_770 : decode cL_acts 770 = .ok (.invokevirtual 107, 3) := by decide +kernel
theorem dL_acts_773 : decode cL_acts 773 = .ok (.pop, 1) := by decide +kernel
theorem dL_acts_774 : decode cL_acts 774 = .ok (.iload 5, 2) := by decide +kernel
theorem dL_acts_776 : decode cL_acts 776 = .ok (.iconst 1, 1) := by decide +kernel
theorem dL_acts_777 : decode cL_acts 777 = .ok (.if_icmp .eq 9, 3) := by decide +kernel
theorem dL_acts_780 : decode cL_acts 780 = .ok (.iload 5, 2) := by decide +kernel
theorem dL_acts_782 : decode cL_acts 782 = .ok (.iconst 2, 1) := by decide +kernel
theorem dL_acts_783 : decode cL_acts 783 = .ok (.if_icmp .ne 7, 3) := by decide +kernel
theorem dL_acts_786 : decode cL_acts 786 = .ok (.iconst 1, 1) := by decide +kernel
theorem dL_acts_787 : decode cL_acts 787 = .ok (.goto 4, 3) := by decide +kernel
theorem dL_acts_790 : decode cL_acts 790 = .ok (.iconst 0, 1) := by decide +kernel
theorem dL_acts_791 : decode cL_acts 791 = .ok (.istore 6, 2) := by decide +kernel
theorem dL_acts_793 : decode cL_acts 793 = .ok (.aload_n 0, 1) := by decide +kernel
theorem dL_acts_794 : decode cL_acts 794 = .ok (.bipush 120, 2) := by decide +kernel
theorem dL_acts_796 : decode cL_acts 796 = .ok (.invokevirtual 110, 3) := by decide +kernel
theorem dL_acts_799 : decode cL_acts 799 = .ok (.pop, 1) := by decide +kernel
theorem dL_acts_800 : decode cL_acts 800 = .ok (.aload_n 0, 1) := by decide +kernel
theorem dL_acts_801 : decode cL_acts 801 = .ok (.invokevirtual 113, 3) := by decide +kernel
theorem dL_acts_804 : decode cL_acts 804 = .ok (.iconst 1, 1) := by decide +kernel
theorem dL_acts_805 : decode cL_acts 805 = .ok (.if_icmp .ne 16, 3) := by decide +kernel
theorem dL_acts_808 : decode cL_acts 808 = .ok (.aload_n 0, 1) := by decide +kernel
theorem dL_acts_809 : decode cL_acts 809 = .ok (.invokevirtual 116, 3) := by decide +kernel
theorem dL_acts_812 : decode cL_acts 812 = .ok (.bipush (-3), 2) := by decide +kernel
theorem dL_acts_814 : decode cL_acts 814 = .ok (.if_icmp .ne 7, 3) := by decide +kernel
theorem dL_acts_817 : decode cL_acts 817 = .ok (.iconst 1, 1) := by decide +kernel
theorem dL_acts_818 : decode cL_acts 818 = .ok (.goto 4, 3) := by decide +kernel
theorem dL_acts_821 : decode cL_acts 821 = .ok (.iconst 0, 1) := by decide +kernel
theorem dL_acts_822 : decode cL_acts 822 = .ok (.istore 7, 2) := by decide +kernel
theorem dL_acts_824 : decode cL_acts 824 = .ok (.aload_n 0, 1) := by decide +kernel
theorem dL_acts_825 : decode cL_acts 825 = .ok (.bipush 59, 2) := by decide +kernel
theorem dL_acts_827 : decode cL_acts 827 = .ok (.invokevirtual 110, 3) := by decide +kernel
theorem dL_acts_830 : decode cL_acts 830 = .ok (.pop, 1) := by decide +kernel
theorem dL_acts_831 : decode cL_acts 831 = .ok (.aload_n 0, 1) := by decide +kernel
theorem dL_acts_832 : decode cL_acts 832 = .ok (.bipush 8, 2) := by decide +kernel
theorem dL_acts_834 : decode cL_acts 834 = .ok (.invokevirtual 8, 3) := by decide +kernel
theorem dL_acts_837 : decode cL_acts 837 = .ok (.istore 8, 2) := by decide +kernel
theorem dL_acts_839 : decode cL_acts 839 = .ok (.aload_n 0, 1) := by decide +kernel
theorem dL_acts_840 : decode cL_acts 840 = .ok (.bipush 115, 2) := by decide +kernel
theorem dL_acts_842 : decode cL_acts 842 = .ok (.invokevirtual 110, 3) := by decide +kernel
theorem dL_acts_845 : decode cL_acts 845 = .ok (.pop, 1) := by decide +kernel
theorem dL_acts_846 : decode cL_acts 846 = .ok (.aload_n 0, 1) := by decide +kernel
theorem dL_acts_847 : decode cL_acts 847 = .ok (.bipush 49, 2) := by decide +kernel
theorem dL_acts_849 : decode cL_acts 849 = .ok (.invokevirtual 110, 3) := by decide +kernel
theorem dL_acts_852 : decode cL_acts 852 = .ok (.pop, 1) := by decide +kernel
theorem dL_acts_853 : decode cL_acts 853 = .ok (.aload_n 0, 1) := by decide +kernel
theorem dL_acts_854 : decode cL_acts 854 = .ok (.bipush 59, 2) := by decide +kernel
theorem dL_acts_856 : decode cL_acts 856 = .ok (.invokevirtual 110, 3) := by decide +kernel
theorem dL_acts_859 : decode cL_acts 859 = .ok (.pop, 1) := by decide +kernel
theorem dL_acts_860 : decode cL_acts 860 = .ok (.aload_n 0, 1) := by decide +kernel
theorem dL_acts_861 : decode cL_acts 861 = .ok (.invokevirtual 116, 3) := by decide +kernel
theorem dL_acts_864 : decode cL_acts 864 = .ok (.istore 9, 2) := by decide +kernel
theorem dL_acts_866 : decode cL_acts 866 = .ok (.iload 7, 2) := by decide +kernel
theorem dL_acts_868 : decode cL_acts 868 = .ok (.ifCond .eq 63, 3) := by decide +kernel
theorem dL_acts_871 : decode cL_acts 871 = .ok (.aload_n 0, 1) := by decide +kernel
theorem dL_acts_872 : decode cL_acts 872 = .ok (.invokevirtual 113, 3) := by decide +kernel
theorem dL_acts_875 : decode cL_acts 875 = .ok (.bipush (-6), 2) := by decide +kernel
theorem dL_acts_877 : decode cL_acts 877 = .ok (.if_icmp .ne 54, 3) := by decide +kernel
theorem dL_acts_880 : decode cL_acts 880 = .ok (.iload 9, 2) := by decide +kernel
theorem dL_acts_882 : decode cL_acts 882 = .ok (.iload 6, 2) := by decide +kernel
theorem dL_acts_884 : decode cL_acts 884 = .ok (.ifCond .eq 7, 3) := by decide +kernel
theorem dL_acts_887 : decode cL_acts 887 = .ok (.iconst 2, 1) := by decide +kernel
theorem dL_acts_888 : decode cL_acts 888 = .ok (.goto 4, 3) := by decide +kernel
theorem dL_acts_891 : decode cL_acts 891 = .ok (.iconst 0, 1) := by decide +kernel
theorem dL_acts_892 : decode cL_acts 892 = .ok (.if_icmp .ne 39, 3) := by decide +kernel
theorem dL_acts_895 : decode cL_acts 895 = .ok (.aload_n 0, 1) := by decide +kernel
theorem dL_acts_896 : decode cL_acts 896 = .ok (.bipush 8, 2) := by decide +kernel
theorem dL_acts_898 : decode cL_acts 898 = .ok (.invokevirtual 8, 3) := by decide +kernel
theorem dL_acts_901 : decode cL_acts 901 = .ok (.iload 8, 2) := by decide +kernel
theorem dL_acts_903 : decode cL_acts 903 = .ok (.iload 6, 2) := by decide +kernel
theorem dL_acts_905 : decode cL_acts 905 = .ok (.ifCond .eq 7, 3) := by decide +kernel
theorem dL_acts_908 : decode cL_acts 908 = .ok (.iconst 1, 1) := by decide +kernel
theorem dL_acts_909 : decode cL_acts 909 = .ok (.goto 4, 3) := by decide +kernel
theorem dL_acts_912 : decode cL_acts 912 = .ok (.iconst 0, 1) := by decide +kernel
theorem dL_acts_913 : decode cL_acts 913 = .ok (.iadd, 1) := by decide +kernel
theorem dL_acts_914 : decode cL_acts 914 = .ok (.if_icmp .ne 17, 3) := by decide +kernel
theorem dL_acts_917 : decode cL_acts 917 = .ok (.aload_n 0, 1) := by decide +kernel
theorem dL_acts_918 : decode cL_acts 918 = .ok (.bipush 13, 2) := by decide +kernel
theorem dL_acts_920 : decode cL_acts 920 = .ok (.invokevirtual 8, 3) := by decide +kernel
theorem dL_acts_923 : decode cL_acts 923 = .ok (.iconst 5, 1) := by decide +kernel
theorem dL_acts_924 : decode cL_acts 924 = .ok (.if_icmp .ne 7, 3) := by decide +kernel
theorem dL_acts_927 : decode cL_acts 927 = .ok (.iconst 1, 1) := by decide +kernel
theorem dL_acts_928 : decode cL_acts 928 = .ok (.goto 4, 3) := by decide +kernel
theorem dL_acts_931 : decode cL_acts 931 = .ok (.iconst 0, 1) := by decide +kernel
theorem dL_acts_932 : decode cL_acts 932 = .ok (.ireturn, 1) := by decide +kernel
theorem dL_acts_933 : decode cL_acts 933 = .ok (.aload_n 0, 1) := by decide +kernel
theorem dL_acts_934 : decode cL_acts 934 = .ok (.iconst 1, 1) := by decide +kernel
theorem dL_acts_935 : decode cL_acts 935 = .ok (.iload_n 2, 1) := by decide +kernel
theorem dL_acts_936 : decode cL_acts 936 = .ok (.sipush 300, 3) := by decide +kernel
theorem dL_acts_939 : decode cL_acts 939 = .ok (.invokestatic 60, 3) := by decide +kernel
theorem dL_acts_942 : decode cL_acts 942 = .ok (.iadd, 1) := by decide +kernel
theorem dL_acts_943 : decode cL_acts 943 = .ok (.iconst 1, 1) := by decide +kernel
theorem dL_acts_944 : decode cL_acts 944 = .ok (.iload_n 2, 1) := by decide +kernel
theorem dL_acts_945 : decode cL_acts 945 = .ok (.iconst 4, 1) := by decide +kernel
theorem dL_acts_946 : decode cL_acts 946 = .ok (.ishr, 1) := by decide +kernel
theorem dL_acts_947 : decode cL_acts 947 = .ok (.sipush 5000, 3) := by decide +kernel
theorem dL_acts_950 : decode cL_acts 950 = .ok (.invokestatic 60, 3) := by decide +kernel
theorem dL_acts_953 : decode cL_acts 953 = .ok (.iadd, 1) := by decide +kernel
theorem dL_acts_954 : decode cL_acts 954 = .ok (.invokevirtual 119, 3) := by decide +kernel
theorem dL_acts_957 : decode cL_acts 957 = .ok (.istore 6, 2) := by decide +kernel
theorem dL_acts_959 : decode cL_acts 959 = .ok (.iload 4, 2) := by decide +kernel
theorem dL_acts_961 : decode cL_acts 961 = .ok (.ifCond .eq 28, 3) := by decide +kernel
theorem dL_acts_964 : decode cL_acts 964 = .ok (.iload 6, 2) := by decide +kernel
theorem dL_acts_966 : decode cL_acts 966 = .ok (.bipush (-4), 2) := by decide +kernel
theorem dL_acts_968 : decode cL_acts 968 = .ok (.if_icmp .eq 13, 3) := by decide +kernel
theorem dL_acts_971 : decode cL_acts 971 = .ok (.iload 6, 2) := by decide +kernel
theorem dL_acts_973 : decode cL_acts 973 = .ok (.aload_n 0, 1) := by decide +kernel
theorem dL_acts_974 : decode cL_acts 974 = .ok (.iconst 4, 1) := by decide +kernel
theorem dL_acts_975 : decode cL_acts 975 = .ok (.invokevirtual 8, 3) := by decide +kernel
theorem dL_acts_978 : decode cL_acts 978 = .ok (.if_icmp .ne 7, 3) := by decide +kernel
theorem dL_acts_981 : decode cL_acts 981 = .ok (.iconst 1, 1) := by decide +kernel
theorem dL_acts_982 : decode cL_acts 982 = .ok (.goto 19, 3) := by decide +kernel
theorem dL_acts_985 : decode cL_acts 985 = .ok (.iconst 0, 1) := by decide +kernel
theorem dL_acts_986 : decode cL_acts 986 = .ok (.goto 15, 3) := by decide +kernel
theorem dL_acts_989 : decode cL_acts 989 = .ok (.iload 6, 2) := by decide +kernel
theorem dL_acts_991 : decode cL_acts 991 = .ok (.bipush (-3), 2) := by decide +kernel
theorem dL_acts_993 : decode cL_acts 993 = .ok (.if_icmp .ne 7, 3) := by decide +kernel
theorem dL_acts_996 : decode cL_acts 996 = .ok (.iconst 1, 1) := by decide +kernel
theorem dL_acts_997 : decode cL_acts 997 = .ok (.goto 4, 3) := by decide +kernel
theorem dL_acts_1000 : decode cL_acts 1000 = .ok (.iconst 0, 1) := by decide +kernel
theorem dL_acts_1001 : decode cL_acts 1001 = .ok (.ireturn, 1) := by decide +kernel
theorem dL_law_0 : decode cL_law 0 = .ok (.new 9, 3) := by decide +kernel
theorem dL_law_3 : decode cL_law 3 = .ok (.dup, 1) := by decide +kernel
theorem dL_law_4 : decode cL_law 4 = .ok (.invokespecial 122, 3) := by decide +kernel
theorem dL_law_7 : decode cL_law 7 = .ok (.astore_n 1, 1) := by decide +kernel
theorem dL_law_8 : decode cL_law 8 = .ok (.aload_n 1, 1) := by decide +kernel
theorem dL_law_9 : decode cL_law 9 = .ok (.iconst 1, 1) := by decide +kernel
theorem dL_law_10 : decode cL_law 10 = .ok (.invokevirtual 8, 3) := by decide +kernel
theorem dL_law_13 : decode cL_law 13 = .ok (.bipush (-6), 2) := by decide +kernel
theorem dL_law_15 : decode cL_law 15 = .ok (.if_icmp .ne 78, 3) := by decide +kernel
theorem dL_law_18 : decode cL_law 18 = .ok (.aload_n 1, 1) := by decide +kernel
theorem dL_law_19 : decode cL_law 19 = .ok (.iconst 5, 1) := by decide +kernel
theorem dL_law_20 : decode cL_law 20 = .ok (.invokevirtual 82, 3) := by decide +kernel
theorem dL_law_23 : decode cL_law 23 = .ok (.bipush (-5), 2) := by decide +kernel
theorem dL_law_25 : decode cL_law 25 = .ok (.if_icmp .ne 68, 3) := by decide +kernel
theorem dL_law_28 : decode cL_law 28 = .ok (.aload_n 1, 1) := by decide +kernel
theorem dL_law_29 : decode cL_law 29 = .ok (.bipush 11, 2) := by decide +kernel
theorem dL_law_31 : decode cL_law 31 = .ok (.invokevirtual 8, 3) := by decide +kernel
theorem dL_law_34 : decode cL_law 34 = .ok (.iconst 2, 1) := by decide +kernel
theorem dL_law_35 : decode cL_law 35 = .ok (.if_icmp .ne 58, 3) := by decide +kernel
theorem dL_law_38 : decode cL_law 38 = .ok (.aload_n 1, 1) := by decide +kernel
theorem dL_law_39 : decode cL_law 39 = .ok (.bipush 7, 2) := by decide +kernel
theorem dL_law_41 : decode cL_law 41 = .ok (.invokevirtual 123, 3) := by decide +kernel
theorem dL_law_44 : decode cL_law 44 = .ok (.bipush (-6), 2) := by decide +kernel
theorem dL_law_46 : decode cL_law 46 = .ok (.if_icmp .ne 47, 3) := by decide +kernel
theorem dL_law_49 : decode cL_law 49 = .ok (.aload_n 1, 1) := by decide +kernel
theorem dL_law_50 : decode cL_law 50 = .ok (.invokevirtual 126, 3) := by decide +kernel
theorem dL_law_53 : decode cL_law 53 = .ok (.bipush (-3), 2) := by decide +kernel
theorem dL_law_55 : decode cL_law 55 = .ok (.if_icmp .ne 38, 3) := by decide +kernel
theorem dL_law_58 : decode cL_law 58 = .ok (.aload_n 1, 1) := by decide +kernel
theorem dL_law_59 : decode cL_law 59 = .ok (.iconst 0, 1) := by decide +kernel
theorem dL_law_60 : decode cL_law 60 = .ok (.invokevirtual 79, 3) := by decide +kernel
theorem dL_law_63 : decode cL_law 63 = .ok (.bipush (-3), 2) := by decide +kernel
theorem dL_law_65 : decode cL_law 65 = .ok (.if_icmp .ne 28, 3) := by decide +kernel
theorem dL_law_68 : decode cL_law 68 = .ok (.aload_n 1, 1) := by decide +kernel
theorem dL_law_69 : decode cL_law 69 = .ok (.invokevirtual 21, 3) := by decide +kernel
theorem dL_law_72 : decode cL_law 72 = .ok (.ifCond .ne 21, 3) := by decide +kernel
theorem dL_law_75 : decode cL_law 75 = .ok (.aload_n 1, 1) := by decide +kernel
theorem dL_law_76 : decode cL_law 76 = .ok (.invokevirtual 116, 3) := by decide +kernel
theorem dL_law_79 : decode cL_law 79 = .ok (.ifCond .ne 14, 3) := by decide +kernel
theorem dL_law_82 : decode cL_law 82 = .ok (.aload_n 1, 1) := by decide +kernel
theorem dL_law_83 : decode cL_law 83 = .ok (.bipush 17, 2) := by decide +kernel
theorem dL_law_85 : decode cL_law 85 = .ok (.invokevirtual 8, 3) := by decide +kernel
theorem dL_law_88 : decode cL_law 88 = .ok (.bipush 25, 2) := by decide +kernel
theorem dL_law_90 : decode cL_law 90 = .ok (.if_icmp .eq 5, 3) := by decide +kernel
theorem dL_law_93 : decode cL_law 93 = .ok (.iconst 0, 1) := by decide +kernel
theorem dL_law_94 : decode cL_law 94 = .ok (.ireturn, 1) := by decide +kernel
theorem dL_law_95 : decode cL_law 95 = .ok (.aload_n 0, 1) := by decide +kernel
theorem dL_law_96 : decode cL_law 96 = .ok (.iconst 0, 1) := by decide +kernel
theorem dL_law_97 : decode cL_law 97 = .ok (.invokestatic 129, 3) := by decide +kernel
theorem dL_law_100 : decode cL_law 100 = .ok (.istore_n 2, 1) := by decide +kernel
theorem dL_law_101 : decode cL_law 101 = .ok (.iconst 5, 1) := by decide +kernel
theorem dL_law_102 : decode cL_law 102 = .ok (.iload_n 2, 1) := by decide +kernel
theorem dL_law_103 : decode cL_law 103 = .ok (.bipush 40, 2) := by decide +kernel
theorem dL_law_105 : decode cL_law 105 = .ok (.invokestatic 60, 3) := by decide +kernel
theorem dL_law_108 : decode cL_law 108 = .ok (.iadd, 1) := by decide +kernel
theorem dL_law_109 : decode cL_law 109 = .ok (.istore_n 3, 1) := by decide +kernel
theorem dL_law_110 : decode cL_law 110 = .ok (.aload_n 1, 1) := by decide +kernel
theorem dL_law_111 : decode cL_law 111 = .ok (.iload_n 3, 1) := by decide +kernel
theorem dL_law_112 : decode cL_law 112 = .ok (.iload_n 3, 1) := by decide +kernel
theorem dL_law_113 : decode cL_law 113 = .ok (.iload_n 2, 1) := by decide +kernel
theorem dL_law_114 : decode cL_law 114 = .ok (.iconst 4, 1) := by decide +kernel
theorem dL_law_115 : decode cL_law 115 = .ok (.ishr, 1) := by decide +kernel
theorem dL_law_116 : decode cL_law 116 = .ok (.sipush 200, 3) := by decide +kernel
theorem dL_law_119 : decode cL_law 119 = .ok (.invokestatic 60, 3) := by decide +kernel
theorem dL_law_122 : decode cL_law 122 = .ok (.iadd, 1) := by decide +kernel
theorem dL_law_123 : decode cL_law 123 = .ok (.bipush 100, 2) := by decide +kernel
theorem dL_law_125 : decode cL_law 125 = .ok (.iload_n 2, 1) := by decide +kernel
theorem dL_law_126 : decode cL_law 126 = .ok (.bipush 9, 2) := by decide +kernel
theorem dL_law_128 : decode cL_law 128 = .ok (.ishr, 1) := by decide +kernel
theorem dL_law_129 : decode cL_law 129 = .ok (.sipush 400, 3) := by decide +kernel
theorem dL_law_132 : decode cL_law 132 = .ok (.invokestatic 60, 3) := by decide +kernel
theorem dL_law_135 : decode cL_law 135 = .ok (.iadd, 1) := by decide +kernel
theorem dL_law_136 : decode cL_law 136 = .ok (.invokevirtual 133, 3) := by decide +kernel
theorem dL_law_139 : decode cL_law 139 = .ok (.aload_n 1, 1) := by decide +kernel
theorem dL_law_140 : decode cL_law 140 = .ok (.iconst 3, 1) := by decide +kernel
theorem dL_law_141 : decode cL_law 141 = .ok (.invokevirtual 8, 3) := by decide +kernel
theorem dL_law_144 : decode cL_law 144 = .ok (.if_icmp .ne 23, 3) := by decide +kernel
theorem dL_law_147 : decode cL_law 147 = .ok (.aload_n 1, 1) := by decide +kernel
theorem dL_law_148 : decode cL_law 148 = .ok (.iconst 5, 1) := by decide +kernel
theorem dL_law_149 : decode cL_law 149 = .ok (.invokevirtual 82, 3) := by decide +kernel
theorem dL_law_152 : decode cL_law 152 = .ok (.bipush (-5), 2) := by decide +kernel
theorem dL_law_154 : decode cL_law 154 = .ok (.if_icmp .ne 13, 3) := by decide +kernel
theorem dL_law_157 : decode cL_law 157 = .ok (.aload_n 1, 1) := by decide +kernel
theorem dL_law_158 : decode cL_law 158 = .ok (.bipush 11, 2) := by decide +kernel
theorem dL_law_160 : decode cL_law 160 = .ok (.invokevirtual 8, 3) := by decide +kernel
theorem dL_law_163 : decode cL_law 163 = .ok (.iconst 3, 1) := by decide +kernel
theorem dL_law_164 : decode cL_law 164 = .ok (.if_icmp .eq 5, 3) := by decide +kernel
theorem dL_law_167 : decode cL_law 167 = .ok (.iconst 0, 1) := by decide +kernel
theorem dL_law_168 : decode cL_law 168 = .ok (.ireturn, 1) := by decide +kernel
theorem dL_law_169 : decode cL_law 169 = .ok (.aload_n 1, 1) := by decide +kernel
theorem dL_law_170 : decode cL_law 170 = .ok (.iload_n 3, 1) := by decide +kernel
theorem dL_law_171 : decode cL_law 171 = .ok (.sipush 500, 3) := by decide +kernel
theorem dL_law_174 : decode cL_law 174 = .ok (.iload_n 2, 1) := by decide +kernel
theorem dL_law_175 : decode cL_law 175 = .ok (.iconst 3, 1) := by decide +kernel
theorem dL_law_176 : decode cL_law 176 = .ok (.ishr, 1) := by decide +kernel
theorem dL_law_177 : decode cL_law 177 = .ok (.sipush 500, 3) := by decide +kernel
theorem dL_law_180 : decode cL_law 180 = .ok (.invokestatic 60, 3) := by decide +kernel
theorem dL_law_183 : decode cL_law 183 = .ok (.iadd, 1) := by decide +kernel
theorem dL_law_184 : decode cL_law 184 = .ok (.invokevirtual 119, 3) := by decide +kernel
theorem dL_law_187 : decode cL_law 187 = .ok (.pop, 1) := by decide +kernel
theorem dL_law_188 : decode cL_law 188 = .ok (.aload_n 1, 1) := by decide +kernel
theorem dL_law_189 : decode cL_law 189 = .ok (.iload_n 3, 1) := by decide +kernel
theorem dL_law_190 : decode cL_law 190 = .ok (.bipush 50, 2) := by decide +kernel
theorem dL_law_192 : decode cL_law 192 = .ok (.iadd, 1) := by decide +kernel
theorem dL_law_193 : decode cL_law 193 = .ok (.bipush 100, 2) := by decide +kernel
theorem dL_law_195 : decode cL_law 195 = .ok (.iload_n 2, 1) := by decide +kernel
theorem dL_law_196 : decode cL_law 196 = .ok (.bipush 13, 2) := by decide +kernel
theorem dL_law_198 : decode cL_law 198 = .ok (.ishr, 1) := by decide +kernel
theorem dL_law_199 : decode cL_law 199 = .ok (.sipush 3000, 3) := by decide +kernel
theorem dL_law_202 : decode cL_law 202 = .ok (.invokestatic 60, 3) := by decide +kernel
theorem dL_law_205 : decode cL_law 205 = .ok (.iadd, 1) := by decide +kernel
theorem dL_law_206 : decode cL_law 206 = .ok (.invokevirtual 119, 3) := by decide +kernel
theorem dL_law_209 : decode cL_law 209 = .ok (.pop, 1) := by decide +kernel
theorem dL_law_210 : decode cL_law 210 = .ok (.aload_n 1, 1) := by decide +kernel
theorem dL_law_211 : decode cL_law 211 = .ok (.iconst 0, 1) := by decide +kernel
theorem dL_law_212 : decode cL_law 212 = .ok (.iload_n 2, 1) := by decide +kernel
theorem dL_law_213 : decode cL_law 213 = .ok (.iconst 2, 1) := by decide +kernel
theorem dL_law_214 : decode cL_law 214 = .ok (.ishr, 1) := by decide +kernel
theorem dL_law_215 : decode cL_law 215 = .ok (.sipush 2000, 3) := by decide +kernel
theorem dL_law_218 : decode cL_law 218 = .ok (.invokestatic 60, 3) := by decide +kernel
theorem dL_law_221 : decode cL_law 221 = .ok (.sipush 3000, 3) := by decide +kernel
theorem dL_law_224 : decode cL_law 224 = .ok (.invokevirtual 137, 3) := by decide +kernel
theorem dL_law_227 : decode cL_law 227 = .ok (.ifCond .ne 60, 3) := by decide +kernel
theorem dL_law_230 : decode cL_law 230 = .ok (.aload_n 1, 1) := by decide +kernel
theorem dL_law_231 : decode cL_law 231 = .ok (.iconst 5, 1) := by decide +kernel
theorem dL_law_232 : decode cL_law 232 = .ok (.invokevirtual 82, 3) := by decide +kernel
theorem dL_law_235 : decode cL_law 235 = .ok (.bipush (-5), 2) := by decide +kernel
theorem dL_law_237 : decode cL_law 237 = .ok (.if_icmp .ne 50, 3) := by decide +kernel
theorem dL_law_240 : decode cL_law 240 = .ok (.aload_n 1, 1) := by decide +kernel
theorem dL_law_241 : decode cL_law 241 = .ok (.bipush 11, 2) := by decide +kernel
theorem dL_law_243 : decode cL_law 243 = .ok (.invokevirtual 8, 3) := by decide +kernel
theorem dL_law_246 : decode cL_law 246 = .ok (.iconst 4, 1) := by decide +kernel
theorem dL_law_247 : decode cL_law 247 = .ok (.if_icmp .ne 40, 3) := by decide +kernel
theorem dL_law_250 : decode cL_law 250 = .ok (.aload_n 1, 1) := by decide +kernel
theorem dL_law_251 : decode cL_law 251 = .ok (.iconst 1, 1) := by decide +kernel
theorem dL_law_252 : decode cL_law 252 = .ok (.sipush 200, 3) := by decide +kernel
theorem dL_law_255 : decode cL_law 255 = .ok (.iload_n 2, 1) := by decide +kernel
theorem dL_law_256 : decode cL_law 256 = .ok (.bipush 6, 2) := by decide +kernel
theorem dL_law_258 : decode cL_law 258 = .ok (.ishr, 1) := by decide +kernel
theorem dL_law_259 : decode cL_law 259 = .ok (.sipush 2000, 3) := by decide +kernel
theorem dL_law_262 : decode cL_law 262 = .ok (.invokestatic 60, 3) := by decide +kernel
theorem dL_law_265 : decode cL_law 265 = .ok (.iadd, 1) := by decide +kernel
theorem dL_law_266 : decode cL_law 266 = .ok (.sipush 2000, 3) := by decide +kernel
theorem dL_law_269 : decode cL_law 269 = .ok (.iload_n 2, 1) := by decide +kernel
theorem dL_law_270 : decode cL_law 270 = .ok (.bipush 8, 2) := by decide +kernel
theorem dL_law_272 : decode cL_law 272 = .ok (.ishr, 1) := by decide +kernel
theorem dL_law_273 : decode cL_law 273 = .ok (.sipush 20000, 3) := by decide +kernel
theorem dL_law_276 : decode cL_law 276 = .ok (.invokestatic 60, 3) := by decide +kernel
theorem dL_law_279 : decode cL_law 279 = .ok (.iadd, 1) := by decide +kernel
theorem dL_law_280 : decode cL_law 280 = .ok (.invokevirtual 137, 3) := by decide +kernel
theorem dL_law_283 : decode cL_law 283 = .ok (.iconst 1, 1) := by decide +kernel
theorem dL_law_284 : decode cL_law 284 = .ok (.if_icmp .eq 5, 3) := by decide +kernel
theorem dL_law_287 : decode cL_law 287 = .ok (.iconst 0, 1) := by decide +kernel
theorem dL_law_288 : decode cL_law 288 = .ok (.ireturn, 1) := by decide +kernel
theorem dL_law_289 : decode cL_law 289 = .ok (.iconst 0, 1) := by decide +kernel
theorem dL_law_290 : decode cL_law 290 = .ok (.istore 4, 2) := by decide +kernel
theorem dL_law_292 : decode cL_law 292 = .ok (.iload 4, 2) := by decide +kernel
theorem dL_law_294 : decode cL_law 294 = .ok (.bipush 36, 2) := by decide +kernel
theorem dL_law_296 : decode cL_law 296 = .ok (.if_icmp .ge 185, 3) := by decide +kernel
theorem dL_law_299 : decode cL_law 299 = .ok (.aload_n 0, 1) := by decide +kernel
theorem dL_law_300 : decode cL_law 300 = .ok (.iconst 1, 1) := by decide +kernel
theorem dL_law_301 : decode cL_law 301 = .ok (.iconst 2, 1) := by decide +kernel
theorem dL_law_302 : decode cL_law 302 = .ok (.iload 4, 2) := by decide +kernel
theorem dL_law_304 : decode cL_law 304 = .ok (.imul, 1) := by decide +kernel
theorem dL_law_305 : decode cL_law 305 = .ok (.iadd, 1) := by decide +kernel
theorem dL_law_306 : decode cL_law 306 = .ok (.invokestatic 129, 3) := by decide +kernel
theorem dL_law_309 : decode cL_law 309 = .ok (.istore 5, 2) := by decide +kernel
theorem dL_law_311 : decode cL_law 311 = .ok (.aload_n 0, 1) := by decide +kernel
theorem dL_law_312 : decode cL_law 312 = .ok (.iconst 2, 1) := by decide +kernel
theorem dL_law_313 : decode cL_law 313 = .ok (.iconst 2, 1) := by decide +kernel
theorem dL_law_314 : decode cL_law 314 = .ok (.iload 4, 2) := by decide +kernel
theorem dL_law_316 : decode cL_law 316 = .ok (.imul, 1) := by decide +kernel
theorem dL_law_317 : decode cL_law 317 = .ok (.iadd, 1) := by decide +kernel
theorem dL_law_318 : decode cL_law 318 = .ok (.invokestatic 129, 3) := by decide +kernel
theorem dL_law_321 : decode cL_law 321 = .ok (.istore 6, 2) := by decide +kernel
theorem dL_law_323 : decode cL_law 323 = .ok (.aload_n 1, 1) := by decide +kernel
theorem dL_law_324 : decode cL_law 324 = .ok (.invokestatic 69, 3) := by decide +kernel
theorem dL_law_327 : decode cL_law 327 = .ok (.lstore 7, 2) := by decide +kernel
theorem dL_law_329 : decode cL_law 329 = .ok (.aload_n 1, 1) := by decide +kernel
theorem dL_law_330 : decode cL_law 330 = .ok (.bipush 12, 2) := by decide +kernel
theorem dL_law_332 : decode cL_law 332 = .ok (.invokevirtual 8, 3) := by decide +kernel
theorem dL_law_335 : decode cL_law 335 = .ok (.istore 9, 2) := by decide +kernel
theorem dL_law_337 : decode cL_law 337 = .ok (.iload 5, 2) := by decide +kernel
theorem dL_law_339 : decode cL_law 339 = .ok (.bipush 15, 2) := by decide +kernel
theorem dL_law_341 : decode cL_law 341 = .ok (.iand, 1) := by decide +kernel
theorem dL_law_342 : decode cL_law 342 = .ok (.iconst 3, 1) := by decide +kernel
theorem dL_law_343 : decode cL_law 343 = .ok (.if_icmp .le 24, 3) := by decide +kernel
theorem dL_law_346 : decode cL_law 346 = .ok (.iload 5, 2) := by decide +kernel
theorem dL_law_348 : decode cL_law 348 = .ok (.bipush 15, 2) := by decide +kernel
theorem dL_law_350 : decode cL_law 350 = .ok (.iand, 1) := by decide +kernel
theorem dL_law_351 : decode cL_law 351 = .ok (.bipush 6, 2) := by decide +kernel
theorem dL_law_353 : decode cL_law 353 = .ok (.if_icmp .ge 14, 3) := by decide +kernel
theorem dL_law_356 : decode cL_law 356 = .ok (.aload_n 1, 1) := by decide +kernel
theorem dL_law_357 : decode cL_law 357 = .ok (.invokestatic 15, 3) := by decide +kernel
theorem dL_law_360 : decode cL_law 360 = .ok (.ifCond .ne 7, 3) := by decide +kernel
theorem dL_law_363 : decode cL_law 363 = .ok (.iconst 1, 1) := by decide +kernel
theorem dL_law_364 : decode cL_law 364 = .ok (.goto 4, 3) := by decide +kernel
theorem dL_law_367 : decode cL_law 367 = .ok (.iconst 0, 1) := by decide +kernel
theorem dL_law_368 : decode cL_law 368 = .ok (.istore 10, 2) := by decide +kernel
theorem dL_law_370 : decode cL_law 370 = .ok (.aload_n 1, 1) := by decide +kernel
theorem dL_law_371 : decode cL_law 371 = .ok (.iload 5, 2) := by decide +kernel
theorem dL_law_373 : decode cL_law 373 = .ok (.iload 6, 2) := by decide +kernel
theorem dL_law_375 : decode cL_law 375 = .ok (.invokestatic 141, 3) := by decide +kernel
theorem dL_law_378 : decode cL_law 378 = .ok (.ifCond .eq 10, 3) := by decide +kernel
theorem dL_law_381 : decode cL_law 381 = .ok (.aload_n 1, 1) := by decide +kernel
theorem dL_law_382 : decode cL_law 382 = .ok (.invokestatic 145, 3) := by decide +kernel
theorem dL_law_385 : decode cL_law 385 = .ok (.ifCond .ne 5, 3) := by decide +kernel
theorem dL_law_388 : decode cL_law 388 = .ok (.iconst 0, 1) := by decide +kernel
theorem dL_law_389 : decode cL_law 389 = .ok (.ireturn, 1) := by decide +kernel
theorem dL_law_390 : decode cL_law 390 = .ok (.aload_n 1, 1) := by decide +kernel
theorem dL_law_391 : decode cL_law 391 = .ok (.bipush 12, 2) := by decide +kernel
theorem dL_law_393 : decode cL_law 393 = .ok (.invokevirtual 8, 3) := by decide +kernel
theorem dL_law_396 : decode cL_law 396 = .ok (.iload 9, 2) := by decide +kernel
theorem dL_law_398 : decode cL_law 398 = .ok (.if_icmp .ne 26, 3) := by decide +kernel
theorem dL_law_401 : decode cL_law 401 = .ok (.iload 9, 2) := by decide +kernel
theorem dL_law_403 : decode cL_law 403 = .ok (.iconst 5, 1) := by decide +kernel
theorem dL_law_404 : decode cL_law 404 = .ok (.if_icmp .ge 20, 3) := by decide +kernel
theorem dL_law_407 : decode cL_law 407 = .ok (.iload 10, 2) := by decide +kernel
theorem dL_law_409 : decode cL_law 409 = .ok (.ifCond .ne 15, 3) := by decide +kernel
theorem dL_law_412 : decode cL_law 412 = .ok (.aload_n 1, 1) := by decide +kernel
theorem dL_law_413 : decode cL_law 413 = .ok (.invokestatic 69, 3) := by decide +kernel
theorem dL_law_416 : decode cL_law 416 = .ok (.lload 7, 2) := by decide +kernel
theorem dL_law_418 : decode cL_law 418 = .ok (.lcmp, 1) := by decide +kernel
theorem dL_law_419 : decode cL_law 419 = .ok (.ifCond .eq 5, 3) := by decide +kernel
theorem dL_law_422 : decode cL_law 422 = .ok (.iconst 0, 1) := by decide +kernel
theorem dL_law_423 : decode cL_law 423 = .ok (.ireturn, 1) := by decide +kernel
theorem dL_law_424 : decode cL_law 424 = .ok (.iload 4, 2) := by decide +kernel
theorem dL_law_426 : decode cL_law 426 = .ok (.iconst 4, 1) := by decide +kernel
theorem dL_law_427 : decode cL_law 427 = .ok (.irem, 1) := by decide +kernel
theorem dL_law_428 : decode cL_law 428 = .ok (.ifCond .ne 47, 3) := by decide +kernel
theorem dL_law_431 : decode cL_law 431 = .ok (.iload 5, 2) := by decide +kernel
theorem dL_law_433 : decode cL_law 433 = .ok (.bipush 15, 2) := by decide +kernel
theorem dL_law_435 : decode cL_law 435 = .ok (.iand, 1) := by decide +kernel
theorem dL_law_436 : decode cL_law 436 = .ok (.bipush 11, 2) := by decide +kernel
theorem dL_law_438 : decode cL_law 438 = .ok (.if_icmp .eq 37, 3) := by decide +kernel
theorem dL_law_441 : decode cL_law 441 = .ok (.iload 10, 2) := by decide +kernel
theorem dL_law_443 : decode cL_law 443 = .ok (.ifCond .ne 32, 3) := by decide +kernel
theorem dL_law_446 : decode cL_law 446 = .ok (.aload_n 1, 1) := by decide +kernel
theorem dL_law_447 : decode cL_law 447 = .ok (.invokestatic 69, 3) := by decide +kernel
theorem dL_law_450 : decode cL_law 450 = .ok (.lload 7, 2) := by decide +kernel
theorem dL_law_452 : decode cL_law 452 = .ok (.lcmp, 1) := by decide +kernel
theorem dL_law_453 : decode cL_law 453 = .ok (.ifCond .eq 22, 3) := by decide +kernel
theorem dL_law_456 : decode cL_law 456 = .ok (.aload_n 1, 1) := by decide +kernel
theorem dL_law_457 : decode cL_law 457 = .ok (.invokevirtual 126, 3) := by decide +kernel
theorem dL_law_460 : decode cL_law 460 = .ok (.ifCond .lt 13, 3) := by decide +kernel
theorem dL_law_463 : decode cL_law 463 = .ok (.aload_n 1, 1) := by decide +kernel
theorem dL_law_464 : decode cL_law 464 = .ok (.invokestatic 69, 3) := by decide +kernel
theorem dL_law_467 : decode cL_law 467 = .ok (.lload 7, 2) := by decide +kernel
theorem dL_law_469 : decode cL_law 469 = .ok (.lcmp, 1) := by decide +kernel
theorem dL_law_470 : decode cL_law 470 = .ok (.ifCond .eq 5, 3) := by decide +kernel
theorem dL_law_473 : decode cL_law 473 = .ok (.iconst 0, 1) := by decide +kernel
theorem dL_law_474 : decode cL_law 474 = .ok (.ireturn, 1) := by decide +kernel
theorem dL_law_475 : decode cL_law 475 = .ok (.iinc 4 1, 3) := by decide +kernel
theorem dL_law_478 : decode cL_law 478 = .ok (.goto (-186), 3) := by decide +kernel
theorem dL_law_481 : decode cL_law 481 = .ok (.aload_n 1, 1) := by decide +kernel
theorem dL_law_482 : decode cL_law 482 = .ok (.invokestatic 69, 3) := by decide +kernel
theorem dL_law_485 : decode cL_law 485 = .ok (.lstore 4, 2) := by decide +kernel
theorem dL_law_487 : decode cL_law 487 = .ok (.aload_n 1, 1) := by decide +kernel
theorem dL_law_488 : decode cL_law 488 = .ok (.iconst 4, 1) := by decide +kernel
theorem dL_law_489 : decode cL_law 489 = .ok (.bipush 10, 2) := by decide +kernel
theorem dL_law_491 : decode cL_law 491 = .ok (.bipush 10, 2) := by decide +kernel
theorem dL_law_493 : decode cL_law 493 = .ok (.invokevirtual 133, 3) := by decide +kernel
theorem dL_law_496 : decode cL_law 496 = .ok (.bipush (-2), 2) := by decide +kernel
theorem dL_law_498 : decode cL_law 498 = .ok (.if_icmp .ne 86, 3) := by decide +kernel
theorem dL_law_501 : decode cL_law 501 = .ok (.aload_n 1, 1) := by decide +kernel
theorem dL_law_502 : decode cL_law 502 = .ok (.bipush 6, 2) := by decide +kernel
theorem dL_law_504 : decode cL_law 504 = .ok (.iconst 0, 1) := by decide +kernel
theorem dL_law_505 : decode cL_law 505 = .ok (.iconst 1, 1) := by decide +kernel
theorem dL_law_506 : decode cL_law 506 = .ok (.iconst 1, 1) := by decide +kernel
theorem dL_law_507 : decode cL_law 507 = .ok (.iconst 1, 1) := by decide +kernel
theorem dL_law_508 : decode cL_law 508 = .ok (.invokevirtual 95, 3) := by decide +kernel
theorem dL_law_511 : decode cL_law 511 = .ok (.iconst (-1), 1) := by decide +kernel
theorem dL_law_512 : decode cL_law 512 = .ok (.if_icmp .ne 72, 3) := by decide +kernel
theorem dL_law_515 : decode cL_law 515 = .ok (.aload_n 1, 1) := by decide +kernel
theorem dL_law_516 : decode cL_law 516 = .ok (.bipush 6, 2) := by decide +kernel
theorem dL_law_518 : decode cL_law 518 = .ok (.iconst 1, 1) := by decide +kernel
theorem dL_law_519 : decode cL_law 519 = .ok (.invokevirtual 92, 3) := by decide +kernel
theorem dL_law_522 : decode cL_law 522 = .ok (.iconst (-1), 1) := by decide +kernel
theorem dL_law_523 : decode cL_law 523 = .ok (.if_icmp .ne 61, 3) := by decide +kernel
theorem dL_law_526 : decode cL_law 526 = .ok (.aload_n 1, 1) := by decide +kernel
theorem dL_law_527 : decode cL_law 527 = .ok (.iconst 0, 1) := by decide +kernel
theorem dL_law_528 : decode cL_law 528 = .ok (.invokevirtual 76, 3) := by decide +kernel
theorem dL_law_531 : decode cL_law 531 = .ok (.bipush (-2), 2) := by decide +kernel
theorem dL_law_533 : decode cL_law 533 = .ok (.if_icmp .ne 51, 3) := by decide +kernel
theorem dL_law_536 : decode cL_law 536 = .ok (.aload_n 1, 1) := by decide +kernel
theorem dL_law_537 : decode cL_law 537 = .ok (.iconst 2, 1) := by decide +kernel
theorem dL_law_538 : decode cL_law 538 = .ok (.invokevirtual 73, 3) := by decide +kernel
theorem dL_law_541 : decode cL_law 541 = .ok (.iconst (-1), 1) := by decide +kernel
theorem dL_law_542 : decode cL_law 542 = .ok (.if_icmp .ne 42, 3) := by decide +kernel
theorem dL_law_545 : decode cL_law 545 = .ok (.aload_n 1, 1) := by decide +kernel
theorem dL_law_546 : decode cL_law 546 = .ok (.bipush 20, 2) := by decide +kernel
theorem dL_law_548 : decode cL_law 548 = .ok (.invokevirtual 8, 3) := by decide +kernel
theorem dL_law_551 : decode cL_law 551 = .ok (.bipush (-2), 2) := by decide +kernel
theorem dL_law_553 : decode cL_law 553 = .ok (.if_icmp .ne 31, 3) := by decide +kernel
theorem dL_law_556 : decode cL_law 556 = .ok (.aload_n 1, 1) := by decide +kernel
theorem dL_law_557 : decode cL_law 557 = .ok (.iconst 0, 1) := by decide +kernel
theorem dL_law_558 : decode cL_law 558 = .ok (.sipush 301, 3) := by decide +kernel
theorem dL_law_561 : decode cL_law 561 = .ok (.invokevirtual 66, 3) := by decide +kernel
theorem dL_law_564 : decode cL_law 564 = .ok (.bipush (-2), 2) := by decide +kernel
theorem dL_law_566 : decode cL_law 566 = .ok (.if_icmp .ne 18, 3) := by decide +kernel
theorem dL_law_569 : decode cL_law 569 = .ok (.aload_n 1, 1) := by decide +kernel
theorem dL_law_570 : decode cL_law 570 = .ok (.iconst 0, 1) := by decide +kernel
theorem dL_law_571 : decode cL_law 571 = .ok (.iconst (-1), 1) := by decide +kernel
theorem dL_law_572 : decode cL_law 572 = .ok (.invokevirtual 44, 3) := by decide +kernel
theorem dL_law_575 : decode cL_law 575 = .ok (.bipush (-2), 2) := by decide +kernel
theorem dL_law_577 : decode cL_law 577 = .ok (.if_icmp .ne 7, 3) := by decide +kernel
theorem dL_law_580 : decode cL_law 580 = .ok (.iconst 1, 1) := by decide +kernel
theorem dL_law_581 : decode cL_law 581 = .ok (.goto 4, 3) := by decide +kernel
theorem dL_law_584 : decode cL_law 584 = .ok (.iconst 0, 1) := by decide +kernel
theorem dL_law_585 : decode cL_law 585 = .ok (.istore 6, 2) := by decide +kernel
theorem dL_law_587 : decode cL_law 587 = .ok (.iload 6, 2) := by decide +kernel
theorem dL_law_589 : decode cL_law 589 = .ok (.ifCond .eq 17, 3) := by decide +kernel
theorem dL_law_592 : decode cL_law 592 = .ok (.aload_n 1, 1) := by decide +kernel
theorem dL_law_593 : decode cL_law 593 = .ok (.invokestatic 69, 3) := by decide +kernel
theorem dL_law_596 : decode cL_law 596 = .ok (.lload 4, 2) := by decide +kernel
theorem dL_law_598 : decode cL_law 598 = .ok (.lcmp, 1) := by decide +kernel
theorem dL_law_599 : decode cL_law 599 = .ok (.ifCond .ne 7, 3) := by decide +kernel
theorem dL_law_602 : decode cL_law 602 = .ok (.iconst 1, 1) := by decide +kernel
theorem dL_law_603 : decode cL_law 603 = .ok (.goto 4, 3) := by decide +kernel
theorem dL_law_606 : decode cL_law 606 = .ok (.iconst 0, 1) := by decide +kernel
theorem dL_law_607 : decode cL_law 607 = .ok (.ireturn, 1) := by decide +kernel
