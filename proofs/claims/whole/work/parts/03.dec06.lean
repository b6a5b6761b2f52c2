theorem dX12_takeChunk_267 : decode cX12_takeChunk 267 = .ok (.aload_n 0, 1) := by decide +kernel
theorem dX12_takeChunk_268 : decode cX12_takeChunk 268 = .ok (.iload_n 1, 1) := by decide +kernel
theorem dX12_takeChunk_269 : decode cX12_takeChunk 269 = .ok (.bipush 102, 2) := by decide +kernel
theorem dX12_takeChunk_271 : decode cX12_takeChunk 271 = .ok (.bipush 99, 2) := by decide +kernel
theorem dX12_takeChunk_273 : decode cX12_takeChunk 273 = .ok (.bipush 84, 2) := by decide +kernel
theorem dX12_takeChunk_275 : decode cX12_takeChunk 275 = .ok (.bipush 76, 2) := by decide +kernel
theorem dX12_takeChunk_277 : decode cX12_takeChunk 277 = .ok (.invokevirtual 180, 3) := by decide +kernel
theorem dX12_takeChunk_280 : decode cX12_takeChunk 280 = .ok (.ifCond .eq 10, 3) := by decide +kernel
theorem dX12_takeChunk_283 : decode cX12_takeChunk 283 = .ok (.aload_n 0, 1) := by decide +kernel
theorem dX12_takeChunk_284 : decode cX12_takeChunk 284 = .ok (.iload_n 3, 1) := by decide +kernel
theorem dX12_takeChunk_285 : decode cX12_takeChunk 285 = .ok (.iload_n 2, 1) := by decide +kernel
theorem dX12_takeChunk_286 : decode cX12_takeChunk 286 = .ok (.invokevirtual 193, 3) := by decide +kernel
theorem dX12_takeChunk_289 : decode cX12_takeChunk 289 = .ok (.ireturn, 1) := by decide +kernel
theorem dX12_takeChunk_290 : decode cX12_takeChunk 290 = .ok (.aload_n 0, 1) := by decide +kernel
theorem dX12_takeChunk_291 : decode cX12_takeChunk 291 = .ok (.iload_n 1, 1) := by decide +kernel
theorem dX12_takeChunk_292 : decode cX12_takeChunk 292 = .ok (.invokevirtual 58, 3) := by decide +kernel
theorem dX12_takeChunk_295 : decode cX12_takeChunk 295 = .ok (.invokestatic 196, 3) := by decide +kernel
theorem dX12_takeChunk_298 : decode cX12_takeChunk 298 = .ok (.ifCond .eq 46, 3) := by decide +kernel
theorem dX12_takeChunk_301 : decode cX12_takeChunk 301 = .ok (.aload_n 0, 1) := by decide +kernel
theorem dX12_takeChunk_302 : decode cX12_takeChunk 302 = .ok (.iload_n 1, 1) := by decide +kernel
theorem dX12_takeChunk_303 : decode cX12_takeChunk 303 = .ok (.iconst 1, 1) := by decide +kernel
theorem dX12_takeChunk_304 : decode cX12_takeChunk 304 = .ok (.iadd, 1) := by decide +kernel
theorem dX12_takeChunk_305 : decode cX12_takeChunk 305 = .ok (.invokevirtual 58, 3) := by decide +kernel
theorem dX12_takeChunk_308 : decode cX12_takeChunk 308 = .ok (.invokestatic 196, 3) := by decide +kernel
theorem dX12_takeChunk_311 : decode cX12_takeChunk 311 = .ok (.ifCond .eq 33, 3) := by decide +kernel
theorem dX12_takeChunk_314 : decode cX12_takeChunk 314 = .ok (.aload_n 0, 1) := by decide +kernel
theorem dX12_takeChunk_315 : decode cX12_takeChunk 315 = .ok (.iload_n 1, 1) := by decide +kernel
theorem dX12_takeChunk_316 : decode cX12_takeChunk 316 = .ok (.iconst 2, 1) := by decide +kernel
theorem dX12_takeChunk_317 : decode cX12_takeChunk 317 = .ok (.iadd, 1) := by decide +kernel
theorem dX12_takeChunk_318 : decode cX12_takeChunk 318 = .ok (.invokevirtual 58, 3) := by decide +kernel
theorem dX12_takeChunk_321 : decode cX12_takeChunk 321 = .ok (.invokestatic 196, 3) := by decide +kernel
theorem dX12_takeChunk_324 : decode cX12_takeChunk 324 = .ok (.ifCond .eq 20, 3) := by decide +kernel
theorem dX12_takeChunk_327 : decode cX12_takeChunk 327 = .ok (.aload_n 0, 1) := by decide +kernel
theorem dX12_takeChunk_328 : decode cX12_takeChunk 328 = .ok (.iload_n 1, 1) := by decide +kernel
theorem dX12_takeChunk_329 : decode cX12_takeChunk 329 = .ok (.iconst 3, 1) := by decide +kernel
theorem dX12_takeChunk_330 : decode cX12_takeChunk 330 = .ok (.iadd, 1) := by decide +kernel
theorem dX12_takeChunk_331 : decode cX12_takeChunk 331 = .ok (.invokevirtual 58, 3) := by decide +kernel
theorem dX12_takeChunk_334 : decode cX12_takeChunk 334 = .ok (.invokestatic 196, 3) := by decide +kernel
theorem dX12_takeChunk_337 : decode cX12_takeChunk 337 = .ok (.ifCond .eq 7, 3) := by decide +kernel
theorem dX12_takeChunk_340 : decode cX12_takeChunk 340 = .ok (.iconst 1, 1) := by decide +kernel
theorem dX12_takeChunk_341 : decode cX12_takeChunk 341 = .ok (.goto 4, 3) := by decide +kernel
theorem dX12_takeChunk_344 : decode cX12_takeChunk 344 = .ok (.iconst 0, 1) := by decide +kernel
theorem dX12_takeChunk_345 : decode cX12_takeChunk 345 = .ok (.istore 6, 2) := by decide +kernel
theorem dX12_takeChunk_347 : decode cX12_takeChunk 347 = .ok (.iload 6, 2) := by decide +kernel
theorem dX12_takeChunk_349 : decode cX12_takeChunk 349 = .ok (.ifCond .eq 17, 3) := by decide +kernel
theorem dX12_takeChunk_352 : decode cX12_takeChunk 352 = .ok (.aload_n 0, 1) := by decide +kernel
theorem dX12_takeChunk_353 : decode cX12_takeChunk 353 = .ok (.iload_n 1, 1) := by decide +kernel
theorem dX12_takeChunk_354 : decode cX12_takeChunk 354 = .ok (.invokevirtual 58, 3) := by decide +kernel
theorem dX12_takeChunk_357 : decode cX12_takeChunk 357 = .ok (.bipush 97, 2) := by decide +kernel
theorem dX12_takeChunk_359 : decode cX12_takeChunk 359 = .ok (.if_icmp .lt 7, 3) := by decide +kernel
theorem dX12_takeChunk_362 : decode cX12_takeChunk 362 = .ok (.iconst 1, 1) := by decide +kernel
theorem dX12_takeChunk_363 : decode cX12_takeChunk 363 = .ok (.goto 4, 3) := by decide +kernel
theorem dX12_takeChunk_366 : decode cX12_takeChunk 366 = .ok (.iconst 0, 1) := by decide +kernel
theorem dX12_takeChunk_367 : decode cX12_takeChunk 367 = .ok (.ireturn, 1) := by decide +kernel
theorem dX12_mark_0 : decode cX12_mark 0 = .ok (.iload_n 0, 1) := by decide +kernel
theorem dX12_mark_1 : decode cX12_mark 1 = .ok (.ifCond .ne 9, 3) := by decide +kernel
theorem dX12_mark_4 : decode cX12_mark 4 = .ok (.sipush 137, 3) := by decide +kernel
theorem dX12_mark_7 : decode cX12_mark 7 = .ok (.goto 66, 3) := by decide +kernel
theorem dX12_mark_10 : decode cX12_mark 10 = .ok (.iload_n 0, 1) := by decide +kernel
theorem dX12_mark_11 : decode cX12_mark 11 = .ok (.iconst 1, 1) := by decide +kernel
theorem dX12_mark_12 : decode cX12_mark 12 = .ok (.if_icmp .ne 8, 3) := by decide +kernel
theorem dX12_mark_15 : decode cX12_mark 15 = .ok (.bipush 80, 2) := by decide +kernel
theorem dX12_mark_17 : decode cX12_mark 17 = .ok (.goto 56, 3) := by decide +kernel
theorem dX12_mark_20 : decode cX12_mark 20 = .ok (.iload_n 0, 1) := by decide +kernel
theorem dX12_mark_21 : decode cX12_mark 21 = .ok (.iconst 2, 1) := by decide +kernel
theorem dX12_mark_22 : decode cX12_mark 22 = .ok (.if_icmp .ne 8, 3) := by decide +kernel
theorem dX12_mark_25 : decode cX12_mark 25 = .ok (.bipush 78, 2) := by decide +kernel
theorem dX12_mark_27 : decode cX12_mark 27 = .ok (.goto 46, 3) := by decide +kernel
theorem dX12_mark_30 : decode cX12_mark 30 = .ok (.iload_n 0, 1) := by decide +kernel
theorem dX12_mark_31 : decode cX12_mark 31 = .ok (.iconst 3, 1) := by decide +kernel
theorem dX12_mark_32 : decode cX12_mark 32 = .ok (.if_icmp .ne 8, 3) := by decide +kernel
theorem dX12_mark_35 : decode cX12_mark 35 = .ok (.bipush 71, 2) := by decide +kernel
theorem dX12_mark_37 : decode cX12_mark 37 = .ok (.goto 36, 3) := by decide +kernel
theorem dX12_mark_40 : decode cX12_mark 40 = .ok (.iload_n 0, 1) := by decide +kernel
theorem dX12_mark_41 : decode cX12_mark 41 = .ok (.iconst 4, 1) := by decide +kernel
theorem dX12_mark_42 : decode cX12_mark 42 = .ok (.if_icmp .ne 8, 3) := by decide +kernel
theorem dX12_mark_45 : decode cX12_mark 45 = .ok (.bipush 13, 2) := by decide +kernel
theorem dX12_mark_47 : decode cX12_mark 47 = .ok (.goto 26, 3) := by decide +kernel
theorem dX12_mark_50 : decode cX12_mark 50 = .ok (.iload_n 0, 1) := by decide +kernel
theorem dX12_mark_51 : decode cX12_mark 51 = .ok (.iconst 5, 1) := by decide +kernel
theorem dX12_mark_52 : decode cX12_mark 52 = .ok (.if_icmp .ne 8, 3) := by decide +kernel
theorem dX12_mark_55 : decode cX12_mark 55 = .ok (.bipush 10, 2) := by decide +kernel
theorem dX12_mark_57 : decode cX12_mark 57 = .ok (.goto 16, 3) := by decide +kernel
theorem dX12_mark_60 : decode cX12_mark 60 = .ok (.iload_n 0, 1) := by decide +kernel
theorem dX12_mark_61 : decode cX12_mark 61 = .ok (.bipush 6, 2) := by decide +kernel
theorem dX12_mark_63 : decode cX12_mark 63 = .ok (.if_icmp .ne 8, 3) := by decide +kernel
theorem dX12_mark_66 : decode cX12_mark 66 = .ok (.bipush 26, 2) := by decide +kernel
theorem dX12_mark_68 : decode cX12_mark 68 = .ok (.goto 5, 3) := by decide +kernel
theorem dX12_mark_71 : decode cX12_mark 71 = .ok (.bipush 10, 2) := by decide +kernel
theorem dX12_mark_73 : decode cX12_mark 73 = .ok (.ireturn, 1) := by decide +kernel
theorem dX12_readAll_0 : decode cX12_readAll 0 = .ok (.iconst 0, 1) := by decide +kernel
theorem dX12_readAll_1 : decode cX12_readAll 1 = .ok (.istore_n 1, 1) := by decide +kernel
theorem dX12_readAll_2 : decode cX12_readAll 2 = .ok (.iload_n 1, 1) := by decide +kernel
theorem dX12_readAll_3 : decode cX12_readAll 3 = .ok (.bipush 8, 2) := by decide +kernel
theorem dX12_readAll_5 : decode cX12_readAll 5 = .ok (.if_icmp .ge 36, 3) := by decide +kernel
theorem dX12_readAll_8 : decode cX12_readAll 8 = .ok (.iload_n 1, 1) := by decide +kernel
theorem dX12_readAll_9 : decode cX12_readAll 9 = .ok (.aload_n 0, 1) := by decide +kernel
theorem dX12_readAll_10 : decode cX12_readAll 10 = .ok (.getfield 48, 3) := by decide +kernel
theorem dX12_readAll_13 : decode cX12_readAll 13 = .ok (.if_icmp .ge 15, 3) := by decide +kernel
theorem dX12_readAll_16 : decode cX12_readAll 16 = .ok (.aload_n 0, 1) := by decide +kernel
theorem dX12_readAll_17 : decode cX12_readAll 17 = .ok (.iload_n 1, 1) := by decide +kernel
theorem dX12_readAll_18 : decode cX12_readAll 18 = .ok (.invokevirtual 58, 3) := by decide +kernel
theorem dX12_readAll_21 : decode cX12_readAll 21 = .ok (.iload_n 1, 1) := by decide +kernel
theorem dX12_readAll_22 : decode cX12_readAll 22 = .ok (.invokestatic 200, 3) := by decide +kernel
theorem dX12_readAll_25 : decode cX12_readAll 25 = .ok (.if_icmp .eq 10, 3) := by decide +kernel
theorem dX12_readAll_28 : decode cX12_readAll 28 = .ok (.aload_n 0, 1) := by decide +kernel
theorem dX12_readAll_29 : decode cX12_readAll 29 = .ok (.iload_n 1, 1) := by decide +kernel
theorem dX12_readAll_30 : decode cX12_readAll 30 = .ok (.putfield 13, 3) := by decide +kernel
theorem dX12_readAll_33 : decode cX12_readAll 33 = .ok (.iconst 1, 1) := by decide +kernel
theorem dX12_readAll_34 : decode cX12_readAll 34 = .ok (.ireturn, 1) := by decide +kernel
theorem dX12_readAll_35 : decode cX12_readAll 35 = .ok (.iinc 1 1, 3) := by decide +kernel
theorem dX12_readAll_38 : decode cX12_readAll 38 = .ok (.goto (-36), 3) := by decide +kernel
theorem dX12_readAll_41 : decode cX12_readAll 41 = .ok (.aload_n 0, 1) := by decide +kernel
theorem dX12_readAll_42 : decode cX12_readAll 42 = .ok (.iconst 0, 1) := by decide +kernel
theorem dX12_readAll_43 : decode cX12_readAll 43 = .ok (.putfield 137, 3) := by decide +kernel
theorem dX12_readAll_46 : decode cX12_readAll 46 = .ok (.aload_n 0, 1) := by decide +kernel
theorem dX12_readAll_47 : decode cX12_readAll 47 = .ok (.iconst 0, 1) := by decide +kernel
theorem dX12_readAll_48 : decode cX12_readAll 48 = .ok (.putfield 146, 3) := by decide +kernel
theorem dX12_readAll_51 : decode cX12_readAll 51 = .ok (.aload_n 0, 1) := by decide +kernel
theorem dX12_readAll_52 : decode cX12_readAll 52 = .ok (.iconst 0, 1) := by decide +kernel
theorem dX12_readAll_53 : decode cX12_readAll 53 = .ok (.putfield 143, 3) := by decide +kernel
theorem dX12_readAll_56 : decode cX12_readAll 56 = .ok (.aload_n 0, 1) := by decide +kernel
theorem dX12_readAll_57 : decode cX12_readAll 57 = .ok (.iconst 0, 1) := by decide +kernel
theorem dX12_readAll_58 : decode cX12_readAll 58 = .ok (.putfield 149, 3) := by decide +kernel
theorem dX12_readAll_61 : decode cX12_readAll 61 = .ok (.aload_n 0, 1) := by decide +kernel
theorem dX12_readAll_62 : decode cX12_readAll 62 = .ok (.iconst 0, 1) := by decide +kernel
theorem dX12_readAll_63 : decode cX12_readAll 63 = .ok (.putfield 140, 3) := by decide +kernel
theorem dX12_readAll_66 : decode cX12_readAll 66 = .ok (.aload_n 0, 1) := by decide +kernel
theorem dX12_readAll_67 : decode cX12_readAll 67 = .ok (.iconst 0, 1) := by decide +kernel
theorem dX12_readAll_68 : decode cX12_readAll 68 = .ok (.putfield 183, 3) := by decide +kernel
theorem dX12_readAll_71 : decode cX12_readAll 71 = .ok (.aload_n 0, 1) := by decide +kernel
theorem dX12_readAll_72 : decode cX12_readAll 72 = .ok (.iconst 0, 1) := by decide +kernel
theorem dX12_readAll_73 : decode cX12_readAll 73 = .ok (.putfield 160, 3) := by decide +kernel
theorem dX12_readAll_76 : decode cX12_readAll 76 = .ok (.aload_n 0, 1) := by decide +kernel
theorem dX12_readAll_77 : decode cX12_readAll 77 = .ok (.iconst (-1), 1) := by decide +kernel
theorem dX12_readAll_78 : decode cX12_readAll 78 = .ok (.putfield 166, 3) := by decide +kernel
theorem dX12_readAll_81 : decode cX12_readAll 81 = .ok (.aload_n 0, 1) := by decide +kernel
theorem dX12_readAll_82 : decode cX12_readAll 82 = .ok (.iconst 0, 1) := by decide +kernel
theorem dX12_readAll_83 : decode cX12_readAll 83 = .ok (.putfield 163, 3) := by decide +kernel
theorem dX12_readAll_86 : decode cX12_readAll 86 = .ok (.bipush 8, 2) := by decide +kernel
theorem dX12_readAll_88 : decode cX12_readAll 88 = .ok (.istore_n 1, 1) := by decide +kernel
theorem dX12_readAll_89 : decode cX12_readAll 89 = .ok (.iconst 1, 1) := by decide +kernel
theorem dX12_readAll_90 : decode cX12_readAll 90 = .ok (.istore_n 2, 1) := by decide +kernel
theorem dX12_readAll_91 : decode cX12_readAll 91 = .ok (.iload_n 2, 1) := by decide +kernel
theorem dX12_readAll_92 : decode cX12_readAll 92 = .ok (.ifCond .eq 339, 3) := by decide +kernel
theorem dX12_readAll_95 : decode cX12_readAll 95 = .ok (.iload_n 1, 1) := by decide +kernel
theorem dX12_readAll_96 : decode cX12_readAll 96 = .ok (.iconst 4, 1) := by decide +kernel
theorem dX12_readAll_97 : decode cX12_readAll 97 = .ok (.iadd, 1) := by decide +kernel
theorem dX12_readAll_98 : decode cX12_readAll 98 = .ok (.aload_n 0, 1) := by decide +kernel
theorem dX12_readAll_99 : decode cX12_readAll 99 = .ok (.getfield 48, 3) := by decide +kernel
theorem dX12_readAll_102 : decode cX12_readAll 102 = .ok (.if_icmp .gt 11, 3) := by decide +kernel
theorem dX12_readAll_105 : decode cX12_readAll 105 = .ok (.aload_n 0, 1) := by decide +kernel
theorem dX12_readAll_106 : decode cX12_readAll 106 = .ok (.iload_n 1, 1) := by decide +kernel
theorem dX12_readAll_107 : decode cX12_readAll 107 = .ok (.invokevirtual 134, 3) := by decide +kernel
theorem dX12_readAll_110 : decode cX12_readAll 110 = .ok (.goto 4, 3) := by decide +kernel
theorem dX12_readAll_113 : decode cX12_readAll 113 = .ok (.iconst (-1), 1) := by decide +kernel
theorem dX12_readAll_114 : decode cX12_readAll 114 = .ok (.istore_n 3, 1) := by decide +kernel
theorem dX12_readAll_115 : decode cX12_readAll 115 = .ok (.iload_n 3, 1) := by decide +kernel
theorem dX12_readAll_116 : decode cX12_readAll 116 = .ok (.ifCond .lt 16, 3) := by decide +kernel
theorem dX12_readAll_119 : decode cX12_readAll 119 = .ok (.iload_n 3, 1) := by decide +kernel
theorem dX12_readAll_120 : decode cX12_readAll 120 = .ok (.aload_n 0, 1) := by decide +kernel
theorem dX12_readAll_121 : decode cX12_readAll 121 = .ok (.getfield 48, 3) := by decide +kernel
theorem dX12_readAll_124 : decode cX12_readAll 124 = .ok (.iload_n 1, 1) := by decide +kernel
theorem dX12_readAll_125 : decode cX12_readAll 125 = .ok (.isub, 1) := by decide +kernel
theorem dX12_readAll_126 : decode cX12_readAll 126 = .ok (.bipush 12, 2) := by decide +kernel
theorem dX12_readAll_128 : decode cX12_readAll 128 = .ok (.isub, 1) := by decide +kernel
theorem dX12_readAll_129 : decode cX12_readAll 129 = .ok (.if_icmp .le 13, 3) := by decide +kernel
theorem dX12_readAll_132 : decode cX12_readAll 132 = .ok (.aload_n 0, 1) := by decide +kernel
theorem dX12_readAll_133 : decode cX12_readAll 133 = .ok (.aload_n 0, 1) := by decide +kernel
theorem dX12_readAll_134 : decode cX12_readAll 134 = .ok (.getfield 48, 3) := by decide +kernel
theorem dX12_readAll_137 : decode cX12_readAll 137 = .ok (.putfield 13, 3) := by decide +kernel
theorem dX12_readAll_140 : decode cX12_readAll 140 = .ok (.iconst 2, 1) := by decide +kernel
theorem dX12_readAll_141 : decode cX12_readAll 141 = .ok (.ireturn, 1) := by decide +kernel
theorem dX12_readAll_142 : decode cX12_readAll 142 = .ok (.iload_n 1, 1) := by decide +kernel
theorem dX12_readAll_143 : decode cX12_readAll 143 = .ok (.iconst 4, 1) := by decide +kernel
theorem dX12_readAll_144 : decode cX12_readAll 144 = .ok (.iadd, 1) := by decide +kernel
theorem dX12_readAll_145 : decode cX12_readAll 145 = .ok (.istore 4, 2) := by decide +kernel
theorem dX12_readAll_147 : decode cX12_readAll 147 = .ok (.aload_n 0, 1) := by decide +kernel
theorem dX12_readAll_148 : decode cX12_readAll 148 = .ok (.iload 4, 2) := by decide +kernel
theorem dX12_readAll_150 : decode cX12_readAll 150 = .ok (.putfield 13, 3) := by decide +kernel
theorem dX12_readAll_153 : decode cX12_readAll 153 = .ok (.iconst (-1), 1) := by decide +kernel
theorem dX12_readAll_154 : decode cX12_readAll 154 = .ok (.istore 5, 2) := by decide +kernel
theorem dX12_readAll_156 : decode cX12_readAll 156 = .ok (.iload 4, 2) := by decide +kernel
theorem dX12_readAll_158 : decode cX12_readAll 158 = .ok (.istore 6, 2) := by decide +kernel
theorem dX12_readAll_160 : decode cX12_readAll 160 = .ok (.iload 6, 2) := by decide +kernel
theorem dX12_readAll_162 : decode cX12_readAll 162 = .ok (.iload 4, 2) := by decide +kernel
theorem dX12_readAll_164 : decode cX12_readAll 164 = .ok (.iconst 4, 1) := by decide +kernel
theorem dX12_readAll_165 : decode cX12_readAll 165 = .ok (.iadd, 1) := by decide +kernel
theorem dX12_readAll_166 : decode cX12_readAll 166 = .ok (.iload_n 3, 1) := by decide +kernel
theorem dX12_readAll_167 : decode cX12_readAll 167 = .ok (.iadd, 1) := by decide +kernel
theorem dX12_readAll_168 : decode cX12_readAll 168 = .ok (.if_icmp .ge 22, 3) := by decide +kernel
theorem dX12_readAll_171 : decode cX12_readAll 171 = .ok (.iload 5, 2) := by decide +kernel
theorem dX12_readAll_173 : decode cX12_readAll 173 = .ok (.aload_n 0, 1) := by decide +kernel
theorem dX12_readAll_174 : decode cX12_readAll 174 = .ok (.iload 6, 2) := by decide +kernel
theorem dX12_readAll_176 : decode cX12_readAll 176 = .ok (.invokevirtual 58, 3) := by decide +kernel
theorem dX12_readAll_179 : decode cX12_readAll 179 = .ok (.invokestatic 203, 3) := by decide +kernel
theorem dX12_readAll_182 : decode cX12_readAll 182 = .ok (.istore 5, 2) := by decide +kernel
theorem dX12_readAll_184 : decode cX12_readAll 184 = .ok (.iinc 6 1, 3) := by decide +kernel
theorem dX12_readAll_187 : decode cX12_readAll 187 = .ok (.goto (-27), 3) := by decide +kernel
theorem dX12_readAll_190 : decode cX12_readAll 190 = .ok (.aload_n 0, 1) := by decide +kernel
theorem dX12_readAll_191 : decode cX12_readAll 191 = .ok (.iload 4, 2) := by decide +kernel
theorem dX12_readAll_193 : decode cX12_readAll 193 = .ok (.iconst 4, 1) := by decide +kernel
theorem dX12_readAll_194 : decode cX12_readAll 194 = .ok (.iadd, 1) := by decide +kernel
theorem dX12_readAll_195 : decode cX12_readAll 195 = .ok (.iload_n 3, 1) := by decide +kernel
theorem dX12_readAll_196 : decode cX12_readAll 196 = .ok (.iadd, 1) := by decide +kernel
theorem dX12_readAll_197 : decode cX12_readAll 197 = .ok (.invokevirtual 134, 3) := by decide +kernel
theorem dX12_readAll_200 : decode cX12_readAll 200 = .ok (.iload 5, 2) := by decide +kernel
theorem dX12_readAll_202 : decode cX12_readAll 202 = .ok (.iconst (-1), 1) := by decide +kernel
theorem dX12_readAll_203 : decode cX12_readAll 203 = .ok (.ixor, 1) := by decide +kernel
theorem dX12_readAll_204 : decode cX12_readAll 204 = .ok (.if_icmp .eq 5, 3) := by decide +kernel
theorem dX12_readAll_207 : decode cX12_readAll 207 = .ok (.iconst 3, 1) := by decide +kernel
theorem dX12_readAll_208 : decode cX12_readAll 208 = .ok (.ireturn, 1) := by decide +kernel
theorem dX12_readAll_209 : decode cX12_readAll 209 = .ok (.aload_n 0, 1) := by decide +kernel
theorem dX12_readAll_210 : decode cX12_readAll 210 = .ok (.getfield 166, 3) := by decide +kernel
theorem dX12_readAll_213 : decode cX12_readAll 213 = .ok (.bipush 8, 2) := by decide +kernel
theorem dX12_readAll_215 : decode cX12_readAll 215 = .ok (.if_icmp .ne 20, 3) := by decide +kernel
theorem dX12_readAll_218 : decode cX12_readAll 218 = .ok (.aload_n 0, 1) := by decide +kernel
theorem dX12_readAll_219 : decode cX12_readAll 219 = .ok (.iload 4, 2) := by decide +kernel
theorem dX12_readAll_221 : decode cX12_readAll 221 = .ok (.bipush 73, 2) := by decide +kernel
theorem dX12_readAll_223 : decode cX12_readAll 223 = .ok (.bipush 68, 2) := by decide +kernel
theorem dX12_readAll_225 : decode cX12_readAll 225 = .ok (.bipush 65, 2) := by decide +kernel
theorem dX12_readAll_227 : decode cX12_readAll 227 = .ok (.bipush 84, 2) := by decide +kernel
theorem dX12_readAll_229 : decode cX12_readAll 229 = .ok (.invokevirtual 180, 3) := by decide +kernel
theorem dX12_readAll_232 : decode cX12_readAll 232 = .ok (.ifCond .ne 36, 3) := by decide +kernel
theorem dX12_readAll_235 : decode cX12_readAll 235 = .ok (.aload_n 0, 1) := by decide +kernel
theorem dX12_readAll_236 : decode cX12_readAll 236 = .ok (.getfield 166, 3) := by decide +kernel
theorem dX12_readAll_239 : decode cX12_readAll 239 = .ok (.ifCond .lt 33, 3) := by decide +kernel
theorem dX12_readAll_242 : decode cX12_readAll 242 = .ok (.aload_n 0, 1) := by decide +kernel
theorem dX12_readAll_243 : decode cX12_readAll 243 = .ok (.getfield 166, 3) := by decide +kernel
theorem dX12_readAll_246 : decode cX12_readAll 246 = .ok (.bipush 8, 2) := by decide +kernel
theorem dX12_readAll_248 : decode cX12_readAll 248 = .ok (.if_icmp .ge 24, 3) := by decide +kernel
theorem dX12_readAll_251 : decode cX12_readAll 251 = .ok (.aload_n 0, 1) := by decide +kernel
theorem dX12_readAll_252 : decode cX12_readAll 252 = .ok (.iload 4, 2) := by decide +kernel
theorem dX12_readAll_254 : decode cX12_readAll 254 = .ok (.bipush 102, 2) := by decide +kernel
theorem dX12_readAll_256 : decode cX12_readAll 256 = .ok (.bipush 100, 2) := by decide +kernel
theorem dX12_readAll_258 : decode cX12_readAll 258 = .ok (.bipush 65, 2) := by decide +kernel
theorem dX12_readAll_260 : decode cX12_readAll 260 = .ok (.bipush 84, 2) := by decide +kernel
theorem dX12_readAll_262 : decode cX12_readAll 262 = .ok (.invokevirtual 180, 3) := by decide +kernel
theorem dX12_readAll_265 : decode cX12_readAll 265 = .ok (.ifCond .eq 7, 3) := by decide +kernel
theorem dX12_readAll_268 : decode cX12_readAll 268 = .ok (.iconst 1, 1) := by decide +kernel
theorem dX12_readAll_269 : decode cX12_readAll 269 = .ok (.goto 4, 3) := by decide +kernel
theorem dX12_readAll_272 : decode cX12_readAll 272 = .ok (.iconst 0, 1) := by decide +kernel
theorem dX12_readAll_273 : decode cX12_readAll 273 = .ok (.istore 6, 2) := by decide +kernel
theorem dX12_readAll_275 : decode cX12_readAll 275 = .ok (.aload_n 0, 1) := by decide +kernel
theorem dX12_readAll_276 : decode cX12_readAll 276 = .ok (.getfield 166, 3) := by decide +kernel
theorem dX12_readAll_279 : decode cX12_readAll 279 = .ok (.ifCond .lt 27, 3) := by decide +kernel
theorem dX12_readAll_282 : decode cX12_readAll 282 = .ok (.iload 6, 2) := by decide +kernel
theorem dX12_readAll_284 : decode cX12_readAll 284 = .ok (.ifCond .ne 22, 3) := by decide +kernel
theorem dX12_readAll_287 : decode cX12_readAll 287 = .ok (.aload_n 0, 1) := by decide +kernel
theorem dX12_readAll_288 : decode cX12_readAll 288 = .ok (.iconst 1, 1) := by decide +kernel
theorem dX12_readAll_289 : decode cX12_readAll 289 = .ok (.putfield 183, 3) := by decide +kernel
theorem dX12_readAll_292 : decode cX12_readAll 292 = .ok (.aload_n 0, 1) := by decide +kernel
theorem dX12_readAll_293 : decode cX12_readAll 293 = .ok (.invokevirtual 206, 3) := by decide +kernel
theorem dX12_readAll_296 : decode cX12_readAll 296 = .ok (.istore 7, 2) := by decide +kernel
theorem dX12_readAll_298 : decode cX12_readAll 298 = .ok (.iload 7, 2) := by decide +kernel
theorem dX12_readAll_300 : decode cX12_readAll 300 = .ok (.ifCond .le 6, 3) := by decide +kernel
theorem dX12_readAll_303 : decode cX12_readAll 303 = .ok (.iload 7, 2) := by decide +kernel
theorem dX12_readAll_305 : decode cX12_readAll 305 = .ok (.ireturn, 1) := by decide +kernel
theorem dX12_readAll_306 : decode cX12_readAll 306 = .ok (.aload_n 0, 1) := by decide +kernel
theorem dX12_readAll_307 : decode cX12_readAll 307 = .ok (.iload 4, 2) := by decide +kernel
theorem dX12_readAll_309 : decode cX12_readAll 309 = .ok (.bipush 73, 2) := by decide +kernel
theorem dX12_readAll_311 : decode cX12_readAll 311 = .ok (.bipush 72, 2) := by decide +kernel
theorem dX12_readAll_313 : decode cX12_readAll 313 = .ok (.bipush 68, 2) := by decide +kernel
theorem dX12_readAll_315 : decode cX12_readAll 315 = .ok (.bipush 82, 2) := by decide +kernel
theorem dX12_readAll_317 : decode cX12_readAll 317 = .ok (.invokevirtual 180, 3) := by decide +kernel
theorem dX12_readAll_320 : decode cX12_readAll 320 = .ok (.istore 7, 2) := by decide +kernel
theorem dX12_readAll_322 : decode cX12_readAll 322 = .ok (.aload_n 0, 1) := by decide +kernel
theorem dX12_readAll_323 : decode cX12_readAll 323 = .ok (.iload 4, 2) := by decide +kernel
theorem dX12_readAll_325 : decode cX12_readAll 325 = .ok (.bipush 73, 2) := by decide +kernel
theorem dX12_readAll_327 : decode cX12_readAll 327 = .ok (.bipush 69, 2) := by decide +kernel
theorem dX12_readAll_329 : decode cX12_readAll 329 = .ok (.bipush 78, 2) := by decide +kernel
theorem dX12_readAll_331 : decode cX12_readAll 331 = .ok (.bipush 68, 2) := by decide +kernel
theorem dX12_readAll_333 : decode cX12_readAll 333 = .ok (.invokevirtual 180, 3) := by decide +kernel
theorem dX12_readAll_336 : decode cX12_readAll 336 = .ok (.istore 8, 2) := by decide +kernel
theorem dX12_readAll_338 : decode cX12_readAll 338 = .ok (.iload_n 1, 1) := by decide +kernel
theorem dX12_readAll_339 : decode cX12_readAll 339 = .ok (.bipush 8, 2) := by decide +kernel
theorem dX12_readAll_341 : decode cX12_readAll 341 = .ok (.if_icmp .ne 22, 3) := by decide +kernel
theorem dX12_readAll_344 : decode cX12_readAll 344 = .ok (.iload 7, 2) := by decide +kernel
theorem dX12_readAll_346 : decode cX12_readAll 346 = .ok (.ifCond .eq 15, 3) := by decide +kernel
theorem dX12_readAll_349 : decode cX12_readAll 349 = .ok (.aload_n 0, 1) := by decide +kernel
theorem dX12_readAll_350 : decode cX12_readAll 350 = .ok (.iload 4, 2) := by decide +kernel
theorem dX12_readAll_352 : decode cX12_readAll 352 = .ok (.iconst 4, 1) := by decide +kernel
theorem dX12_readAll_353 : decode cX12_readAll 353 = .ok (.iadd, 1) := by decide +kernel
theorem dX12_readAll_354 : decode cX12_readAll 354 = .ok (.iload_n 3, 1) := by decide +kernel
theorem dX12_readAll_355 : decode cX12_readAll 355 = .ok (.invokevirtual 210, 3) := by decide +kernel
theorem dX12_readAll_358 : decode cX12_readAll 358 = .ok (.ifCond .ne 63, 3) := by decide +kernel
theorem dX12_readAll_361 : decode cX12_readAll 361 = .ok (.iconst 4, 1) := by decide +kernel
theorem dX12_readAll_362 : decode cX12_readAll 362 = .ok (.ireturn, 1) := by decide +kernel
theorem dX12_readAll_363 : decode cX12_readAll 363 = .ok (.iload 8, 2) := by decide +kernel
theorem dX12_readAll_365 : decode cX12_readAll 365 = .ok (.ifCond .eq 39, 3) := by decide +kernel
theorem dX12_readAll_368 : decode cX12_readAll 368 = .ok (.iload_n 3, 1) := by decide +kernel
theorem dX12_readAll_369 : decode cX12_readAll 369 = .ok (.ifCond .ne 28, 3) := by decide +kernel
theorem dX12_readAll_372 : decode cX12_readAll 372 = .ok (.aload_n 0, 1) := by decide +kernel
theorem dX12_readAll_373 : decode cX12_readAll 373 = .ok (.getfield 140, 3) := by decide +kernel
theorem dX12_readAll_376 : decode cX12_readAll 376 = .ok (.ifCond .eq 21, 3) := by decide +kernel
theorem dX12_readAll_379 : decode cX12_readAll 379 = .ok (.aload_n 0, 1) := by decide +kernel
theorem dX12_readAll_380 : decode cX12_readAll 380 = .ok (.getfield 163, 3) := by decide +kernel
theorem dX12_readAll_383 : decode cX12_readAll 383 = .ok (.ifCond .ne 14, 3) := by decide +kernel
theorem dX12_readAll_386 : decode cX12_readAll 386 = .ok (.aload_n 0, 1) := by decide +kernel
theorem dX12_readAll_387 : decode cX12_readAll 387 = .ok (.getfield 146, 3) := by decide +kernel
theorem dX12_readAll_390 : decode cX12_readAll 390 = .ok (.aload_n 0, 1) := by decide +kernel
theorem dX12_readAll_391 : decode cX12_readAll 391 = .ok (.getfield 143, 3) := by decide +kernel
theorem dX12_readAll_394 : decode cX12_readAll 394 = .ok (.if_icmp .eq 5, 3) := by decide +kernel
theorem dX12_readAll_397 : decode cX12_readAll 397 = .ok (.iconst 4, 1) := by decide +kernel
theorem dX12_readAll_398 : decode cX12_readAll 398 = .ok (.ireturn, 1) := by decide +kernel
theorem dX12_readAll_399 : decode cX12_readAll 399 = .ok (.iconst 0, 1) := by decide +kernel
theorem dX12_readAll_400 : decode cX12_readAll 400 = .ok (.istore_n 2, 1) := by decide +kernel
theorem dX12_readAll_401 : decode cX12_readAll 401 = .ok (.goto 20, 3) := by decide +kernel
theorem dX12_readAll_404 : decode cX12_readAll 404 = .ok (.iload 7, 2) := by decide +kernel
theorem dX12_readAll_406 : decode cX12_readAll 406 = .ok (.ifCond .ne 13, 3) := by decide +kernel
theorem dX12_readAll_409 : decode cX12_readAll 409 = .ok (.aload_n 0, 1) := by decide +kernel
theorem dX12_readAll_410 : decode cX12_readAll 410 = .ok (.iload 4, 2) := by decide +kernel
theorem dX12_readAll_412 : decode cX12_readAll 412 = .ok (.iload_n 3, 1) := by decide +kernel
theorem dX12_readAll_413 : decode cX12_readAll 413 = .ok (.invokevirtual 213, 3) := by decide +kernel
theorem dX12_readAll_416 : decode cX12_readAll 416 = .ok (.ifCond .ne 5, 3) := by decide +kernel
theorem dX12_readAll_419 : decode cX12_readAll 419 = .ok (.iconst 4, 1) := by decide +kernel
theorem dX12_readAll_420 : decode cX12_readAll 420 = .ok (.ireturn, 1) := by decide +kernel
theorem dX12_readAll_421 : decode cX12_readAll 421 = .ok (.iload_n 1, 1) := by decide +kernel
theorem dX12_readAll_422 : decode cX12_readAll 422 = .ok (.bipush 12, 2) := by decide +kernel
theorem dX12_readAll_424 : decode cX12_readAll 424 = .ok (.iadd, 1) := by decide +kernel
theorem dX12_readAll_425 : decode cX12_readAll 425 = .ok (.iload_n 3, 1) := by decide +kernel
theorem dX12_readAll_426 : decode cX12_readAll 426 = .ok (.iadd, 1) := by decide +kernel
theorem dX12_readAll_427 : decode cX12_readAll 427 = .ok (.istore_n 1, 1) := by decide +kernel
theorem dX12_readAll_428 : decode cX12_readAll 428 = .ok (.goto (-337), 3) := by decide +kernel
theorem dX12_readAll_431 : decode cX12_readAll 431 = .ok (.iload_n 1, 1) := by decide +kernel
theorem dX12_readAll_432 : decode cX12_readAll 432 = .ok (.aload_n 0, 1) := by decide +kernel
theorem dX12_readAll_433 : decode cX12_readAll 433 = .ok (.getfield 48, 3) := by decide +kernel
theorem dX12_readAll_436 : decode cX12_readAll 436 = .ok (.if_icmp .ge 10, 3) := by decide +kernel
theorem dX12_readAll_439 : decode cX12_readAll 439 = .ok (.aload_n 0, 1) := by decide +kernel
theorem dX12_readAll_440 : decode cX12_readAll 440 = .ok (.iload_n 1, 1) := by decide +kernel
theorem dX12_readAll_441 : decode cX12_readAll 441 = .ok (.putfield 13, 3) := by decide +kernel
theorem dX12_readAll_444 : decode cX12_readAll 444 = .ok (.iconst 4, 1) := by decide +kernel
theorem dX12_readAll_445 : decode cX12_readAll 445 = .ok (.ireturn, 1) := by decide +kernel
theorem dX12_readAll_446 : decode cX12_readAll 446 = .ok (.aload_n 0, 1) := by decide +kernel
theorem dX12_readAll_447 : decode cX12_readAll 447 = .ok (.iconst (-1), 1) := by decide +kernel
theorem dX12_readAll_448 : decode cX12_readAll 448 = .ok (.putfield 13, 3) := by decide +kernel
theorem dX12_readAll_451 : decode cX12_readAll 451 = .ok (.iconst 0, 1) := by decide +kernel
theorem dX12_readAll_452 : decode cX12_readAll 452 = .ok (.ireturn, 1) := by decide +kernel
theorem dX12_read_0 : decode cX12_read 0 = .ok (.aload_n 0, 1) := by decide +kernel
theorem dX12_read_1 : decode cX12_read 1 = .ok (.iconst 0, 1) := by decide +kernel
theorem dX12_read_2 : decode cX12_read 2 = .ok (.putfield 51, 3) := by decide +kernel
theorem dX12_read_5 : decode cX12_read 5 = .ok (.aload_n 0, 1) := by decide +kernel
theorem dX12_read_6 : decode cX12_read 6 = .ok (.invokevirtual 216, 3) := by decide +kernel
theorem dX12_read_9 : decode cX12_read 9 = .ok (.istore_n 1, 1) := by decide +kernel
theorem dX12_read_10 : decode cX12_read 10 = .ok (.aload_n 0, 1) := by decide +kernel
theorem dX12_read_11 : decode cX12_read 11 = .ok (.iconst 0, 1) := by decide +kernel
theorem dX12_read_12 : decode cX12_read 12 = .ok (.putfield 48, 3) := by decide +kernel
theorem dX12_read_15 : decode cX12_read 15 = .ok (.iload_n 1, 1) := by decide +kernel
theorem dX12_read_16 : decode cX12_read 16 = .ok (.ifCond .le 6, 3) := by decide +kernel
theorem dX12_read_19 : decode cX12_read 19 = .ok (.iload_n 1, 1) := by decide +kernel
theorem dX12_read_20 : decode cX12_read 20 = .ok (.ineg, 1) := by decide +kernel
theorem dX12_read_21 : decode cX12_read 21 = .ok (.ireturn, 1) := by decide +kernel
theorem dX12_read_22 : decode cX12_read 22 = .ok (.aload_n 0, 1) := by decide +kernel
theorem dX12_read_23 : decode cX12_read 23 = .ok (.getfield 17, 3) := by decide +kernel
theorem dX12_read_26 : decode cX12_read 26 = .ok (.bipush 11, 2) := by decide +kernel
theorem dX12_read_28 : decode cX12_read 28 = .ok (.aload_n 0, 1) := by decide +kernel
theorem dX12_read_29 : decode cX12_read 29 = .ok (.getfield 160, 3) := by decide +kernel
theorem dX12_read_32 : decode cX12_read 32 = .ok (.ifCond .eq 7, 3) := by decide +kernel
theorem dX12_read_35 : decode cX12_read 35 = .ok (.iconst 1, 1) := by decide +kernel
theorem dX12_read_36 : decode cX12_read 36 = .ok (.goto 4, 3) := by decide +kernel
theorem dX12_read_39 : decode cX12_read 39 = .ok (.iconst 0, 1) := by decide +kernel
theorem dX12_read_40 : decode cX12_read 40 = .ok (.iastore, 1) := by decide +kernel
theorem dX12_read_41 : decode cX12_read 41 = .ok (.iconst 0, 1) := by decide +kernel
theorem dX12_read_42 : decode cX12_read 42 = .ok (.istore_n 2, 1) := by decide +kernel
theorem dX12_read_43 : decode cX12_read 43 = .ok (.iload_n 2, 1) := by decide +kernel
theorem dX12_read_44 : decode cX12_read 44 = .ok (.bipush 6, 2) := by decide +kernel
theorem dX12_read_46 : decode cX12_read 46 = .ok (.if_icmp .ge 24, 3) := by decide +kernel
theorem dX12_read_49 : decode cX12_read 49 = .ok (.aload_n 0, 1) := by decide +kernel
theorem dX12_read_50 : decode cX12_read 50 = .ok (.getfield 17, 3) := by decide +kernel
theorem dX12_read_53 : decode cX12_read 53 = .ok (.iload_n 2, 1) := by decide +kernel
theorem dX12_read_54 : decode cX12_read 54 = .ok (.aload_n 0, 1) := by decide +kernel
theorem dX12_read_55 : decode cX12_read 55 = .ok (.getfield 17, 3) := by decide +kernel
theorem dX12_read_58 : decode cX12_read 58 = .ok (.bipush 6, 2) := by decide +kernel
theorem dX12_read_60 : decode cX12_read 60 = .ok (.iload_n 2, 1) := by decide +kernel
theorem dX12_read_61 : decode cX12_read 61 = .ok (.iadd, 1) := by decide +kernel
theorem dX12_read_62 : decode cX12_read 62 = .ok (.iaload, 1) := by decide +kernel
theorem dX12_read_63 : decode cX12_read 63 = .ok (.iastore, 1) := by decide +kernel
theorem dX12_read_64 : decode cX12_read 64 = .ok (.iinc 2 1, 3) := by decide +kernel
theorem dX12_read_67 : decode cX12_read 67 = .ok (.goto (-24), 3) := by decide +kernel
theorem dX12_read_70 : decode cX12_read 70 = .ok (.iconst 0, 1) := by decide +kernel
theorem dX12_read_71 : decode cX12_read 71 = .ok (.istore_n 2, 1) := by decide +kernel
theorem dX12_read_72 : decode cX12_read 72 = .ok (.iload_n 2, 1) := by decide +kernel
theorem dX12_read_73 : decode cX12_read 73 = .ok (.bipush 48, 2) := by decide +kernel
theorem dX12_read_75 : decode cX12_read 75 = .ok (.if_icmp .ge 24, 3) := by decide +kernel
theorem dX12_read_78 : decode cX12_read 78 = .ok (.aload_n 0, 1) := by decide +kernel
theorem dX12_read_79 : decode cX12_read 79 = .ok (.getfield 21, 3) := by decide +kernel
theorem dX12_read_82 : decode cX12_read 82 = .ok (.iload_n 2, 1) := by decide +kernel
theorem dX12_read_83 : decode cX12_read 83 = .ok (.aload_n 0, 1) := by decide +kernel
theorem dX12_read_84 : decode cX12_read 84 = .ok (.getfield 21, 3) := by decide +kernel
theorem dX12_read_87 : decode cX12_read 87 = .ok (.bipush 48, 2) := by decide +kernel
theorem dX12_read_89 : decode cX12_read 89 = .ok (.iload_n 2, 1) := by decide +kernel
theorem dX12_read_90 : decode cX12_read 90 = .ok (.iadd, 1) := by decide +kernel
theorem dX12_read_91 : decode cX12_read 91 = .ok (.iaload, 1) := by decide +kernel
theorem dX12_read_92 : decode cX12_read 92 = .ok (.iastore, 1) := by decide +kernel
theorem dX12_read_93 : decode cX12_read 93 = .ok (.iinc 2 1, 3) := by decide +kernel
theorem dX12_read_96 : decode cX12_read 96 = .ok (.goto (-24), 3) := by decide +kernel
theorem dX12_read_99 : decode cX12_read 99 = .ok (.iconst 0, 1) := by decide +kernel
theorem dX12_read_100 : decode cX12_read 100 = .ok (.istore_n 2, 1) := by decide +kernel
theorem dX12_read_101 : decode cX12_read 101 = .ok (.iload_n 2, 1) := by decide +kernel
theorem dX12_read_102 : decode cX12_read 102 = .ok (.sipush 2304, 3) := by decide +kernel
theorem dX12_read_105 : decode cX12_read 105 = .ok (.if_icmp .ge 25, 3) := by decide +kernel
theorem dX12_read_108 : decode cX12_read 108 = .ok (.aload_n 0, 1) := by decide +kernel
theorem dX12_read_109 : decode cX12_read 109 = .ok (.getfield 24, 3) := by decide +kernel
theorem dX12_read_112 : decode cX12_read 112 = .ok (.iload_n 2, 1) := by decide +kernel
theorem dX12_read_113 : decode cX12_read 113 = .ok (.aload_n 0, 1) := by decide +kernel
theorem dX12_read_114 : decode cX12_read 114 = .ok (.getfield 24, 3) := by decide +kernel
theorem dX12_read_117 : decode cX12_read 117 = .ok (.sipush 2304, 3) := by decide +kernel
theorem dX12_read_120 : decode cX12_read 120 = .ok (.iload_n 2, 1) := by decide +kernel
theorem dX12_read_121 : decode cX12_read 121 = .ok (.iadd, 1) := by decide +kernel
theorem dX12_read_122 : decode cX12_read 122 = .ok (.iaload, 1) := by decide +kernel
theorem dX12_read_123 : decode cX12_read 123 = .ok (.iastore, 1) := by decide +kernel
theorem dX12_read_124 : decode cX12_read 124 = .ok (.iinc 2 1, 3) := by decide +kernel
theorem dX12_read_127 : decode cX12_read 127 = .ok (.goto (-26), 3) := by decide +kernel
theorem dX12_read_130 : decode cX12_read 130 = .ok (.iconst 0, 1) := by decide +kernel
theorem dX12_read_131 : decode cX12_read 131 = .ok (.istore_n 2, 1) := by decide +kernel
theorem dX12_read_132 : decode cX12_read 132 = .ok (.iload_n 2, 1) := by decide +kernel
theorem dX12_read_133 : decode cX12_read 133 = .ok (.sipush 256, 3) := by decide +kernel
theorem dX12_read_136 : decode cX12_read 136 = .ok (.if_icmp .ge 32, 3) := by decide +kernel
theorem dX12_read_139 : decode cX12_read 139 = .ok (.aload_n 0, 1) := by decide +kernel
theorem dX12_read_140 : decode cX12_read 140 = .ok (.getfield 160, 3) := by decide +kernel
theorem dX12_read_143 : decode cX12_read 143 = .ok (.ifCond .eq 25, 3) := by decide +kernel
theorem dX12_read_146 : decode cX12_read 146 = .ok (.aload_n 0, 1) := by decide +kernel
theorem dX12_read_147 : decode cX12_read 147 = .ok (.getfield 24, 3) := by decide +kernel
theorem dX12_read_150 : decode cX12_read 150 = .ok (.iload_n 2, 1) := by decide +kernel
theorem dX12_read_151 : decode cX12_read 151 = .ok (.aload_n 0, 1) := by decide +kernel
theorem dX12_read_152 : decode cX12_read 152 = .ok (.getfield 24, 3) := by decide +kernel
theorem dX12_read_155 : decode cX12_read 155 = .ok (.sipush 4352, 3) := by decide +kernel
theorem dX12_read_158 : decode cX12_read 158 = .ok (.iload_n 2, 1) := by decide +kernel
theorem dX12_read_159 : decode cX12_read 159 = .ok (.iadd, 1) := by decide +kernel
theorem dX12_read_160 : decode cX12_read 160 = .ok (.iaload, 1) := by decide +kernel
theorem dX12_read_161 : decode cX12_read 161 = .ok (.iastore, 1) := by decide +kernel
theorem dX12_read_162 : decode cX12_read 162 = .ok (.iinc 2 1, 3) := by decide +kernel
theorem dX12_read_165 : decode cX12_read 165 = .ok (.goto (-33), 3) := by decide +kernel
theorem dX12_read_168 : decode cX12_read 168 = .ok (.aload_n 0, 1) := by decide +kernel
theorem dX12_read_169 : decode cX12_read 169 = .ok (.iconst 0, 1) := by decide +kernel
theorem dX12_read_170 : decode cX12_read 170 = .ok (.putfield 219, 3) := by decide +kernel
theorem dX12_read_173 : decode cX12_read 173 = .ok (.aload_n 0, 1) := by decide +kernel
theorem dX12_read_174 : decode cX12_read 174 = .ok (.getfield 17, 3) := by decide +kernel
theorem dX12_read_177 : decode cX12_read 177 = .ok (.iconst 4, 1) := by decide +kernel
theorem dX12_read_178 : decode cX12_read 178 = .ok (.iaload, 1) := by decide +kernel
theorem dX12_read_179 : decode cX12_read 179 = .ok (.ireturn, 1) := by decide +kernel
theorem dX12_place_0 : decode cX12_place 0 = .ok (.aload_n 0, 1) := by decide +kernel
theorem dX12_place_1 : decode cX12_place 1 = .ok (.iconst 0, 1) := by decide +kernel
theorem dX12_place_2 : decode cX12_place 2 = .ok (.putfield 51, 3) := by decide +kernel
theorem dX12_place_5 : decode cX12_place 5 = .ok (.aload_n 0, 1) := by decide +kernel
theorem dX12_place_6 : decode cX12_place 6 = .ok (.getfield 13, 3) := by decide +kernel
theorem dX12_place_9 : decode cX12_place 9 = .ok (.ireturn, 1) := by decide +kernel
theorem dX12_begin_0 : decode cX12_begin 0 = .ok (.aload_n 0, 1) := by decide +kernel
theorem dX12_begin_1 : decode cX12_begin 1 = .ok (.iconst 0, 1) := by decide +kernel
theorem dX12_begin_2 : decode cX12_begin 2 = .ok (.putfield 51, 3) := by decide +kernel
theorem dX12_begin_5 : decode cX12_begin 5 = .ok (.iload_n 1, 1) := by decide +kernel
theorem dX12_begin_6 : decode cX12_begin 6 = .ok (.iconst 1, 1) := by decide +kernel
theorem dX12_begin_7 : decode cX12_begin 7 = .ok (.if_icmp .lt 24, 3) := by decide +kernel
theorem dX12_begin_10 : decode cX12_begin 10 = .ok (.iload_n 1, 1) := by decide +kernel
theorem dX12_begin_11 : decode cX12_begin 11 = .ok (.bipush 16, 2) := by decide +kernel
theorem dX12_begin_13 : decode cX12_begin 13 = .ok (.if_icmp .gt 18, 3) := by decide +kernel
theorem dX12_begin_16 : decode cX12_begin 16 = .ok (.iload_n 2, 1) := by decide +kernel
theorem dX12_begin_17 : decode cX12_begin 17 = .ok (.iconst 1, 1) := by decide +kernel
theorem dX12_begin_18 : decode cX12_begin 18 = .ok (.if_icmp .lt 13, 3) := by decide +kernel
theorem dX12_begin_21 : decode cX12_begin 21 = .ok (.iload_n 2, 1) := by decide +kernel
theorem dX12_begin_22 : decode cX12_begin 22 = .ok (.bipush 16, 2) := by decide +kernel
theorem dX12_begin_24 : decode cX12_begin 24 = .ok (.if_icmp .gt 7, 3) := by decide +kernel
theorem dX12_begin_27 : decode cX12_begin 27 = .ok (.iload_n 3, 1) := by decide +kernel
theorem dX12_begin_28 : decode cX12_begin 28 = .ok (.ifCond .ge 6, 3) := by decide +kernel
theorem dX12_begin_31 : decode cX12_begin 31 = .ok (.bipush (-12), 2) := by decide +kernel
theorem dX12_begin_33 : decode cX12_begin 33 = .ok (.ireturn, 1) := by decide +kernel
theorem dX12_begin_34 : decode cX12_begin 34 = .ok (.aload_n 0, 1) := by decide +kernel
theorem dX12_begin_35 : decode cX12_begin 35 = .ok (.getfield 17, 3) := by decide +kernel
theorem dX12_begin_38 : decode cX12_begin 38 = .ok (.iconst 0, 1) := by decide +kernel
theorem dX12_begin_39 : decode cX12_begin 39 = .ok (.iconst 1, 1) := by decide +kernel
theorem dX12_begin_40 : decode cX12_begin 40 = .ok (.iastore, 1) := by decide +kernel
theorem dX12_begin_41 : decode cX12_begin 41 = .ok (.aload_n 0, 1) := by decide +kernel
theorem dX12_begin_42 : decode cX12_begin 42 = .ok (.getfield 17, 3) := by decide +kernel
theorem dX12_begin_45 : decode cX12_begin 45 = .ok (.iconst 1, 1) := by decide +kernel
theorem dX12_begin_46 : decode cX12_begin 46 = .ok (.iload_n 1, 1) := by decide +kernel
theorem dX12_begin_47 : decode cX12_begin 47 = .ok (.iastore, 1) := by decide +kernel
theorem dX12_begin_48 : decode cX12_begin 48 = .ok (.aload_n 0, 1) := by decide +kernel
theorem dX12_begin_49 : decode cX12_begin 49 = .ok (.getfield 17, 3) := by decide +kernel
theorem dX12_begin_52 : decode cX12_begin 52 = .ok (.iconst 2, 1) := by decide +kernel
theorem dX12_begin_53 : decode cX12_begin 53 = .ok (.iload_n 2, 1) := by decide +kernel
theorem dX12_begin_54 : decode cX12_begin 54 = .ok (.iastore, 1) := by decide +kernel
theorem dX12_begin_55 : decode cX12_begin 55 = .ok (.aload_n 0, 1) := by decide +kernel
theorem dX12_begin_56 : decode cX12_begin 56 = .ok (.getfield 17, 3) := by decide +kernel
theorem dX12_begin_59 : decode cX12_begin 59 = .ok (.iconst 3, 1) := by decide +kernel
theorem dX12_begin_60 : decode cX12_begin 60 = .ok (.iload_n 3, 1) := by decide +kernel
theorem dX12_begin_61 : decode cX12_begin 61 = .ok (.iastore, 1) := by decide +kernel
theorem dX12_begin_62 : decode cX12_begin 62 = .ok (.aload_n 0, 1) := by decide +kernel
theorem dX12_begin_63 : decode cX12_begin 63 = .ok (.getfield 17, 3) := by decide +kernel
theorem dX12_begin_66 : decode cX12_begin 66 = .ok (.iconst 4, 1) := by decide +kernel
theorem dX12_begin_67 : decode cX12_begin 67 = .ok (.iconst 0, 1) := by decide +kernel
theorem dX12_begin_68 : decode cX12_begin 68 = .ok (.iastore, 1) := by decide +kernel
theorem dX12_begin_69 : decode cX12_begin 69 = .ok (.aload_n 0, 1) := by decide +kernel
theorem dX12_begin_70 : decode cX12_begin 70 = .ok (.getfield 17, 3) := by decide +kernel
theorem dX12_begin_73 : decode cX12_begin 73 = .ok (.iconst 5, 1) := by decide +kernel
theorem dX12_begin_74 : decode cX12_begin 74 = .ok (.iconst 0, 1) := by decide +kernel
theorem dX12_begin_75 : decode cX12_begin 75 = .ok (.iastore, 1) := by decide +kernel
theorem dX12_begin_76 : decode cX12_begin 76 = .ok (.aload_n 0, 1) := by decide +kernel
theorem dX12_begin_77 : decode cX12_begin 77 = .ok (.bipush 8, 2) := by decide +kernel
theorem dX12_begin_79 : decode cX12_begin 79 = .ok (.invokevirtual 222, 3) := by decide +kernel
theorem dX12_begin_82 : decode cX12_begin 82 = .ok (.aload_n 0, 1) := by decide +kernel
theorem dX12_begin_83 : decode cX12_begin 83 = .ok (.iconst 0, 1) := by decide +kernel
theorem dX12_begin_84 : decode cX12_begin 84 = .ok (.putfield 219, 3) := by decide +kernel
theorem dX12_begin_87 : decode cX12_begin 87 = .ok (.iconst 1, 1) := by decide +kernel
theorem dX12_begin_88 : decode cX12_begin 88 = .ok (.ireturn, 1) := by decide +kernel
theorem dX12_wipe_0 : decode cX12_wipe 0 = .ok (.iconst 0, 1) := by decide +kernel
theorem dX12_wipe_1 : decode cX12_wipe 1 = .ok (.istore_n 2, 1) := by decide +kernel
theorem dX12_wipe_2 : decode cX12_wipe 2 = .ok (.iload_n 2, 1) := by decide +kernel
theorem dX12_wipe_3 : decode cX12_wipe 3 = .ok (.sipush 256, 3) := by decide +kernel
theorem dX12_wipe_6 : decode cX12_wipe 6 = .ok (.if_icmp .ge 22, 3) := by decide +kernel
theorem dX12_wipe_9 : decode cX12_wipe 9 = .ok (.aload_n 0, 1) := by decide +kernel
theorem dX12_wipe_10 : decode cX12_wipe 10 = .ok (.getfield 24, 3) := by decide +kernel
theorem dX12_wipe_13 : decode cX12_wipe 13 = .ok (.sipush 256, 3) := by decide +kernel
theorem dX12_wipe_16 : decode cX12_wipe 16 = .ok (.iload_n 1, 1) := by decide +kernel
theorem dX12_wipe_17 : decode cX12_wipe 17 = .ok (.imul, 1) := by decide +kernel
theorem dX12_wipe_18 : decode cX12_wipe 18 = .ok (.iload_n 2, 1) := by decide +kernel
theorem dX12_wipe_19 : decode cX12_wipe 19 = .ok (.iadd, 1) := by decide +kernel
theorem dX12_wipe_20 : decode cX12_wipe 20 = .ok (.iconst 0, 1) := by decide +kernel
theorem dX12_wipe_21 : decode cX12_wipe 21 = .ok (.iastore, 1) := by decide +kernel
theorem dX12_wipe_22 : decode cX12_wipe 22 = .ok (.iinc 2 1, 3) := by decide +kernel
theorem dX12_wipe_25 : decode cX12_wipe 25 = .ok (.goto (-23), 3) := by decide +kernel
theorem dX12_wipe_28 : decode cX12_wipe 28 = .ok (.return_, 1) := by decide +kernel
theorem dX12_frame_0 : decode cX12_frame 0 = .ok (.aload_n 0, 1) := by decide +kernel
theorem dX12_frame_1 : decode cX12_frame 1 = .ok (.iconst 0, 1) := by decide +kernel
theorem dX12_frame_2 : decode cX12_frame 2 = .ok (.putfield 51, 3) := by decide +kernel
theorem dX12_frame_5 : decode cX12_frame 5 = .ok (.aload_n 0, 1) := by decide +kernel
theorem dX12_frame_6 : decode cX12_frame 6 = .ok (.getfield 17, 3) := by decide +kernel
theorem dX12_frame_9 : decode cX12_frame 9 = .ok (.iconst 0, 1) := by decide +kernel
theorem dX12_frame_10 : decode cX12_frame 10 = .ok (.iaload, 1) := by decide +kernel
theorem dX12_frame_11 : decode cX12_frame 11 = .ok (.ifCond .ne 6, 3) := by decide +kernel
theorem dX12_frame_14 : decode cX12_frame 14 = .ok (.bipush (-13), 2) := by decide +kernel
theorem dX12_frame_16 : decode cX12_frame 16 = .ok (.ireturn, 1) := by decide +kernel
theorem dX12_frame_17 : decode cX12_frame 17 = .ok (.aload_n 0, 1) := by decide +kernel
theorem dX12_frame_18 : decode cX12_frame 18 = .ok (.iconst 0, 1) := by decide +kernel
theorem dX12_frame_19 : decode cX12_frame 19 = .ok (.iload_n 1, 1) := by decide +kernel
theorem dX12_frame_20 : decode cX12_frame 20 = .ok (.iload_n 2, 1) := by decide +kernel
theorem dX12_frame_21 : decode cX12_frame 21 = .ok (.iload_n 3, 1) := by decide +kernel
theorem dX12_frame_22 : decode cX12_frame 22 = .ok (.iload 4, 2) := by decide +kernel
theorem dX12_frame_24 : decode cX12_frame 24 = .ok (.invokevirtual 152, 3) := by decide +kernel
theorem dX12_frame_27 : decode cX12_frame 27 = .ok (.ifCond .eq 25, 3) := by decide +kernel
theorem dX12_frame_30 : decode cX12_frame 30 = .ok (.iload 5, 2) := by decide +kernel
theorem dX12_frame_32 : decode cX12_frame 32 = .ok (.ifCond .lt 20, 3) := by decide +kernel
theorem dX12_frame_35 : decode cX12_frame 35 = .ok (.iload 5, 2) := by decide +kernel
theorem dX12_frame_37 : decode cX12_frame 37 = .ok (.iconst 2, 1) := by decide +kernel
theorem dX12_frame_38 : decode cX12_frame 38 = .ok (.if_icmp .gt 14, 3) := by decide +kernel
theorem dX12_frame_41 : decode cX12_frame 41 = .ok (.iload 6, 2) := by decide +kernel
theorem dX12_frame_43 : decode cX12_frame 43 = .ok (.ifCond .lt 9, 3) := by decide +kernel
theorem dX12_frame_46 : decode cX12_frame 46 = .ok (.iload 6, 2) := by decide +kernel
theorem dX12_frame_48 : decode cX12_frame 48 = .ok (.iconst 1, 1) := by decide +kernel
theorem dX12_frame_49 : decode cX12_frame 49 = .ok (.if_icmp .le 6, 3) := by decide +kernel
theorem dX12_frame_52 : decode cX12_frame 52 = .ok (.bipush (-12), 2) := by decide +kernel
theorem dX12_frame_54 : decode cX12_frame 54 = .ok (.ireturn, 1) := by decide +kernel
theorem dX12_frame_55 : decode cX12_frame 55 = .ok (.aload_n 0, 1) := by decide +kernel
theorem dX12_frame_56 : decode cX12_frame 56 = .ok (.getfield 17, 3) := by decide +kernel
theorem dX12_frame_59 : decode cX12_frame 59 = .ok (.iconst 4, 1) := by decide +kernel
theorem dX12_frame_60 : decode cX12_frame 60 = .ok (.iaload, 1) := by decide +kernel
theorem dX12_frame_61 : decode cX12_frame 61 = .ok (.bipush 8, 2) := by decide +kernel
theorem dX12_frame_63 : decode cX12_frame 63 = .ok (.if_icmp .ne 6, 3) := by decide +kernel
theorem dX12_frame_66 : decode cX12_frame 66 = .ok (.bipush (-14), 2) := by decide +kernel
theorem dX12_frame_68 : decode cX12_frame 68 = .ok (.ireturn, 1) := by decide +kernel
theorem dX12_frame_69 : decode cX12_frame 69 = .ok (.aload_n 0, 1) := by decide +kernel
theorem dX12_frame_70 : decode cX12_frame 70 = .ok (.iconst 0, 1) := by decide +kernel
theorem dX12_frame_71 : decode cX12_frame 71 = .ok (.aload_n 0, 1) := by decide +kernel
theorem dX12_frame_72 : decode cX12_frame 72 = .ok (.getfield 17, 3) := by decide +kernel
theorem dX12_frame_75 : decode cX12_frame 75 = .ok (.iconst 4, 1) := by decide +kernel
theorem dX12_frame_76 : decode cX12_frame 76 = .ok (.iaload, 1) := by decide +kernel
theorem dX12_frame_77 : decode cX12_frame 77 = .ok (.iload_n 1, 1) := by decide +kernel
theorem dX12_frame_78 : decode cX12_frame 78 = .ok (.iload_n 2, 1) := by decide +kernel
theorem dX12_frame_79 : decode cX12_frame 79 = .ok (.iload_n 3, 1) := by decide +kernel
theorem dX12_frame_80 : decode cX12_frame 80 = .ok (.iload 4, 2) := by decide +kernel
theorem dX12_frame_82 : decode cX12_frame 82 = .ok (.iload 5, 2) := by decide +kernel
theorem dX12_frame_84 : decode cX12_frame 84 = .ok (.iload 6, 2) := by decide +kernel
theorem dX12_frame_86 : decode cX12_frame 86 = .ok (.invokevirtual 156, 3) := by decide +kernel
theorem dX12_frame_89 : decode cX12_frame 89 = .ok (.aload_n 0, 1) := by decide +kernel
theorem dX12_frame_90 : decode cX12_frame 90 = .ok (.aload_n 0, 1) := by decide +kernel
theorem dX12_frame_91 : decode cX12_frame 91 = .ok (.getfield 17, 3) := by decide +kernel
theorem dX12_frame_94 : decode cX12_frame 94 = .ok (.iconst 4, 1) := by decide +kernel
theorem dX12_frame_95 : decode cX12_frame 95 = .ok (.iaload, 1) := by decide +kernel
theorem dX12_frame_96 : decode cX12_frame 96 = .ok (.invokevirtual 222, 3) := by decide +kernel
theorem dX12_frame_99 : decode cX12_frame 99 = .ok (.aload_n 0, 1) := by decide +kernel
theorem dX12_frame_100 : decode cX12_frame 100 = .ok (.getfield 17, 3) := by decide +kernel
theorem dX12_frame_103 : decode cX12_frame 103 = .ok (.iconst 4, 1) := by decide +kernel
theorem dX12_frame_104 : decode cX12_frame 104 = .ok (.dup2, 1) := by decide +kernel
theorem dX12_frame_105 : decode cX12_frame 105 = .ok (.iaload, 1) := by decide +kernel
theorem dX12_frame_106 : decode cX12_frame 106 = .ok (.iconst 1, 1) := by decide +kernel
theorem dX12_frame_107 : decode cX12_frame 107 = .ok (.iadd, 1) := by decide +kernel
theorem dX12_frame_108 : decode cX12_frame 108 = .ok (.iastore, 1) := by decide +kernel
theorem dX12_frame_109 : decode cX12_frame 109 = .ok (.aload_n 0, 1) := by decide +kernel
theorem dX12_frame_110 : decode cX12_frame 110 = .ok (.iconst 0, 1) := by decide +kernel
theorem dX12_frame_111 : decode cX12_frame 111 = .ok (.putfield 219, 3) := by decide +kernel
theorem dX12_frame_114 : decode cX12_frame 114 = .ok (.aload_n 0, 1) := by decide +kernel
theorem dX12_frame_115 : decode cX12_frame 115 = .ok (.getfield 17, 3) := by decide +kernel
theorem dX12_frame_118 : decode cX12_frame 118 = .ok (.iconst 4, 1) := by decide +kernel
theorem dX12_frame_119 : decode cX12_frame 119 = .ok (.iaload, 1) := by decide +kernel
theorem dX12_frame_120 : decode cX12_frame 120 = .ok (.ireturn, 1) := by decide +kernel
theorem dX12_paint_0 : decode cX12_paint 0 = .ok (.aload_n 0, 1) := by decide +kernel
theorem dX12_paint_1 : decode cX12_paint 1 = .ok (.iconst 0, 1) := by decide +kernel
theorem dX12_paint_2 : decode cX12_paint 2 = .ok (.putfield 51, 3) := by decide +kernel
theorem dX12_paint_5 : decode cX12_paint 5 = .ok (.iload_n 1, 1) := by decide +kernel
theorem dX12_paint_6 : decode cX12_paint 6 = .ok (.iconst (-1), 1) := by decide +kernel
theorem dX12_paint_7 : decode cX12_paint 7 = .ok (.if_icmp .ne 26, 3) := by decide +kernel
theorem dX12_paint_10 : decode cX12_paint 10 = .ok (.aload_n 0, 1) := by decide +kernel
theorem dX12_paint_11 : decode cX12_paint 11 = .ok (.getfield 17, 3) := by decide +kernel
theorem dX12_paint_14 : decode cX12_paint 14 = .ok (.iconst 0, 1) := by decide +kernel
theorem dX12_paint_15 : decode cX12_paint 15 = .ok (.iaload, 1) := by decide +kernel
theorem dX12_paint_16 : decode cX12_paint 16 = .ok (.iconst 1, 1) := by decide +kernel
theorem dX12_paint_17 : decode cX12_paint 17 = .ok (.if_icmp .ne 16, 3) := by decide +kernel
theorem dX12_paint_20 : decode cX12_paint 20 = .ok (.aload_n 0, 1) := by decide +kernel
theorem dX12_paint_21 : decode cX12_paint 21 = .ok (.getfield 17, 3) := by decide +kernel
theorem dX12_paint_24 : decode cX12_paint 24 = .ok (.iconst 5, 1) := by decide +kernel
theorem dX12_paint_25 : decode cX12_paint 25 = .ok (.iaload, 1) := by decide +kernel
theorem dX12_paint_26 : decode cX12_paint 26 = .ok (.ifCond .ne 7, 3) := by decide +kernel
theorem dX12_paint_29 : decode cX12_paint 29 = .ok (.iconst 1, 1) := by decide +kernel
theorem dX12_paint_30 : decode cX12_paint 30 = .ok (.goto 4, 3) := by decide +kernel
theorem dX12_paint_33 : decode cX12_paint 33 = .ok (.iconst 0, 1) := by decide +kernel
theorem dX12_paint_34 : decode cX12_paint 34 = .ok (.istore 5, 2) := by decide +kernel
theorem dX12_paint_36 : decode cX12_paint 36 = .ok (.iload 5, 2) := by decide +kernel
theorem dX12_paint_38 : decode cX12_paint 38 = .ok (.ifCond .ne 20, 3) := by decide +kernel
theorem dX12_paint_41 : decode cX12_paint 41 = .ok (.iload_n 1, 1) := by decide +kernel
theorem dX12_paint_42 : decode cX12_paint 42 = .ok (.ifCond .lt 13, 3) := by decide +kernel
theorem dX12_paint_45 : decode cX12_paint 45 = .ok (.iload_n 1, 1) := by decide +kernel
theorem dX12_paint_46 : decode cX12_paint 46 = .ok (.aload_n 0, 1) := by decide +kernel
theorem dX12_paint_47 : decode cX12_paint 47 = .ok (.getfield 17, 3) := by decide +kernel
theorem dX12_paint_50 : decode cX12_paint 50 = .ok (.iconst 4, 1) := by decide +kernel
theorem dX12_paint_51 : decode cX12_paint 51 = .ok (.iaload, 1) := by decide +kernel
theorem dX12_paint_52 : decode cX12_paint 52 = .ok (.if_icmp .lt 6, 3) := by decide +kernel
theorem dX12_paint_55 : decode cX12_paint 55 = .ok (.bipush (-11), 2) := by decide +kernel
theorem dX12_paint_57 : decode cX12_paint 57 = .ok (.ireturn, 1) := by decide +kernel
theorem dX12_paint_58 : decode cX12_paint 58 = .ok (.iload 5, 2) := by decide +kernel
theorem dX12_paint_60 : decode cX12_paint 60 = .ok (.ifCond .eq 12, 3) := by decide +kernel
theorem dX12_paint_63 : decode cX12_paint 63 = .ok (.aload_n 0, 1) := by decide +kernel
theorem dX12_paint_64 : decode cX12_paint 64 = .ok (.getfield 17, 3) := by decide +kernel
theorem dX12_paint_67 : decode cX12_paint 67 = .ok (.iconst 1, 1) := by decide +kernel
theorem dX12_paint_68 : decode cX12_paint 68 = .ok (.iaload, 1) := by decide +kernel
theorem dX12_paint_69 : decode cX12_paint 69 = .ok (.goto 10, 3) := by decide +kernel
theorem dX12_paint_72 : decode cX12_paint 72 = .ok (.aload_n 0, 1) := by decide +kernel
theorem dX12_paint_73 : decode cX12_paint 73 = .ok (.iconst 0, 1) := by decide +kernel
theorem dX12_paint_74 : decode cX12_paint 74 = .ok (.iload_n 1, 1) := by decide +kernel
theorem dX12_paint_75 : decode cX12_paint 75 = .ok (.iconst 0, 1) := by decide +kernel
theorem dX12_paint_76 : decode cX12_paint 76 = .ok (.invokevirtual 173, 3) := by decide +kernel
theorem dX12_paint_79 : decode cX12_paint 79 = .ok (.istore 6, 2) := by decide +kernel
theorem dX12_paint_81 : decode cX12_paint 81 = .ok (.iload 5, 2) := by decide +kernel
theorem dX12_paint_83 : decode cX12_paint 83 = .ok (.ifCond .eq 12, 3) := by decide +kernel
theorem dX12_paint_86 : decode cX12_paint 86 = .ok (.aload_n 0, 1) := by decide +kernel
theorem dX12_paint_87 : decode cX12_paint 87 = .ok (.getfield 17, 3) := by decide +kernel
theorem dX12_paint_90 : decode cX12_paint 90 = .ok (.iconst 2, 1) := by decide +kernel
theorem dX12_paint_91 : decode cX12_paint 91 = .ok (.iaload, 1) := by decide +kernel
theorem dX12_paint_92 : decode cX12_paint 92 = .ok (.goto 10, 3) := by decide +kernel
theorem dX12_paint_95 : decode cX12_paint 95 = .ok (.aload_n 0, 1) := by decide +kernel
theorem dX12_paint_96 : decode cX12_paint 96 = .ok (.iconst 0, 1) := by decide +kernel
theorem dX12_paint_97 : decode cX12_paint 97 = .ok (.iload_n 1, 1) := by decide +kernel
theorem dX12_paint_98 : decode cX12_paint 98 = .ok (.iconst 1, 1) := by decide +kernel
theorem dX12_paint_99 : decode cX12_paint 99 = .ok (.invokevirtual 173, 3) := by decide +kernel
theorem dX12_paint_102 : decode cX12_paint 102 = .ok (.istore 7, 2) := by decide +kernel
theorem dX12_paint_104 : decode cX12_paint 104 = .ok (.iload_n 2, 1) := by decide +kernel
theorem dX12_paint_105 : decode cX12_paint 105 = .ok (.ifCond .lt 19, 3) := by decide +kernel
theorem dX12_paint_108 : decode cX12_paint 108 = .ok (.iload_n 2, 1) := by decide +kernel
theorem dX12_paint_109 : decode cX12_paint 109 = .ok (.iload 6, 2) := by decide +kernel
theorem dX12_paint_111 : decode cX12_paint 111 = .ok (.if_icmp .ge 13, 3) := by decide +kernel
theorem dX12_paint_114 : decode cX12_paint 114 = .ok (.iload_n 3, 1) := by decide +kernel
theorem dX12_paint_115 : decode cX12_paint 115 = .ok (.ifCond .lt 9, 3) := by decide +kernel
theorem dX12_paint_118 : decode cX12_paint 118 = .ok (.iload_n 3, 1) := by decide +kernel
theorem dX12_paint_119 : decode cX12_paint 119 = .ok (.iload 7, 2) := by decide +kernel
theorem dX12_paint_121 : decode cX12_paint 121 = .ok (.if_icmp .lt 6, 3) := by decide +kernel
theorem dX12_paint_124 : decode cX12_paint 124 = .ok (.bipush (-12), 2) := by decide +kernel
theorem dX12_paint_126 : decode cX12_paint 126 = .ok (.ireturn, 1) := by decide +kernel
theorem dX12_paint_127 : decode cX12_paint 127 = .ok (.aload_n 0, 1) := by decide +kernel
theorem dX12_paint_128 : decode cX12_paint 128 = .ok (.getfield 24, 3) := by decide +kernel
theorem dX12_paint_131 : decode cX12_paint 131 = .ok (.sipush 256, 3) := by decide +kernel
theorem dX12_paint_134 : decode cX12_paint 134 = .ok (.iload 5, 2) := by decide +kernel
theorem dX12_paint_136 : decode cX12_paint 136 = .ok (.ifCond .eq 8, 3) := by decide +kernel
theorem dX12_paint_139 : decode cX12_paint 139 = .ok (.bipush 8, 2) := by decide +kernel
theorem dX12_paint_141 : decode cX12_paint 141 = .ok (.goto 4, 3) := by decide +kernel
theorem dX12_paint_144 : decode cX12_paint 144 = .ok (.iload_n 1, 1) := by decide +kernel
theorem dX12_paint_145 : decode cX12_paint 145 = .ok (.imul, 1) := by decide +kernel
theorem dX12_paint_146 : decode cX12_paint 146 = .ok (.iload 6, 2) := by decide +kernel
theorem dX12_paint_148 : decode cX12_paint 148 = .ok (.iload_n 3, 1) := by decide +kernel
theorem dX12_paint_149 : decode cX12_paint 149 = .ok (.imul, 1) := by decide +kernel
theorem dX12_paint_150 : decode cX12_paint 150 = .ok (.iadd, 1) := by decide +kernel
theorem dX12_paint_151 : decode cX12_paint 151 = .ok (.iload_n 2, 1) := by decide +kernel
theorem dX12_paint_152 : decode cX12_paint 152 = .ok (.iadd, 1) := by decide +kernel
theorem dX12_paint_153 : decode cX12_paint 153 = .ok (.iload 4, 2) := by decide +kernel
theorem dX12_paint_155 : decode cX12_paint 155 = .ok (.iastore, 1) := by decide +kernel
theorem dX12_paint_156 : decode cX12_paint 156 = .ok (.aload_n 0, 1) := by decide +kernel
theorem dX12_paint_157 : decode cX12_paint 157 = .ok (.iconst 0, 1) := by decide +kernel
theorem dX12_paint_158 : decode cX12_paint 158 = .ok (.putfield 219, 3) := by decide +kernel
theorem dX12_paint_161 : decode cX12_paint 161 = .ok (.iconst 1, 1) := by decide +kernel
theorem dX12_paint_162 : decode cX12_paint 162 = .ok (.ireturn, 1) := by decide +kernel
theorem dX12_first_0 : decode cX12_first 0 = .ok (.aload_n 0, 1) := by decide +kernel
theorem dX12_first_1 : decode cX12_first 1 = .ok (.iconst 0, 1) := by decide +kernel
theorem dX12_first_2 : decode cX12_first 2 = .ok (.putfield 51, 3) := by decide +kernel
theorem dX12_first_5 : decode cX12_first 5 = .ok (.aload_n 0, 1) := by decide +kernel
theorem dX12_first_6 : decode cX12_first 6 = .ok (.getfield 17, 3) := by decide +kernel
theorem dX12_first_9 : decode cX12_first 9 = .ok (.iconst 0, 1) := by decide +kernel
theorem dX12_first_10 : decode cX12_first 10 = .ok (.iaload, 1) := by decide +kernel
theorem dX12_first_11 : decode cX12_first 11 = .ok (.ifCond .eq 48, 3) := by decide +kernel
theorem dX12_first_14 : decode cX12_first 14 = .ok (.iload_n 1, 1) := by decide +kernel
theorem dX12_first_15 : decode cX12_first 15 = .ok (.ifCond .eq 47, 3) := by decide +kernel
theorem dX12_first_18 : decode cX12_first 18 = .ok (.aload_n 0, 1) := by decide +kernel
theorem dX12_first_19 : decode cX12_first 19 = .ok (.getfield 17, 3) := by decide +kernel
theorem dX12_first_22 : decode cX12_first 22 = .ok (.iconst 4, 1) := by decide +kernel
theorem dX12_first_23 : decode cX12_first 23 = .ok (.iaload, 1) := by decide +kernel
theorem dX12_first_24 : decode cX12_first 24 = .ok (.ifCond .eq 35, 3) := by decide +kernel
theorem dX12_first_27 : decode cX12_first 27 = .ok (.aload_n 0, 1) := by decide +kernel
theorem dX12_first_28 : decode cX12_first 28 = .ok (.iconst 0, 1) := by decide +kernel
theorem dX12_first_29 : decode cX12_first 29 = .ok (.iconst 0, 1) := by decide +kernel
theorem dX12_first_30 : decode cX12_first 30 = .ok (.iconst 0, 1) := by decide +kernel
theorem dX12_first_31 : decode cX12_first 31 = .ok (.invokevirtual 173, 3) := by decide +kernel
theorem dX12_first_34 : decode cX12_first 34 = .ok (.aload_n 0, 1) := by decide +kernel
theorem dX12_first_35 : decode cX12_first 35 = .ok (.getfield 17, 3) := by decide +kernel
theorem dX12_first_38 : decode cX12_first 38 = .ok (.iconst 1, 1) := by decide +kernel
theorem dX12_first_39 : decode cX12_first 39 = .ok (.iaload, 1) := by decide +kernel
theorem dX12_first_40 : decode cX12_first 40 = .ok (.if_icmp .ne 19, 3) := by decide +kernel
theorem dX12_first_43 : decode cX12_first 43 = .ok (.aload_n 0, 1) := by decide +kernel
theorem dX12_first_44 : decode cX12_first 44 = .ok (.iconst 0, 1) := by decide +kernel
theorem dX12_first_45 : decode cX12_first 45 = .ok (.iconst 0, 1) := by decide +kernel
theorem dX12_first_46 : decode cX12_first 46 = .ok (.iconst 1, 1) := by decide +kernel
theorem dX12_first_47 : decode cX12_first 47 = .ok (.invokevirtual 173, 3) := by decide +kernel
theorem dX12_first_50 : decode cX12_first 50 = .ok (.aload_n 0, 1) := by decide +kernel
theorem dX12_first_51 : decode cX12_first 51 = .ok (.getfield 17, 3) := by decide +kernel
theorem dX12_first_54 : decode cX12_first 54 = .ok (.iconst 2, 1) := by decide +kernel
theorem dX12_first_55 : decode cX12_first 55 = .ok (.iaload, 1) := by decide +kernel
theorem dX12_first_56 : decode cX12_first 56 = .ok (.if_icmp .eq 6, 3) := by decide +kernel
theorem dX12_first_59 : decode cX12_first 59 = .ok (.bipush (-13), 2) := by decide +kernel
theorem dX12_first_61 : decode cX12_first 61 = .ok (.ireturn, 1) := by decide +kernel
theorem dX12_first_62 : decode cX12_first 62 = .ok (.aload_n 0, 1) := by decide +kernel
theorem dX12_first_63 : decode cX12_first 63 = .ok (.getfield 17, 3) := by decide +kernel
theorem dX12_first_66 : decode cX12_first 66 = .ok (.iconst 5, 1) := by decide +kernel
theorem dX12_first_67 : decode cX12_first 67 = .ok (.iaload, 1) := by decide +kernel
theorem dX12_first_68 : decode cX12_first 68 = .ok (.iconst 1, 1) := by decide +kernel
theorem dX12_first_69 : decode cX12_first 69 = .ok (.if_icmp .ne 7, 3) := by decide +kernel
theorem dX12_first_72 : decode cX12_first 72 = .ok (.iconst 1, 1) := by decide +kernel
theorem dX12_first_73 : decode cX12_first 73 = .ok (.goto 4, 3) := by decide +kernel
theorem dX12_first_76 : decode cX12_first 76 = .ok (.iconst 0, 1) := by decide +kernel
theorem dX12_first_77 : decode cX12_first 77 = .ok (.iload_n 1, 1) := by decide +kernel
theorem dX12_first_78 : decode cX12_first 78 = .ok (.if_icmp .ne 5, 3) := by decide +kernel
theorem dX12_first_81 : decode cX12_first 81 = .ok (.iconst 0, 1) := by decide +kernel
theorem dX12_first_82 : decode cX12_first 82 = .ok (.ireturn, 1) := by decide +kernel
theorem dX12_first_83 : decode cX12_first 83 = .ok (.aload_n 0, 1) := by decide +kernel
theorem dX12_first_84 : decode cX12_first 84 = .ok (.getfield 17, 3) := by decide +kernel
theorem dX12_first_87 : decode cX12_first 87 = .ok (.iconst 5, 1) := by decide +kernel
theorem dX12_first_88 : decode cX12_first 88 = .ok (.iload_n 1, 1) := by decide +kernel
theorem dX12_first_89 : decode cX12_first 89 = .ok (.ifCond .eq 7, 3) := by decide +kernel
theorem dX12_first_92 : decode cX12_first 92 = .ok (.iconst 1, 1) := by decide +kernel
theorem dX12_first_93 : decode cX12_first 93 = .ok (.goto 4, 3) := by decide +kernel
theorem dX12_first_96 : decode cX12_first 96 = .ok (.iconst 0, 1) := by decide +kernel
theorem dX12_first_97 : decode cX12_first 97 = .ok (.iastore, 1) := by decide +kernel
theorem dX12_first_98 : decode cX12_first 98 = .ok (.aload_n 0, 1) := by decide +kernel
theorem dX12_first_99 : decode cX12_first 99 = .ok (.bipush 8, 2) := by decide +kernel
theorem dX12_first_101 : decode cX12_first 101 = .ok (.invokevirtual 222, 3) := by decide +kernel
theorem dX12_first_104 : decode cX12_first 104 = .ok (.aload_n 0, 1) := by decide +kernel
theorem dX12_first_105 : decode cX12_first 105 = .ok (.iconst 0, 1) := by decide +kernel
theorem dX12_first_106 : decode cX12_first 106 = .ok (.putfield 219, 3) := by decide +kernel
theorem dX12_first_109 : decode cX12_first 109 = .ok (.iconst 1, 1) := by decide +kernel
theorem dX12_first_110 : decode cX12_first 110 = .ok (.ireturn, 1) := by decide +kernel
theorem dX12_about_0 : decode cX12_about 0 = .ok (.aload_n 0, 1) := by decide +kernel
theorem dX12_about_1 : decode cX12_about 1 = .ok (.iconst 0, 1) := by decide +kernel
theorem dX12_about_2 : decode cX12_about 2 = .ok (.putfield 51, 3) := by decide +kernel
theorem dX12_about_5 : decode cX12_about 5 = .ok (.aload_n 0, 1) := by decide +kernel
theorem dX12_about_6 : decode cX12_about 6 = .ok (.getfield 17, 3) := by decide +kernel
theorem dX12_about_9 : decode cX12_about 9 = .ok (.iconst 0, 1) := by decide +kernel
theorem dX12_about_10 : decode cX12_about 10 = .ok (.iaload, 1) := by decide +kernel
theorem dX12_about_11 : decode cX12_about 11 = .ok (.ifCond .ne 6, 3) := by decide +kernel
theorem dX12_about_14 : decode cX12_about 14 = .ok (.bipush (-11), 2) := by decide +kernel
theorem dX12_about_16 : decode cX12_about 16 = .ok (.ireturn, 1) := by decide +kernel
theorem dX12_about_17 : decode cX12_about 17 = .ok (.iload_n 1, 1) := by decide +kernel
theorem dX12_about_18 : decode cX12_about 18 = .ok (.ifCond .lt 9, 3) := by decide +kernel
theorem dX12_about_21 : decode cX12_about 21 = .ok (.iload_n 1, 1) := by decide +kernel
theorem dX12_about_22 : decode cX12_about 22 = .ok (.bipush 10, 2) := by decide +kernel
theorem dX12_about_24 : decode cX12_about 24 = .ok (.if_icmp .le 6, 3) := by decide +kernel
theorem dX12_about_27 : decode cX12_about 27 = .ok (.bipush (-12), 2) := by decide +kernel
theorem dX12_about_29 : decode cX12_about 29 = .ok (.ireturn, 1) := by decide +kernel
theorem dX12_about_30 : decode cX12_about 30 = .ok (.iload_n 1, 1) := by decide +kernel
theorem dX12_about_31 : decode cX12_about 31 = .ok (.iconst 5, 1) := by decide +kernel
theorem dX12_about_32 : decode cX12_about 32 = .ok (.if_icmp .ge 65, 3) := by decide +kernel
theorem dX12_about_35 : decode cX12_about 35 = .ok (.iload_n 1, 1) := by decide +kernel
theorem dX12_about_36 : decode cX12_about 36 = .ok (.ifCond .ne 12, 3) := by decide +kernel
theorem dX12_about_39 : decode cX12_about 39 = .ok (.aload_n 0, 1) := by decide +kernel
theorem dX12_about_40 : decode cX12_about 40 = .ok (.getfield 17, 3) := by decide +kernel
theorem dX12_about_43 : decode cX12_about 43 = .ok (.iconst 1, 1) := by decide +kernel
theorem dX12_about_44 : decode cX12_about 44 = .ok (.iaload, 1) := by decide +kernel
theorem dX12_about_45 : decode cX12_about 45 = .ok (.goto 51, 3) := by decide +kernel
theorem dX12_about_48 : decode cX12_about 48 = .ok (.iload_n 1, 1) := by decide +kernel
theorem dX12_about_49 : decode cX12_about 49 = .ok (.iconst 1, 1) := by decide +kernel
theorem dX12_about_50 : decode cX12_about 50 = .ok (.if_icmp .ne 12, 3) := by decide +kernel
theorem dX12_about_53 : decode cX12_about 53 = .ok (.aload_n 0, 1) := by decide +kernel
theorem dX12_about_54 : decode cX12_about 54 = .ok (.getfield 17, 3) := by decide +kernel
theorem dX12_about_57 : decode cX12_about 57 = .ok (.iconst 2, 1) := by decide +kernel
theorem dX12_about_58 : decode cX12_about 58 = .ok (.iaload, 1) := by decide +kernel
theorem dX12_about_59 : decode cX12_about 59 = .ok (.goto 37, 3) := by decide +kernel
theorem dX12_about_62 : decode cX12_about 62 = .ok (.iload_n 1, 1) := by decide +kernel
theorem dX12_about_63 : decode cX12_about 63 = .ok (.iconst 2, 1) := by decide +kernel
theorem dX12_about_64 : decode cX12_about 64 = .ok (.if_icmp .ne 12, 3) := by decide +kernel
theorem dX12_about_67 : decode cX12_about 67 = .ok (.aload_n 0, 1) := by decide +kernel
theorem dX12_about_68 : decode cX12_about 68 = .ok (.getfield 17, 3) := by decide +kernel
theorem dX12_about_71 : decode cX12_about 71 = .ok (.iconst 4, 1) := by decide +kernel
theorem dX12_about_72 : decode cX12_about 72 = .ok (.iaload, 1) := by decide +kernel
theorem dX12_about_73 : decode cX12_about 73 = .ok (.goto 23, 3) := by decide +kernel
theorem dX12_about_76 : decode cX12_about 76 = .ok (.iload_n 1, 1) := by decide +kernel
theorem dX12_about_77 : decode cX12_about 77 = .ok (.iconst 3, 1) := by decide +kernel
theorem dX12_about_78 : decode cX12_about 78 = .ok (.if_icmp .ne 12, 3) := by decide +kernel
theorem dX12_about_81 : decode cX12_about 81 = .ok (.aload_n 0, 1) := by decide +kernel
theorem dX12_about_82 : decode cX12_about 82 = .ok (.getfield 17, 3) := by decide +kernel
theorem dX12_about_85 : decode cX12_about 85 = .ok (.iconst 3, 1) := by decide +kernel
theorem dX12_about_86 : decode cX12_about 86 = .ok (.iaload, 1) := by decide +kernel
theorem dX12_about_87 : decode cX12_about 87 = .ok (.goto 9, 3) := by decide +kernel
theorem dX12_about_90 : decode cX12_about 90 = .ok (.aload_n 0, 1) := by decide +kernel
theorem dX12_about_91 : decode cX12_about 91 = .ok (.getfield 17, 3) := by decide +kernel
theorem dX12_about_94 : decode cX12_about 94 = .ok (.iconst 5, 1) := by decide +kernel
theorem dX12_about_95 : decode cX12_about 95 = .ok (.iaload, 1) := by decide +kernel
theorem dX12_about_96 : decode cX12_about 96 = .ok (.ireturn, 1) := by decide +kernel
theorem dX12_about_97 : decode cX12_about 97 = .ok (.iload_n 2, 1) := by decide +kernel
theorem dX12_about_98 : decode cX12_about 98 = .ok (.ifCond .lt 13, 3) := by decide +kernel
theorem dX12_about_101 : decode cX12_about 101 = .ok (.iload_n 2, 1) := by decide +kernel
theorem dX12_about_102 : decode cX12_about 102 = .ok (.aload_n 0, 1) := by decide +kernel
theorem dX12_about_103 : decode cX12_about 103 = .ok (.getfield 17, 3) := by decide +kernel
theorem dX12_about_106 : decode cX12_about 106 = .ok (.iconst 4, 1) := by decide +kernel
theorem dX12_about_107 : decode cX12_about 107 = .ok (.iaload, 1) := by decide +kernel
theorem dX12_about_108 : decode cX12_about 108 = .ok (.if_icmp .lt 8, 3) := by decide +kernel
theorem dX12_about_111 : decode cX12_about 111 = .ok (.bipush (-11), 2) := by decide +kernel
theorem dX12_about_113 : decode cX12_about 113 = .ok (.goto 12, 3) := by decide +kernel
theorem dX12_about_116 : decode cX12_about 116 = .ok (.aload_n 0, 1) := by decide +kernel
theorem dX12_about_117 : decode cX12_about 117 = .ok (.iconst 0, 1) := by decide +kernel
theorem dX12_about_118 : decode cX12_about 118 = .ok (.iload_n 2, 1) := by decide +kernel
theorem dX12_about_119 : decode cX12_about 119 = .ok (.iload_n 1, 1) := by decide +kernel
theorem dX12_about_120 : decode cX12_about 120 = .ok (.iconst 5, 1) := by decide +kernel
theorem dX12_about_121 : decode cX12_about 121 = .ok (.isub, 1) := by decide +kernel
theorem dX12_about_122 : decode cX12_about 122 = .ok (.invokevirtual 173, 3) := by decide +kernel
theorem dX12_about_125 : decode cX12_about 125 = .ok (.ireturn, 1) := by decide +kernel
theorem dX12_over_0 : decode cX12_over 0 = .ok (.iload_n 0, 1) := by decide +kernel
theorem dX12_over_1 : decode cX12_over 1 = .ok (.sipush 255, 3) := by decide +kernel
theorem dX12_over_4 : decode cX12_over 4 = .ok (.iand, 1) := by decide +kernel
theorem dX12_over_5 : decode cX12_over 5 = .ok (.istore_n 2, 1) := by decide +kernel
theorem dX12_over_6 : decode cX12_over 6 = .ok (.iload_n 2, 1) := by decide +kernel
theorem dX12_over_7 : decode cX12_over 7 = .ok (.ifCond .ne 5, 3) := by decide +kernel
theorem dX12_over_10 : decode cX12_over 10 = .ok (.iload_n 1, 1) := by decide +kernel
theorem dX12_over_11 : decode cX12_over 11 = .ok (.ireturn, 1) := by decide +kernel
theorem dX12_over_12 : decode cX12_over 12 = .ok (.iload_n 2, 1) := by decide +kernel
theorem dX12_over_13 : decode cX12_over 13 = .ok (.sipush 255, 3) := by decide +kernel
theorem dX12_over_16 : decode cX12_over 16 = .ok (.if_icmp .ne 5, 3) := by decide +kernel
theorem dX12_over_19 : decode cX12_over 19 = .ok (.iload_n 0, 1) := by decide +kernel
theorem dX12_over_20 : decode cX12_over 20 = .ok (.ireturn, 1) := by decide +kernel
theorem dX12_over_21 : decode cX12_over 21 = .ok (.iload_n 1, 1) := by decide +kernel
theorem dX12_over_22 : decode cX12_over 22 = .ok (.sipush 255, 3) := by decide +kernel
theorem dX12_over_25 : decode cX12_over 25 = .ok (.iand, 1) := by decide +kernel
theorem dX12_over_26 : decode cX12_over 26 = .ok (.istore_n 3, 1) := by decide +kernel
theorem dX12_over_27 : decode cX12_over 27 = .ok (.iload_n 2, 1) := by decide +kernel
theorem dX12_over_28 : decode cX12_over 28 = .ok (.sipush 255, 3) := by decide +kernel
theorem dX12_over_31 : decode cX12_over 31 = .ok (.imul, 1) := by decide +kernel
theorem dX12_over_32 : decode cX12_over 32 = .ok (.sipush 255, 3) := by decide +kernel
theorem dX12_over_35 : decode cX12_over 35 = .ok (.iload_n 2, 1) := by decide +kernel
theorem dX12_over_36 : decode cX12_over 36 = .ok (.isub, 1) := by decide +kernel
theorem dX12_over_37 : decode cX12_over 37 = .ok (.iload_n 3, 1) := by decide +kernel
theorem dX12_over_38 : decode cX12_over 38 = .ok (.imul, 1) := by decide +kernel
theorem dX12_over_39 : decode cX12_over 39 = .ok (.iadd, 1) := by decide +kernel
theorem dX12_over_40 : decode cX12_over 40 = .ok (.istore 4, 2) := by decide +kernel
theorem dX12_over_42 : decode cX12_over 42 = .ok (.iload 4, 2) := by decide +kernel
theorem dX12_over_44 : decode cX12_over 44 = .ok (.sipush 255, 3) := by decide +kernel
theorem dX12_over_47 : decode cX12_over 47 = .ok (.idiv, 1) := by decide +kernel
theorem dX12_over_48 : decode cX12_over 48 = .ok (.istore 5, 2) := by decide +kernel
theorem dX12_over_50 : decode cX12_over 50 = .ok (.bipush 8, 2) := by decide +kernel
theorem dX12_over_52 : decode cX12_over 52 = .ok (.istore 6, 2) := by decide +kernel
theorem dX12_over_54 : decode cX12_over 54 = .ok (.iload 6, 2) := by decide +kernel
theorem dX12_over_56 : decode cX12_over 56 = .ok (.bipush 32, 2) := by decide +kernel
theorem dX12_over_58 : decode cX12_over 58 = .ok (.if_icmp .ge 55, 3) := by decide +kernel
theorem dX12_over_61 : decode cX12_over 61 = .ok (.iload_n 0, 1) := by decide +kernel
theorem dX12_over_62 : decode cX12_over 62 = .ok (.iload 6, 2) := by decide +kernel
theorem dX12_over_64 : decode cX12_over 64 = .ok (.iushr, 1) := by decide +kernel
theorem dX12_over_65 : decode cX12_over 65 = .ok (.sipush 255, 3) := by decide +kernel
theorem dX12_over_68 : decode cX12_over 68 = .ok (.iand, 1) := by decide +kernel
theorem dX12_over_69 : decode cX12_over 69 = .ok (.iload_n 2, 1) := by decide +kernel
theorem dX12_over_70 : decode cX12_over 70 = .ok (.imul, 1) := by decide +kernel
theorem dX12_over_71 : decode cX12_over 71 = .ok (.sipush 255, 3) := by decide +kernel
theorem dX12_over_74 : decode cX12_over 74 = .ok (.imul, 1) := by decide +kernel
theorem dX12_over_75 : decode cX12_over 75 = .ok (.iload_n 1, 1) := by decide +kernel
theorem dX12_over_76 : decode cX12_over 76 = .ok (.iload 6, 2) := by decide +kernel
theorem dX12_over_78 : decode cX12_over 78 = .ok (.iushr, 1) := by decide +kernel
theorem dX12_over_79 : decode cX12_over 79 = .ok (.sipush 255, 3) := by decide +kernel
theorem dX12_over_82 : decode cX12_over 82 = .ok (.iand, 1) := by decide +kernel
theorem dX12_over_83 : decode cX12_over 83 = .ok (.iload_n 3, 1) := by decide +kernel
theorem dX12_over_84 : decode cX12_over 84 = .ok (.imul, 1) := by decide +kernel
theorem dX12_over_85 : decode cX12_over 85 = .ok (.sipush 255, 3) := by decide +kernel
theorem dX12_over_88 : decode cX12_over 88 = .ok (.iload_n 2, 1) := by decide +kernel
theorem dX12_over_89 : decode cX12_over 89 = .ok (.isub, 1) := by decide +kernel
theorem dX12_over_90 : decode cX12_over 90 = .ok (.imul, 1) := by decide +kernel
theorem dX12_over_91 : decode cX12_over 91 = .ok (.iadd, 1) := by decide +kernel
theorem dX12_over_92 : decode cX12_over 92 = .ok (.iload 4, 2) := by decide +kernel
theorem dX12_over_94 : decode cX12_over 94 = .ok (.idiv, 1) := by decide +kernel
theorem dX12_over_95 : decode cX12_over 95 = .ok (.istore 7, 2) := by decide +kernel
theorem dX12_over_97 : decode cX12_over 97 = .ok (.iload 5, 2) := by decide +kernel
theorem dX12_over_99 : decode cX12_over 99 = .ok (.iload 7, 2) := by decide +kernel
theorem dX12_over_101 : decode cX12_over 101 = .ok (.iload 6, 2) := by decide +kernel
theorem dX12_over_103 : decode cX12_over 103 = .ok (.ishl, 1) := by decide +kernel
theorem dX12_over_104 : decode cX12_over 104 = .ok (.ior, 1) := by decide +kernel
theorem dX12_over_105 : decode cX12_over 105 = .ok (.istore 5, 2) := by decide +kernel
theorem dX12_over_107 : decode cX12_over 107 = .ok (.iinc 6 8, 3) := by decide +kernel
theorem dX12_over_110 : decode cX12_over 110 = .ok (.goto (-56), 3) := by decide +kernel
theorem dX12_over_113 : decode cX12_over 113 = .ok (.iload 5, 2) := by decide +kernel
theorem dX12_over_115 : decode cX12_over 115 = .ok (.ireturn, 1) := by decide +kernel
theorem dX12_lay_0 : decode cX12_lay 0 = .ok (.aload_n 0, 1) := by decide +kernel
theorem dX12_lay_1 : decode cX12_lay 1 = .ok (.iconst 0, 1) := by decide +kernel
