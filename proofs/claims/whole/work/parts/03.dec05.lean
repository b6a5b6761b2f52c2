theorem dX12_nearest_27 : decode cX12_nearest 27 = .ok (.iload_n 1, 1) := by decide +kernel
theorem dX12_nearest_28 : decode cX12_nearest 28 = .ok (.iload_n 3, 1) := by decide +kernel
theorem dX12_nearest_29 : decode cX12_nearest 29 = .ok (.isub, 1) := by decide +kernel
theorem dX12_nearest_30 : decode cX12_nearest 30 = .ok (.goto 6, 3) := by decide +kernel
theorem dX12_nearest_33 : decode cX12_nearest 33 = .ok (.iload_n 3, 1) := by decide +kernel
theorem dX12_nearest_34 : decode cX12_nearest 34 = .ok (.iload_n 1, 1) := by decide +kernel
theorem dX12_nearest_35 : decode cX12_nearest 35 = .ok (.isub, 1) := by decide +kernel
theorem dX12_nearest_36 : decode cX12_nearest 36 = .ok (.istore 5, 2) := by decide +kernel
theorem dX12_nearest_38 : decode cX12_nearest 38 = .ok (.iload_n 3, 1) := by decide +kernel
theorem dX12_nearest_39 : decode cX12_nearest 39 = .ok (.iload_n 2, 1) := by decide +kernel
theorem dX12_nearest_40 : decode cX12_nearest 40 = .ok (.if_icmp .ge 9, 3) := by decide +kernel
theorem dX12_nearest_43 : decode cX12_nearest 43 = .ok (.iload_n 2, 1) := by decide +kernel
theorem dX12_nearest_44 : decode cX12_nearest 44 = .ok (.iload_n 3, 1) := by decide +kernel
theorem dX12_nearest_45 : decode cX12_nearest 45 = .ok (.isub, 1) := by decide +kernel
theorem dX12_nearest_46 : decode cX12_nearest 46 = .ok (.goto 6, 3) := by decide +kernel
theorem dX12_nearest_49 : decode cX12_nearest 49 = .ok (.iload_n 3, 1) := by decide +kernel
theorem dX12_nearest_50 : decode cX12_nearest 50 = .ok (.iload_n 2, 1) := by decide +kernel
theorem dX12_nearest_51 : decode cX12_nearest 51 = .ok (.isub, 1) := by decide +kernel
theorem dX12_nearest_52 : decode cX12_nearest 52 = .ok (.istore 6, 2) := by decide +kernel
theorem dX12_nearest_54 : decode cX12_nearest 54 = .ok (.iload 4, 2) := by decide +kernel
theorem dX12_nearest_56 : decode cX12_nearest 56 = .ok (.iload 5, 2) := by decide +kernel
theorem dX12_nearest_58 : decode cX12_nearest 58 = .ok (.if_icmp .gt 14, 3) := by decide +kernel
theorem dX12_nearest_61 : decode cX12_nearest 61 = .ok (.iload 4, 2) := by decide +kernel
theorem dX12_nearest_63 : decode cX12_nearest 63 = .ok (.iload 6, 2) := by decide +kernel
theorem dX12_nearest_65 : decode cX12_nearest 65 = .ok (.if_icmp .gt 7, 3) := by decide +kernel
theorem dX12_nearest_68 : decode cX12_nearest 68 = .ok (.iload_n 0, 1) := by decide +kernel
theorem dX12_nearest_69 : decode cX12_nearest 69 = .ok (.goto 15, 3) := by decide +kernel
theorem dX12_nearest_72 : decode cX12_nearest 72 = .ok (.iload 5, 2) := by decide +kernel
theorem dX12_nearest_74 : decode cX12_nearest 74 = .ok (.iload 6, 2) := by decide +kernel
theorem dX12_nearest_76 : decode cX12_nearest 76 = .ok (.if_icmp .gt 7, 3) := by decide +kernel
theorem dX12_nearest_79 : decode cX12_nearest 79 = .ok (.iload_n 1, 1) := by decide +kernel
theorem dX12_nearest_80 : decode cX12_nearest 80 = .ok (.goto 4, 3) := by decide +kernel
theorem dX12_nearest_83 : decode cX12_nearest 83 = .ok (.iload_n 2, 1) := by decide +kernel
theorem dX12_nearest_84 : decode cX12_nearest 84 = .ok (.ireturn, 1) := by decide +kernel
theorem dX12_unfilter_0 : decode cX12_unfilter 0 = .ok (.iconst 1, 1) := by decide +kernel
theorem dX12_unfilter_1 : decode cX12_unfilter 1 = .ok (.iconst 4, 1) := by decide +kernel
theorem dX12_unfilter_2 : decode cX12_unfilter 2 = .ok (.iload_n 1, 1) := by decide +kernel
theorem dX12_unfilter_3 : decode cX12_unfilter 3 = .ok (.imul, 1) := by decide +kernel
theorem dX12_unfilter_4 : decode cX12_unfilter 4 = .ok (.iadd, 1) := by decide +kernel
theorem dX12_unfilter_5 : decode cX12_unfilter 5 = .ok (.istore 4, 2) := by decide +kernel
theorem dX12_unfilter_7 : decode cX12_unfilter 7 = .ok (.aload_n 0, 1) := by decide +kernel
theorem dX12_unfilter_8 : decode cX12_unfilter 8 = .ok (.getfield 76, 3) := by decide +kernel
theorem dX12_unfilter_11 : decode cX12_unfilter 11 = .ok (.iload 4, 2) := by decide +kernel
theorem dX12_unfilter_13 : decode cX12_unfilter 13 = .ok (.iload_n 2, 1) := by decide +kernel
theorem dX12_unfilter_14 : decode cX12_unfilter 14 = .ok (.imul, 1) := by decide +kernel
theorem dX12_unfilter_15 : decode cX12_unfilter 15 = .ok (.if_icmp .eq 5, 3) := by decide +kernel
theorem dX12_unfilter_18 : decode cX12_unfilter 18 = .ok (.iconst 0, 1) := by decide +kernel
theorem dX12_unfilter_19 : decode cX12_unfilter 19 = .ok (.ireturn, 1) := by decide +kernel
theorem dX12_unfilter_20 : decode cX12_unfilter 20 = .ok (.iconst 0, 1) := by decide +kernel
theorem dX12_unfilter_21 : decode cX12_unfilter 21 = .ok (.istore 5, 2) := by decide +kernel
theorem dX12_unfilter_23 : decode cX12_unfilter 23 = .ok (.iload 5, 2) := by decide +kernel
theorem dX12_unfilter_25 : decode cX12_unfilter 25 = .ok (.iload_n 2, 1) := by decide +kernel
theorem dX12_unfilter_26 : decode cX12_unfilter 26 = .ok (.if_icmp .ge 236, 3) := by decide +kernel
theorem dX12_unfilter_29 : decode cX12_unfilter 29 = .ok (.aload_n 0, 1) := by decide +kernel
theorem dX12_unfilter_30 : decode cX12_unfilter 30 = .ok (.getfield 39, 3) := by decide +kernel
theorem dX12_unfilter_33 : decode cX12_unfilter 33 = .ok (.iload 4, 2) := by decide +kernel
theorem dX12_unfilter_35 : decode cX12_unfilter 35 = .ok (.iload 5, 2) := by decide +kernel
theorem dX12_unfilter_37 : decode cX12_unfilter 37 = .ok (.imul, 1) := by decide +kernel
theorem dX12_unfilter_38 : decode cX12_unfilter 38 = .ok (.baload, 1) := by decide +kernel
theorem dX12_unfilter_39 : decode cX12_unfilter 39 = .ok (.sipush 255, 3) := by decide +kernel
theorem dX12_unfilter_42 : decode cX12_unfilter 42 = .ok (.iand, 1) := by decide +kernel
theorem dX12_unfilter_43 : decode cX12_unfilter 43 = .ok (.istore 6, 2) := by decide +kernel
theorem dX12_unfilter_45 : decode cX12_unfilter 45 = .ok (.iload 6, 2) := by decide +kernel
theorem dX12_unfilter_47 : decode cX12_unfilter 47 = .ok (.iconst 4, 1) := by decide +kernel
theorem dX12_unfilter_48 : decode cX12_unfilter 48 = .ok (.if_icmp .le 5, 3) := by decide +kernel
theorem dX12_unfilter_51 : decode cX12_unfilter 51 = .ok (.iconst 0, 1) := by decide +kernel
theorem dX12_unfilter_52 : decode cX12_unfilter 52 = .ok (.ireturn, 1) := by decide +kernel
theorem dX12_unfilter_53 : decode cX12_unfilter 53 = .ok (.iconst 1, 1) := by decide +kernel
theorem dX12_unfilter_54 : decode cX12_unfilter 54 = .ok (.istore 7, 2) := by decide +kernel
theorem dX12_unfilter_56 : decode cX12_unfilter 56 = .ok (.iload 7, 2) := by decide +kernel
theorem dX12_unfilter_58 : decode cX12_unfilter 58 = .ok (.iload 4, 2) := by decide +kernel
theorem dX12_unfilter_60 : decode cX12_unfilter 60 = .ok (.if_icmp .ge 196, 3) := by decide +kernel
theorem dX12_unfilter_63 : decode cX12_unfilter 63 = .ok (.iload 7, 2) := by decide +kernel
theorem dX12_unfilter_65 : decode cX12_unfilter 65 = .ok (.iconst 4, 1) := by decide +kernel
theorem dX12_unfilter_66 : decode cX12_unfilter 66 = .ok (.if_icmp .le 25, 3) := by decide +kernel
theorem dX12_unfilter_69 : decode cX12_unfilter 69 = .ok (.aload_n 0, 1) := by decide +kernel
theorem dX12_unfilter_70 : decode cX12_unfilter 70 = .ok (.getfield 39, 3) := by decide +kernel
theorem dX12_unfilter_73 : decode cX12_unfilter 73 = .ok (.iload 4, 2) := by decide +kernel
theorem dX12_unfilter_75 : decode cX12_unfilter 75 = .ok (.iload 5, 2) := by decide +kernel
theorem dX12_unfilter_77 : decode cX12_unfilter 77 = .ok (.imul, 1) := by decide +kernel
theorem dX12_unfilter_78 : decode cX12_unfilter 78 = .ok (.iload 7, 2) := by decide +kernel
theorem dX12_unfilter_80 : decode cX12_unfilter 80 = .ok (.iadd, 1) := by decide +kernel
theorem dX12_unfilter_81 : decode cX12_unfilter 81 = .ok (.iconst 4, 1) := by decide +kernel
theorem dX12_unfilter_82 : decode cX12_unfilter 82 = .ok (.isub, 1) := by decide +kernel
theorem dX12_unfilter_83 : decode cX12_unfilter 83 = .ok (.baload, 1) := by decide +kernel
theorem dX12_unfilter_84 : decode cX12_unfilter 84 = .ok (.sipush 255, 3) := by decide +kernel
theorem dX12_unfilter_87 : decode cX12_unfilter 87 = .ok (.iand, 1) := by decide +kernel
theorem dX12_unfilter_88 : decode cX12_unfilter 88 = .ok (.goto 4, 3) := by decide +kernel
theorem dX12_unfilter_91 : decode cX12_unfilter 91 = .ok (.iconst 0, 1) := by decide +kernel
theorem dX12_unfilter_92 : decode cX12_unfilter 92 = .ok (.istore 8, 2) := by decide +kernel
theorem dX12_unfilter_94 : decode cX12_unfilter 94 = .ok (.iload 5, 2) := by decide +kernel
theorem dX12_unfilter_96 : decode cX12_unfilter 96 = .ok (.ifCond .le 25, 3) := by decide +kernel
theorem dX12_unfilter_99 : decode cX12_unfilter 99 = .ok (.aload_n 0, 1) := by decide +kernel
theorem dX12_unfilter_100 : decode cX12_unfilter 100 = .ok (.getfield 39, 3) := by decide +kernel
theorem dX12_unfilter_103 : decode cX12_unfilter 103 = .ok (.iload 4, 2) := by decide +kernel
theorem dX12_unfilter_105 : decode cX12_unfilter 105 = .ok (.iload 5, 2) := by decide +kernel
theorem dX12_unfilter_107 : decode cX12_unfilter 107 = .ok (.iconst 1, 1) := by decide +kernel
theorem dX12_unfilter_108 : decode cX12_unfilter 108 = .ok (.isub, 1) := by decide +kernel
theorem dX12_unfilter_109 : decode cX12_unfilter 109 = .ok (.imul, 1) := by decide +kernel
theorem dX12_unfilter_110 : decode cX12_unfilter 110 = .ok (.iload 7, 2) := by decide +kernel
theorem dX12_unfilter_112 : decode cX12_unfilter 112 = .ok (.iadd, 1) := by decide +kernel
theorem dX12_unfilter_113 : decode cX12_unfilter 113 = .ok (.baload, 1) := by decide +kernel
theorem dX12_unfilter_114 : decode cX12_unfilter 114 = .ok (.sipush 255, 3) := by decide +kernel
theorem dX12_unfilter_117 : decode cX12_unfilter 117 = .ok (.iand, 1) := by decide +kernel
theorem dX12_unfilter_118 : decode cX12_unfilter 118 = .ok (.goto 4, 3) := by decide +kernel
theorem dX12_unfilter_121 : decode cX12_unfilter 121 = .ok (.iconst 0, 1) := by decide +kernel
theorem dX12_unfilter_122 : decode cX12_unfilter 122 = .ok (.istore 9, 2) := by decide +kernel
theorem dX12_unfilter_124 : decode cX12_unfilter 124 = .ok (.iload 7, 2) := by decide +kernel
theorem dX12_unfilter_126 : decode cX12_unfilter 126 = .ok (.iconst 4, 1) := by decide +kernel
theorem dX12_unfilter_127 : decode cX12_unfilter 127 = .ok (.if_icmp .le 32, 3) := by decide +kernel
theorem dX12_unfilter_130 : decode cX12_unfilter 130 = .ok (.iload 5, 2) := by decide +kernel
theorem dX12_unfilter_132 : decode cX12_unfilter 132 = .ok (.ifCond .le 27, 3) := by decide +kernel
theorem dX12_unfilter_135 : decode cX12_unfilter 135 = .ok (.aload_n 0, 1) := by decide +kernel
theorem dX12_unfilter_136 : decode cX12_unfilter 136 = .ok (.getfield 39, 3) := by decide +kernel
theorem dX12_unfilter_139 : decode cX12_unfilter 139 = .ok (.iload 4, 2) := by decide +kernel
theorem dX12_unfilter_141 : decode cX12_unfilter 141 = .ok (.iload 5, 2) := by decide +kernel
theorem dX12_unfilter_143 : decode cX12_unfilter 143 = .ok (.iconst 1, 1) := by decide +kernel
theorem dX12_unfilter_144 : decode cX12_unfilter 144 = .ok (.isub, 1) := by decide +kernel
theorem dX12_unfilter_145 : decode cX12_unfilter 145 = .ok (.imul, 1) := by decide +kernel
theorem dX12_unfilter_146 : decode cX12_unfilter 146 = .ok (.iload 7, 2) := by decide +kernel
theorem dX12_unfilter_148 : decode cX12_unfilter 148 = .ok (.iadd, 1) := by decide +kernel
theorem dX12_unfilter_149 : decode cX12_unfilter 149 = .ok (.iconst 4, 1) := by decide +kernel
theorem dX12_unfilter_150 : decode cX12_unfilter 150 = .ok (.isub, 1) := by decide +kernel
theorem dX12_unfilter_151 : decode cX12_unfilter 151 = .ok (.baload, 1) := by decide +kernel
theorem dX12_unfilter_152 : decode cX12_unfilter 152 = .ok (.sipush 255, 3) := by decide +kernel
theorem dX12_unfilter_155 : decode cX12_unfilter 155 = .ok (.iand, 1) := by decide +kernel
theorem dX12_unfilter_156 : decode cX12_unfilter 156 = .ok (.goto 4, 3) := by decide +kernel
theorem dX12_unfilter_159 : decode cX12_unfilter 159 = .ok (.iconst 0, 1) := by decide +kernel
theorem dX12_unfilter_160 : decode cX12_unfilter 160 = .ok (.istore 10, 2) := by decide +kernel
theorem dX12_unfilter_162 : decode cX12_unfilter 162 = .ok (.iload 6, 2) := by decide +kernel
theorem dX12_unfilter_164 : decode cX12_unfilter 164 = .ok (.ifCond .ne 7, 3) := by decide +kernel
theorem dX12_unfilter_167 : decode cX12_unfilter 167 = .ok (.iconst 0, 1) := by decide +kernel
theorem dX12_unfilter_168 : decode cX12_unfilter 168 = .ok (.goto 50, 3) := by decide +kernel
theorem dX12_unfilter_171 : decode cX12_unfilter 171 = .ok (.iload 6, 2) := by decide +kernel
theorem dX12_unfilter_173 : decode cX12_unfilter 173 = .ok (.iconst 1, 1) := by decide +kernel
theorem dX12_unfilter_174 : decode cX12_unfilter 174 = .ok (.if_icmp .ne 8, 3) := by decide +kernel
theorem dX12_unfilter_177 : decode cX12_unfilter 177 = .ok (.iload 8, 2) := by decide +kernel
theorem dX12_unfilter_179 : decode cX12_unfilter 179 = .ok (.goto 39, 3) := by decide +kernel
theorem dX12_unfilter_182 : decode cX12_unfilter 182 = .ok (.iload 6, 2) := by decide +kernel
theorem dX12_unfilter_184 : decode cX12_unfilter 184 = .ok (.iconst 2, 1) := by decide +kernel
theorem dX12_unfilter_185 : decode cX12_unfilter 185 = .ok (.if_icmp .ne 8, 3) := by decide +kernel
theorem dX12_unfilter_188 : decode cX12_unfilter 188 = .ok (.iload 9, 2) := by decide +kernel
theorem dX12_unfilter_190 : decode cX12_unfilter 190 = .ok (.goto 28, 3) := by decide +kernel
theorem dX12_unfilter_193 : decode cX12_unfilter 193 = .ok (.iload 6, 2) := by decide +kernel
theorem dX12_unfilter_195 : decode cX12_unfilter 195 = .ok (.iconst 3, 1) := by decide +kernel
theorem dX12_unfilter_196 : decode cX12_unfilter 196 = .ok (.if_icmp .ne 13, 3) := by decide +kernel
theorem dX12_unfilter_199 : decode cX12_unfilter 199 = .ok (.iload 8, 2) := by decide +kernel
theorem dX12_unfilter_201 : decode cX12_unfilter 201 = .ok (.iload 9, 2) := by decide +kernel
theorem dX12_unfilter_203 : decode cX12_unfilter 203 = .ok (.iadd, 1) := by decide +kernel
theorem dX12_unfilter_204 : decode cX12_unfilter 204 = .ok (.iconst 2, 1) := by decide +kernel
theorem dX12_unfilter_205 : decode cX12_unfilter 205 = .ok (.idiv, 1) := by decide +kernel
theorem dX12_unfilter_206 : decode cX12_unfilter 206 = .ok (.goto 12, 3) := by decide +kernel
theorem dX12_unfilter_209 : decode cX12_unfilter 209 = .ok (.iload 8, 2) := by decide +kernel
theorem dX12_unfilter_211 : decode cX12_unfilter 211 = .ok (.iload 9, 2) := by decide +kernel
theorem dX12_unfilter_213 : decode cX12_unfilter 213 = .ok (.iload 10, 2) := by decide +kernel
theorem dX12_unfilter_215 : decode cX12_unfilter 215 = .ok (.invokestatic 130, 3) := by decide +kernel
theorem dX12_unfilter_218 : decode cX12_unfilter 218 = .ok (.istore 11, 2) := by decide +kernel
theorem dX12_unfilter_220 : decode cX12_unfilter 220 = .ok (.aload_n 0, 1) := by decide +kernel
theorem dX12_unfilter_221 : decode cX12_unfilter 221 = .ok (.getfield 39, 3) := by decide +kernel
theorem dX12_unfilter_224 : decode cX12_unfilter 224 = .ok (.iload 4, 2) := by decide +kernel
theorem dX12_unfilter_226 : decode cX12_unfilter 226 = .ok (.iload 5, 2) := by decide +kernel
theorem dX12_unfilter_228 : decode cX12_unfilter 228 = .ok (.imul, 1) := by decide +kernel
theorem dX12_unfilter_229 : decode cX12_unfilter 229 = .ok (.iload 7, 2) := by decide +kernel
theorem dX12_unfilter_231 : decode cX12_unfilter 231 = .ok (.iadd, 1) := by decide +kernel
theorem dX12_unfilter_232 : decode cX12_unfilter 232 = .ok (.aload_n 0, 1) := by decide +kernel
theorem dX12_unfilter_233 : decode cX12_unfilter 233 = .ok (.getfield 39, 3) := by decide +kernel
theorem dX12_unfilter_236 : decode cX12_unfilter 236 = .ok (.iload 4, 2) := by decide +kernel
theorem dX12_unfilter_238 : decode cX12_unfilter 238 = .ok (.iload 5, 2) := by decide +kernel
theorem dX12_unfilter_240 : decode cX12_unfilter 240 = .ok (.imul, 1) := by decide +kernel
theorem dX12_unfilter_241 : decode cX12_unfilter 241 = .ok (.iload 7, 2) := by decide +kernel
theorem dX12_unfilter_243 : decode cX12_unfilter 243 = .ok (.iadd, 1) := by decide +kernel
theorem dX12_unfilter_244 : decode cX12_unfilter 244 = .ok (.baload, 1) := by decide +kernel
theorem dX12_unfilter_245 : decode cX12_unfilter 245 = .ok (.iload 11, 2) := by decide +kernel
theorem dX12_unfilter_247 : decode cX12_unfilter 247 = .ok (.iadd, 1) := by decide +kernel
theorem dX12_unfilter_248 : decode cX12_unfilter 248 = .ok (.i2b, 1) := by decide +kernel
theorem dX12_unfilter_249 : decode cX12_unfilter 249 = .ok (.bastore, 1) := by decide +kernel
theorem dX12_unfilter_250 : decode cX12_unfilter 250 = .ok (.iinc 7 1, 3) := by decide +kernel
theorem dX12_unfilter_253 : decode cX12_unfilter 253 = .ok (.goto (-197), 3) := by decide +kernel
theorem dX12_unfilter_256 : decode cX12_unfilter 256 = .ok (.iinc 5 1, 3) := by decide +kernel
theorem dX12_unfilter_259 : decode cX12_unfilter 259 = .ok (.goto (-236), 3) := by decide +kernel
theorem dX12_unfilter_262 : decode cX12_unfilter 262 = .ok (.iconst 0, 1) := by decide +kernel
theorem dX12_unfilter_263 : decode cX12_unfilter 263 = .ok (.istore 5, 2) := by decide +kernel
theorem dX12_unfilter_265 : decode cX12_unfilter 265 = .ok (.iload 5, 2) := by decide +kernel
theorem dX12_unfilter_267 : decode cX12_unfilter 267 = .ok (.iload_n 1, 1) := by decide +kernel
theorem dX12_unfilter_268 : decode cX12_unfilter 268 = .ok (.iload_n 2, 1) := by decide +kernel
theorem dX12_unfilter_269 : decode cX12_unfilter 269 = .ok (.imul, 1) := by decide +kernel
theorem dX12_unfilter_270 : decode cX12_unfilter 270 = .ok (.if_icmp .ge 98, 3) := by decide +kernel
theorem dX12_unfilter_273 : decode cX12_unfilter 273 = .ok (.iload 4, 2) := by decide +kernel
theorem dX12_unfilter_275 : decode cX12_unfilter 275 = .ok (.iload 5, 2) := by decide +kernel
theorem dX12_unfilter_277 : decode cX12_unfilter 277 = .ok (.iload_n 1, 1) := by decide +kernel
theorem dX12_unfilter_278 : decode cX12_unfilter 278 = .ok (.idiv, 1) := by decide +kernel
theorem dX12_unfilter_279 : decode cX12_unfilter 279 = .ok (.imul, 1) := by decide +kernel
theorem dX12_unfilter_280 : decode cX12_unfilter 280 = .ok (.iconst 1, 1) := by decide +kernel
theorem dX12_unfilter_281 : decode cX12_unfilter 281 = .ok (.iadd, 1) := by decide +kernel
theorem dX12_unfilter_282 : decode cX12_unfilter 282 = .ok (.iconst 4, 1) := by decide +kernel
theorem dX12_unfilter_283 : decode cX12_unfilter 283 = .ok (.iload 5, 2) := by decide +kernel
theorem dX12_unfilter_285 : decode cX12_unfilter 285 = .ok (.iload_n 1, 1) := by decide +kernel
theorem dX12_unfilter_286 : decode cX12_unfilter 286 = .ok (.irem, 1) := by decide +kernel
theorem dX12_unfilter_287 : decode cX12_unfilter 287 = .ok (.imul, 1) := by decide +kernel
theorem dX12_unfilter_288 : decode cX12_unfilter 288 = .ok (.iadd, 1) := by decide +kernel
theorem dX12_unfilter_289 : decode cX12_unfilter 289 = .ok (.istore 6, 2) := by decide +kernel
theorem dX12_unfilter_291 : decode cX12_unfilter 291 = .ok (.aload_n 0, 1) := by decide +kernel
theorem dX12_unfilter_292 : decode cX12_unfilter 292 = .ok (.getfield 24, 3) := by decide +kernel
theorem dX12_unfilter_295 : decode cX12_unfilter 295 = .ok (.iload_n 3, 1) := by decide +kernel
theorem dX12_unfilter_296 : decode cX12_unfilter 296 = .ok (.iload 5, 2) := by decide +kernel
theorem dX12_unfilter_298 : decode cX12_unfilter 298 = .ok (.iadd, 1) := by decide +kernel
theorem dX12_unfilter_299 : decode cX12_unfilter 299 = .ok (.aload_n 0, 1) := by decide +kernel
theorem dX12_unfilter_300 : decode cX12_unfilter 300 = .ok (.getfield 39, 3) := by decide +kernel
theorem dX12_unfilter_303 : decode cX12_unfilter 303 = .ok (.iload 6, 2) := by decide +kernel
theorem dX12_unfilter_305 : decode cX12_unfilter 305 = .ok (.baload, 1) := by decide +kernel
theorem dX12_unfilter_306 : decode cX12_unfilter 306 = .ok (.sipush 255, 3) := by decide +kernel
theorem dX12_unfilter_309 : decode cX12_unfilter 309 = .ok (.iand, 1) := by decide +kernel
theorem dX12_unfilter_310 : decode cX12_unfilter 310 = .ok (.bipush 24, 2) := by decide +kernel
theorem dX12_unfilter_312 : decode cX12_unfilter 312 = .ok (.ishl, 1) := by decide +kernel
theorem dX12_unfilter_313 : decode cX12_unfilter 313 = .ok (.aload_n 0, 1) := by decide +kernel
theorem dX12_unfilter_314 : decode cX12_unfilter 314 = .ok (.getfield 39, 3) := by decide +kernel
theorem dX12_unfilter_317 : decode cX12_unfilter 317 = .ok (.iload 6, 2) := by decide +kernel
theorem dX12_unfilter_319 : decode cX12_unfilter 319 = .ok (.iconst 1, 1) := by decide +kernel
theorem dX12_unfilter_320 : decode cX12_unfilter 320 = .ok (.iadd, 1) := by decide +kernel
theorem dX12_unfilter_321 : decode cX12_unfilter 321 = .ok (.baload, 1) := by decide +kernel
theorem dX12_unfilter_322 : decode cX12_unfilter 322 = .ok (.sipush 255, 3) := by decide +kernel
theorem dX12_unfilter_325 : decode cX12_unfilter 325 = .ok (.iand, 1) := by decide +kernel
theorem dX12_unfilter_326 : decode cX12_unfilter 326 = .ok (.bipush 16, 2) := by decide +kernel
theorem dX12_unfilter_328 : decode cX12_unfilter 328 = .ok (.ishl, 1) := by decide +kernel
theorem dX12_unfilter_329 : decode cX12_unfilter 329 = .ok (.ior, 1) := by decide +kernel
theorem dX12_unfilter_330 : decode cX12_unfilter 330 = .ok (.aload_n 0, 1) := by decide +kernel
theorem dX12_unfilter_331 : decode cX12_unfilter 331 = .ok (.getfield 39, 3) := by decide +kernel
theorem dX12_unfilter_334 : decode cX12_unfilter 334 = .ok (.iload 6, 2) := by decide +kernel
theorem dX12_unfilter_336 : decode cX12_unfilter 336 = .ok (.iconst 2, 1) := by decide +kernel
theorem dX12_unfilter_337 : decode cX12_unfilter 337 = .ok (.iadd, 1) := by decide +kernel
theorem dX12_unfilter_338 : decode cX12_unfilter 338 = .ok (.baload, 1) := by decide +kernel
theorem dX12_unfilter_339 : decode cX12_unfilter 339 = .ok (.sipush 255, 3) := by decide +kernel
theorem dX12_unfilter_342 : decode cX12_unfilter 342 = .ok (.iand, 1) := by decide +kernel
theorem dX12_unfilter_343 : decode cX12_unfilter 343 = .ok (.bipush 8, 2) := by decide +kernel
theorem dX12_unfilter_345 : decode cX12_unfilter 345 = .ok (.ishl, 1) := by decide +kernel
theorem dX12_unfilter_346 : decode cX12_unfilter 346 = .ok (.ior, 1) := by decide +kernel
theorem dX12_unfilter_347 : decode cX12_unfilter 347 = .ok (.aload_n 0, 1) := by decide +kernel
theorem dX12_unfilter_348 : decode cX12_unfilter 348 = .ok (.getfield 39, 3) := by decide +kernel
theorem dX12_unfilter_351 : decode cX12_unfilter 351 = .ok (.iload 6, 2) := by decide +kernel
theorem dX12_unfilter_353 : decode cX12_unfilter 353 = .ok (.iconst 3, 1) := by decide +kernel
theorem dX12_unfilter_354 : decode cX12_unfilter 354 = .ok (.iadd, 1) := by decide +kernel
theorem dX12_unfilter_355 : decode cX12_unfilter 355 = .ok (.baload, 1) := by decide +kernel
theorem dX12_unfilter_356 : decode cX12_unfilter 356 = .ok (.sipush 255, 3) := by decide +kernel
theorem dX12_unfilter_359 : decode cX12_unfilter 359 = .ok (.iand, 1) := by decide +kernel
theorem dX12_unfilter_360 : decode cX12_unfilter 360 = .ok (.ior, 1) := by decide +kernel
theorem dX12_unfilter_361 : decode cX12_unfilter 361 = .ok (.iastore, 1) := by decide +kernel
theorem dX12_unfilter_362 : decode cX12_unfilter 362 = .ok (.iinc 5 1, 3) := by decide +kernel
theorem dX12_unfilter_365 : decode cX12_unfilter 365 = .ok (.goto (-100), 3) := by decide +kernel
theorem dX12_unfilter_368 : decode cX12_unfilter 368 = .ok (.iconst 1, 1) := by decide +kernel
theorem dX12_unfilter_369 : decode cX12_unfilter 369 = .ok (.ireturn, 1) := by decide +kernel
theorem dX12_isType_0 : decode cX12_isType 0 = .ok (.aload_n 0, 1) := by decide +kernel
theorem dX12_isType_1 : decode cX12_isType 1 = .ok (.iload_n 1, 1) := by decide +kernel
theorem dX12_isType_2 : decode cX12_isType 2 = .ok (.invokevirtual 58, 3) := by decide +kernel
theorem dX12_isType_5 : decode cX12_isType 5 = .ok (.iload_n 2, 1) := by decide +kernel
theorem dX12_isType_6 : decode cX12_isType 6 = .ok (.if_icmp .ne 42, 3) := by decide +kernel
theorem dX12_isType_9 : decode cX12_isType 9 = .ok (.aload_n 0, 1) := by decide +kernel
theorem dX12_isType_10 : decode cX12_isType 10 = .ok (.iload_n 1, 1) := by decide +kernel
theorem dX12_isType_11 : decode cX12_isType 11 = .ok (.iconst 1, 1) := by decide +kernel
theorem dX12_isType_12 : decode cX12_isType 12 = .ok (.iadd, 1) := by decide +kernel
theorem dX12_isType_13 : decode cX12_isType 13 = .ok (.invokevirtual 58, 3) := by decide +kernel
theorem dX12_isType_16 : decode cX12_isType 16 = .ok (.iload_n 3, 1) := by decide +kernel
theorem dX12_isType_17 : decode cX12_isType 17 = .ok (.if_icmp .ne 31, 3) := by decide +kernel
theorem dX12_isType_20 : decode cX12_isType 20 = .ok (.aload_n 0, 1) := by decide +kernel
theorem dX12_isType_21 : decode cX12_isType 21 = .ok (.iload_n 1, 1) := by decide +kernel
theorem dX12_isType_22 : decode cX12_isType 22 = .ok (.iconst 2, 1) := by decide +kernel
theorem dX12_isType_23 : decode cX12_isType 23 = .ok (.iadd, 1) := by decide +kernel
theorem dX12_isType_24 : decode cX12_isType 24 = .ok (.invokevirtual 58, 3) := by decide +kernel
theorem dX12_isType_27 : decode cX12_isType 27 = .ok (.iload 4, 2) := by decide +kernel
theorem dX12_isType_29 : decode cX12_isType 29 = .ok (.if_icmp .ne 19, 3) := by decide +kernel
theorem dX12_isType_32 : decode cX12_isType 32 = .ok (.aload_n 0, 1) := by decide +kernel
theorem dX12_isType_33 : decode cX12_isType 33 = .ok (.iload_n 1, 1) := by decide +kernel
theorem dX12_isType_34 : decode cX12_isType 34 = .ok (.iconst 3, 1) := by decide +kernel
theorem dX12_isType_35 : decode cX12_isType 35 = .ok (.iadd, 1) := by decide +kernel
theorem dX12_isType_36 : decode cX12_isType 36 = .ok (.invokevirtual 58, 3) := by decide +kernel
theorem dX12_isType_39 : decode cX12_isType 39 = .ok (.iload 5, 2) := by decide +kernel
theorem dX12_isType_41 : decode cX12_isType 41 = .ok (.if_icmp .ne 7, 3) := by decide +kernel
theorem dX12_isType_44 : decode cX12_isType 44 = .ok (.iconst 1, 1) := by decide +kernel
theorem dX12_isType_45 : decode cX12_isType 45 = .ok (.goto 4, 3) := by decide +kernel
theorem dX12_isType_48 : decode cX12_isType 48 = .ok (.iconst 0, 1) := by decide +kernel
theorem dX12_isType_49 : decode cX12_isType 49 = .ok (.ireturn, 1) := by decide +kernel
theorem dX12_isLetter_0 : decode cX12_isLetter 0 = .ok (.iload_n 0, 1) := by decide +kernel
theorem dX12_isLetter_1 : decode cX12_isLetter 1 = .ok (.bipush 65, 2) := by decide +kernel
theorem dX12_isLetter_3 : decode cX12_isLetter 3 = .ok (.if_icmp .lt 9, 3) := by decide +kernel
theorem dX12_isLetter_6 : decode cX12_isLetter 6 = .ok (.iload_n 0, 1) := by decide +kernel
theorem dX12_isLetter_7 : decode cX12_isLetter 7 = .ok (.bipush 90, 2) := by decide +kernel
theorem dX12_isLetter_9 : decode cX12_isLetter 9 = .ok (.if_icmp .le 15, 3) := by decide +kernel
theorem dX12_isLetter_12 : decode cX12_isLetter 12 = .ok (.iload_n 0, 1) := by decide +kernel
theorem dX12_isLetter_13 : decode cX12_isLetter 13 = .ok (.bipush 97, 2) := by decide +kernel
theorem dX12_isLetter_15 : decode cX12_isLetter 15 = .ok (.if_icmp .lt 13, 3) := by decide +kernel
theorem dX12_isLetter_18 : decode cX12_isLetter 18 = .ok (.iload_n 0, 1) := by decide +kernel
theorem dX12_isLetter_19 : decode cX12_isLetter 19 = .ok (.bipush 122, 2) := by decide +kernel
theorem dX12_isLetter_21 : decode cX12_isLetter 21 = .ok (.if_icmp .gt 7, 3) := by decide +kernel
theorem dX12_isLetter_24 : decode cX12_isLetter 24 = .ok (.iconst 1, 1) := by decide +kernel
theorem dX12_isLetter_25 : decode cX12_isLetter 25 = .ok (.goto 4, 3) := by decide +kernel
theorem dX12_isLetter_28 : decode cX12_isLetter 28 = .ok (.iconst 0, 1) := by decide +kernel
theorem dX12_isLetter_29 : decode cX12_isLetter 29 = .ok (.ireturn, 1) := by decide +kernel
theorem dX12_append_0 : decode cX12_append 0 = .ok (.iload_n 1, 1) := by decide +kernel
theorem dX12_append_1 : decode cX12_append 1 = .ok (.istore_n 3, 1) := by decide +kernel
theorem dX12_append_2 : decode cX12_append 2 = .ok (.iload_n 3, 1) := by decide +kernel
theorem dX12_append_3 : decode cX12_append 3 = .ok (.iload_n 2, 1) := by decide +kernel
theorem dX12_append_4 : decode cX12_append 4 = .ok (.if_icmp .ge 34, 3) := by decide +kernel
theorem dX12_append_7 : decode cX12_append 7 = .ok (.aload_n 0, 1) := by decide +kernel
theorem dX12_append_8 : decode cX12_append 8 = .ok (.getfield 36, 3) := by decide +kernel
theorem dX12_append_11 : decode cX12_append 11 = .ok (.aload_n 0, 1) := by decide +kernel
theorem dX12_append_12 : decode cX12_append 12 = .ok (.getfield 66, 3) := by decide +kernel
theorem dX12_append_15 : decode cX12_append 15 = .ok (.aload_n 0, 1) := by decide +kernel
theorem dX12_append_16 : decode cX12_append 16 = .ok (.getfield 7, 3) := by decide +kernel
theorem dX12_append_19 : decode cX12_append 19 = .ok (.iload_n 3, 1) := by decide +kernel
theorem dX12_append_20 : decode cX12_append 20 = .ok (.baload, 1) := by decide +kernel
theorem dX12_append_21 : decode cX12_append 21 = .ok (.bastore, 1) := by decide +kernel
theorem dX12_append_22 : decode cX12_append 22 = .ok (.aload_n 0, 1) := by decide +kernel
theorem dX12_append_23 : decode cX12_append 23 = .ok (.dup, 1) := by decide +kernel
theorem dX12_append_24 : decode cX12_append 24 = .ok (.getfield 66, 3) := by decide +kernel
theorem dX12_append_27 : decode cX12_append 27 = .ok (.iconst 1, 1) := by decide +kernel
theorem dX12_append_28 : decode cX12_append 28 = .ok (.iadd, 1) := by decide +kernel
theorem dX12_append_29 : decode cX12_append 29 = .ok (.putfield 66, 3) := by decide +kernel
theorem dX12_append_32 : decode cX12_append 32 = .ok (.iinc 3 1, 3) := by decide +kernel
theorem dX12_append_35 : decode cX12_append 35 = .ok (.goto (-33), 3) := by decide +kernel
theorem dX12_append_38 : decode cX12_append 38 = .ok (.return_, 1) := by decide +kernel
theorem dX12_region_0 : decode cX12_region 0 = .ok (.aload_n 0, 1) := by decide +kernel
theorem dX12_region_1 : decode cX12_region 1 = .ok (.getfield 21, 3) := by decide +kernel
theorem dX12_region_4 : decode cX12_region 4 = .ok (.bipush 48, 2) := by decide +kernel
theorem dX12_region_6 : decode cX12_region 6 = .ok (.iload_n 1, 1) := by decide +kernel
theorem dX12_region_7 : decode cX12_region 7 = .ok (.imul, 1) := by decide +kernel
theorem dX12_region_8 : decode cX12_region 8 = .ok (.bipush 6, 2) := by decide +kernel
theorem dX12_region_10 : decode cX12_region 10 = .ok (.iload_n 2, 1) := by decide +kernel
theorem dX12_region_11 : decode cX12_region 11 = .ok (.imul, 1) := by decide +kernel
theorem dX12_region_12 : decode cX12_region 12 = .ok (.iadd, 1) := by decide +kernel
theorem dX12_region_13 : decode cX12_region 13 = .ok (.iload_n 3, 1) := by decide +kernel
theorem dX12_region_14 : decode cX12_region 14 = .ok (.iadd, 1) := by decide +kernel
theorem dX12_region_15 : decode cX12_region 15 = .ok (.iaload, 1) := by decide +kernel
theorem dX12_region_16 : decode cX12_region 16 = .ok (.ireturn, 1) := by decide +kernel
theorem dX12_takeHead_0 : decode cX12_takeHead 0 = .ok (.iload_n 2, 1) := by decide +kernel
theorem dX12_takeHead_1 : decode cX12_takeHead 1 = .ok (.bipush 13, 2) := by decide +kernel
theorem dX12_takeHead_3 : decode cX12_takeHead 3 = .ok (.if_icmp .ne 11, 3) := by decide +kernel
theorem dX12_takeHead_6 : decode cX12_takeHead 6 = .ok (.aload_n 0, 1) := by decide +kernel
theorem dX12_takeHead_7 : decode cX12_takeHead 7 = .ok (.iload_n 1, 1) := by decide +kernel
theorem dX12_takeHead_8 : decode cX12_takeHead 8 = .ok (.invokevirtual 134, 3) := by decide +kernel
theorem dX12_takeHead_11 : decode cX12_takeHead 11 = .ok (.goto 4, 3) := by decide +kernel
theorem dX12_takeHead_14 : decode cX12_takeHead 14 = .ok (.iconst 0, 1) := by decide +kernel
theorem dX12_takeHead_15 : decode cX12_takeHead 15 = .ok (.istore_n 3, 1) := by decide +kernel
theorem dX12_takeHead_16 : decode cX12_takeHead 16 = .ok (.iload_n 2, 1) := by decide +kernel
theorem dX12_takeHead_17 : decode cX12_takeHead 17 = .ok (.bipush 13, 2) := by decide +kernel
theorem dX12_takeHead_19 : decode cX12_takeHead 19 = .ok (.if_icmp .ne 13, 3) := by decide +kernel
theorem dX12_takeHead_22 : decode cX12_takeHead 22 = .ok (.aload_n 0, 1) := by decide +kernel
theorem dX12_takeHead_23 : decode cX12_takeHead 23 = .ok (.iload_n 1, 1) := by decide +kernel
theorem dX12_takeHead_24 : decode cX12_takeHead 24 = .ok (.iconst 4, 1) := by decide +kernel
theorem dX12_takeHead_25 : decode cX12_takeHead 25 = .ok (.iadd, 1) := by decide +kernel
theorem dX12_takeHead_26 : decode cX12_takeHead 26 = .ok (.invokevirtual 134, 3) := by decide +kernel
theorem dX12_takeHead_29 : decode cX12_takeHead 29 = .ok (.goto 4, 3) := by decide +kernel
theorem dX12_takeHead_32 : decode cX12_takeHead 32 = .ok (.iconst 0, 1) := by decide +kernel
theorem dX12_takeHead_33 : decode cX12_takeHead 33 = .ok (.istore 4, 2) := by decide +kernel
theorem dX12_takeHead_35 : decode cX12_takeHead 35 = .ok (.iload_n 3, 1) := by decide +kernel
theorem dX12_takeHead_36 : decode cX12_takeHead 36 = .ok (.iconst 1, 1) := by decide +kernel
theorem dX12_takeHead_37 : decode cX12_takeHead 37 = .ok (.if_icmp .lt 81, 3) := by decide +kernel
theorem dX12_takeHead_40 : decode cX12_takeHead 40 = .ok (.iload_n 3, 1) := by decide +kernel
theorem dX12_takeHead_41 : decode cX12_takeHead 41 = .ok (.bipush 16, 2) := by decide +kernel
theorem dX12_takeHead_43 : decode cX12_takeHead 43 = .ok (.if_icmp .gt 75, 3) := by decide +kernel
theorem dX12_takeHead_46 : decode cX12_takeHead 46 = .ok (.iload 4, 2) := by decide +kernel
theorem dX12_takeHead_48 : decode cX12_takeHead 48 = .ok (.iconst 1, 1) := by decide +kernel
theorem dX12_takeHead_49 : decode cX12_takeHead 49 = .ok (.if_icmp .lt 69, 3) := by decide +kernel
theorem dX12_takeHead_52 : decode cX12_takeHead 52 = .ok (.iload 4, 2) := by decide +kernel
theorem dX12_takeHead_54 : decode cX12_takeHead 54 = .ok (.bipush 16, 2) := by decide +kernel
theorem dX12_takeHead_56 : decode cX12_takeHead 56 = .ok (.if_icmp .gt 62, 3) := by decide +kernel
theorem dX12_takeHead_59 : decode cX12_takeHead 59 = .ok (.aload_n 0, 1) := by decide +kernel
theorem dX12_takeHead_60 : decode cX12_takeHead 60 = .ok (.iload_n 1, 1) := by decide +kernel
theorem dX12_takeHead_61 : decode cX12_takeHead 61 = .ok (.bipush 8, 2) := by decide +kernel
theorem dX12_takeHead_63 : decode cX12_takeHead 63 = .ok (.iadd, 1) := by decide +kernel
theorem dX12_takeHead_64 : decode cX12_takeHead 64 = .ok (.invokevirtual 58, 3) := by decide +kernel
theorem dX12_takeHead_67 : decode cX12_takeHead 67 = .ok (.bipush 8, 2) := by decide +kernel
theorem dX12_takeHead_69 : decode cX12_takeHead 69 = .ok (.if_icmp .ne 49, 3) := by decide +kernel
theorem dX12_takeHead_72 : decode cX12_takeHead 72 = .ok (.aload_n 0, 1) := by decide +kernel
theorem dX12_takeHead_73 : decode cX12_takeHead 73 = .ok (.iload_n 1, 1) := by decide +kernel
theorem dX12_takeHead_74 : decode cX12_takeHead 74 = .ok (.bipush 9, 2) := by decide +kernel
theorem dX12_takeHead_76 : decode cX12_takeHead 76 = .ok (.iadd, 1) := by decide +kernel
theorem dX12_takeHead_77 : decode cX12_takeHead 77 = .ok (.invokevirtual 58, 3) := by decide +kernel
theorem dX12_takeHead_80 : decode cX12_takeHead 80 = .ok (.bipush 6, 2) := by decide +kernel
theorem dX12_takeHead_82 : decode cX12_takeHead 82 = .ok (.if_icmp .ne 36, 3) := by decide +kernel
theorem dX12_takeHead_85 : decode cX12_takeHead 85 = .ok (.aload_n 0, 1) := by decide +kernel
theorem dX12_takeHead_86 : decode cX12_takeHead 86 = .ok (.iload_n 1, 1) := by decide +kernel
theorem dX12_takeHead_87 : decode cX12_takeHead 87 = .ok (.bipush 10, 2) := by decide +kernel
theorem dX12_takeHead_89 : decode cX12_takeHead 89 = .ok (.iadd, 1) := by decide +kernel
theorem dX12_takeHead_90 : decode cX12_takeHead 90 = .ok (.invokevirtual 58, 3) := by decide +kernel
theorem dX12_takeHead_93 : decode cX12_takeHead 93 = .ok (.ifCond .ne 25, 3) := by decide +kernel
theorem dX12_takeHead_96 : decode cX12_takeHead 96 = .ok (.aload_n 0, 1) := by decide +kernel
theorem dX12_takeHead_97 : decode cX12_takeHead 97 = .ok (.iload_n 1, 1) := by decide +kernel
theorem dX12_takeHead_98 : decode cX12_takeHead 98 = .ok (.bipush 11, 2) := by decide +kernel
theorem dX12_takeHead_100 : decode cX12_takeHead 100 = .ok (.iadd, 1) := by decide +kernel
theorem dX12_takeHead_101 : decode cX12_takeHead 101 = .ok (.invokevirtual 58, 3) := by decide +kernel
theorem dX12_takeHead_104 : decode cX12_takeHead 104 = .ok (.ifCond .ne 14, 3) := by decide +kernel
theorem dX12_takeHead_107 : decode cX12_takeHead 107 = .ok (.aload_n 0, 1) := by decide +kernel
theorem dX12_takeHead_108 : decode cX12_takeHead 108 = .ok (.iload_n 1, 1) := by decide +kernel
theorem dX12_takeHead_109 : decode cX12_takeHead 109 = .ok (.bipush 12, 2) := by decide +kernel
theorem dX12_takeHead_111 : decode cX12_takeHead 111 = .ok (.iadd, 1) := by decide +kernel
theorem dX12_takeHead_112 : decode cX12_takeHead 112 = .ok (.invokevirtual 58, 3) := by decide +kernel
theorem dX12_takeHead_115 : decode cX12_takeHead 115 = .ok (.ifCond .eq 5, 3) := by decide +kernel
theorem dX12_takeHead_118 : decode cX12_takeHead 118 = .ok (.iconst 0, 1) := by decide +kernel
theorem dX12_takeHead_119 : decode cX12_takeHead 119 = .ok (.ireturn, 1) := by decide +kernel
theorem dX12_takeHead_120 : decode cX12_takeHead 120 = .ok (.aload_n 0, 1) := by decide +kernel
theorem dX12_takeHead_121 : decode cX12_takeHead 121 = .ok (.getfield 17, 3) := by decide +kernel
theorem dX12_takeHead_124 : decode cX12_takeHead 124 = .ok (.bipush 6, 2) := by decide +kernel
theorem dX12_takeHead_126 : decode cX12_takeHead 126 = .ok (.iconst 1, 1) := by decide +kernel
theorem dX12_takeHead_127 : decode cX12_takeHead 127 = .ok (.iastore, 1) := by decide +kernel
theorem dX12_takeHead_128 : decode cX12_takeHead 128 = .ok (.aload_n 0, 1) := by decide +kernel
theorem dX12_takeHead_129 : decode cX12_takeHead 129 = .ok (.getfield 17, 3) := by decide +kernel
theorem dX12_takeHead_132 : decode cX12_takeHead 132 = .ok (.bipush 7, 2) := by decide +kernel
theorem dX12_takeHead_134 : decode cX12_takeHead 134 = .ok (.iload_n 3, 1) := by decide +kernel
theorem dX12_takeHead_135 : decode cX12_takeHead 135 = .ok (.iastore, 1) := by decide +kernel
theorem dX12_takeHead_136 : decode cX12_takeHead 136 = .ok (.aload_n 0, 1) := by decide +kernel
theorem dX12_takeHead_137 : decode cX12_takeHead 137 = .ok (.getfield 17, 3) := by decide +kernel
theorem dX12_takeHead_140 : decode cX12_takeHead 140 = .ok (.bipush 8, 2) := by decide +kernel
theorem dX12_takeHead_142 : decode cX12_takeHead 142 = .ok (.iload 4, 2) := by decide +kernel
theorem dX12_takeHead_144 : decode cX12_takeHead 144 = .ok (.iastore, 1) := by decide +kernel
theorem dX12_takeHead_145 : decode cX12_takeHead 145 = .ok (.aload_n 0, 1) := by decide +kernel
theorem dX12_takeHead_146 : decode cX12_takeHead 146 = .ok (.getfield 17, 3) := by decide +kernel
theorem dX12_takeHead_149 : decode cX12_takeHead 149 = .ok (.bipush 9, 2) := by decide +kernel
theorem dX12_takeHead_151 : decode cX12_takeHead 151 = .ok (.iconst 0, 1) := by decide +kernel
theorem dX12_takeHead_152 : decode cX12_takeHead 152 = .ok (.iastore, 1) := by decide +kernel
theorem dX12_takeHead_153 : decode cX12_takeHead 153 = .ok (.aload_n 0, 1) := by decide +kernel
theorem dX12_takeHead_154 : decode cX12_takeHead 154 = .ok (.getfield 17, 3) := by decide +kernel
theorem dX12_takeHead_157 : decode cX12_takeHead 157 = .ok (.bipush 10, 2) := by decide +kernel
theorem dX12_takeHead_159 : decode cX12_takeHead 159 = .ok (.iconst 0, 1) := by decide +kernel
theorem dX12_takeHead_160 : decode cX12_takeHead 160 = .ok (.iastore, 1) := by decide +kernel
theorem dX12_takeHead_161 : decode cX12_takeHead 161 = .ok (.aload_n 0, 1) := by decide +kernel
theorem dX12_takeHead_162 : decode cX12_takeHead 162 = .ok (.getfield 17, 3) := by decide +kernel
theorem dX12_takeHead_165 : decode cX12_takeHead 165 = .ok (.bipush 11, 2) := by decide +kernel
theorem dX12_takeHead_167 : decode cX12_takeHead 167 = .ok (.iconst 0, 1) := by decide +kernel
theorem dX12_takeHead_168 : decode cX12_takeHead 168 = .ok (.iastore, 1) := by decide +kernel
theorem dX12_takeHead_169 : decode cX12_takeHead 169 = .ok (.iconst 1, 1) := by decide +kernel
theorem dX12_takeHead_170 : decode cX12_takeHead 170 = .ok (.ireturn, 1) := by decide +kernel
theorem dX12_takeCount_0 : decode cX12_takeCount 0 = .ok (.aload_n 0, 1) := by decide +kernel
theorem dX12_takeCount_1 : decode cX12_takeCount 1 = .ok (.getfield 137, 3) := by decide +kernel
theorem dX12_takeCount_4 : decode cX12_takeCount 4 = .ok (.ifCond .ne 35, 3) := by decide +kernel
theorem dX12_takeCount_7 : decode cX12_takeCount 7 = .ok (.aload_n 0, 1) := by decide +kernel
theorem dX12_takeCount_8 : decode cX12_takeCount 8 = .ok (.getfield 140, 3) := by decide +kernel
theorem dX12_takeCount_11 : decode cX12_takeCount 11 = .ok (.ifCond .ne 28, 3) := by decide +kernel
theorem dX12_takeCount_14 : decode cX12_takeCount 14 = .ok (.iload_n 2, 1) := by decide +kernel
theorem dX12_takeCount_15 : decode cX12_takeCount 15 = .ok (.bipush 8, 2) := by decide +kernel
theorem dX12_takeCount_17 : decode cX12_takeCount 17 = .ok (.if_icmp .ne 22, 3) := by decide +kernel
theorem dX12_takeCount_20 : decode cX12_takeCount 20 = .ok (.aload_n 0, 1) := by decide +kernel
theorem dX12_takeCount_21 : decode cX12_takeCount 21 = .ok (.iload_n 1, 1) := by decide +kernel
theorem dX12_takeCount_22 : decode cX12_takeCount 22 = .ok (.invokevirtual 134, 3) := by decide +kernel
theorem dX12_takeCount_25 : decode cX12_takeCount 25 = .ok (.iconst 1, 1) := by decide +kernel
theorem dX12_takeCount_26 : decode cX12_takeCount 26 = .ok (.if_icmp .lt 13, 3) := by decide +kernel
theorem dX12_takeCount_29 : decode cX12_takeCount 29 = .ok (.aload_n 0, 1) := by decide +kernel
theorem dX12_takeCount_30 : decode cX12_takeCount 30 = .ok (.iload_n 1, 1) := by decide +kernel
theorem dX12_takeCount_31 : decode cX12_takeCount 31 = .ok (.invokevirtual 134, 3) := by decide +kernel
theorem dX12_takeCount_34 : decode cX12_takeCount 34 = .ok (.bipush 8, 2) := by decide +kernel
theorem dX12_takeCount_36 : decode cX12_takeCount 36 = .ok (.if_icmp .le 5, 3) := by decide +kernel
theorem dX12_takeCount_39 : decode cX12_takeCount 39 = .ok (.iconst 0, 1) := by decide +kernel
theorem dX12_takeCount_40 : decode cX12_takeCount 40 = .ok (.ireturn, 1) := by decide +kernel
theorem dX12_takeCount_41 : decode cX12_takeCount 41 = .ok (.aload_n 0, 1) := by decide +kernel
theorem dX12_takeCount_42 : decode cX12_takeCount 42 = .ok (.iconst 1, 1) := by decide +kernel
theorem dX12_takeCount_43 : decode cX12_takeCount 43 = .ok (.putfield 137, 3) := by decide +kernel
theorem dX12_takeCount_46 : decode cX12_takeCount 46 = .ok (.aload_n 0, 1) := by decide +kernel
theorem dX12_takeCount_47 : decode cX12_takeCount 47 = .ok (.aload_n 0, 1) := by decide +kernel
theorem dX12_takeCount_48 : decode cX12_takeCount 48 = .ok (.iload_n 1, 1) := by decide +kernel
theorem dX12_takeCount_49 : decode cX12_takeCount 49 = .ok (.invokevirtual 134, 3) := by decide +kernel
theorem dX12_takeCount_52 : decode cX12_takeCount 52 = .ok (.putfield 143, 3) := by decide +kernel
theorem dX12_takeCount_55 : decode cX12_takeCount 55 = .ok (.aload_n 0, 1) := by decide +kernel
theorem dX12_takeCount_56 : decode cX12_takeCount 56 = .ok (.getfield 17, 3) := by decide +kernel
theorem dX12_takeCount_59 : decode cX12_takeCount 59 = .ok (.bipush 9, 2) := by decide +kernel
theorem dX12_takeCount_61 : decode cX12_takeCount 61 = .ok (.aload_n 0, 1) := by decide +kernel
theorem dX12_takeCount_62 : decode cX12_takeCount 62 = .ok (.iload_n 1, 1) := by decide +kernel
theorem dX12_takeCount_63 : decode cX12_takeCount 63 = .ok (.iconst 4, 1) := by decide +kernel
theorem dX12_takeCount_64 : decode cX12_takeCount 64 = .ok (.iadd, 1) := by decide +kernel
theorem dX12_takeCount_65 : decode cX12_takeCount 65 = .ok (.invokevirtual 134, 3) := by decide +kernel
theorem dX12_takeCount_68 : decode cX12_takeCount 68 = .ok (.iastore, 1) := by decide +kernel
theorem dX12_takeCount_69 : decode cX12_takeCount 69 = .ok (.iconst 1, 1) := by decide +kernel
theorem dX12_takeCount_70 : decode cX12_takeCount 70 = .ok (.ireturn, 1) := by decide +kernel
theorem dX12_takeControl_0 : decode cX12_takeControl 0 = .ok (.iload_n 2, 1) := by decide +kernel
theorem dX12_takeControl_1 : decode cX12_takeControl 1 = .ok (.bipush 26, 2) := by decide +kernel
theorem dX12_takeControl_3 : decode cX12_takeControl 3 = .ok (.if_icmp .ne 47, 3) := by decide +kernel
theorem dX12_takeControl_6 : decode cX12_takeControl 6 = .ok (.aload_n 0, 1) := by decide +kernel
theorem dX12_takeControl_7 : decode cX12_takeControl 7 = .ok (.getfield 137, 3) := by decide +kernel
theorem dX12_takeControl_10 : decode cX12_takeControl 10 = .ok (.ifCond .eq 40, 3) := by decide +kernel
theorem dX12_takeControl_13 : decode cX12_takeControl 13 = .ok (.aload_n 0, 1) := by decide +kernel
theorem dX12_takeControl_14 : decode cX12_takeControl 14 = .ok (.getfield 146, 3) := by decide +kernel
theorem dX12_takeControl_17 : decode cX12_takeControl 17 = .ok (.aload_n 0, 1) := by decide +kernel
theorem dX12_takeControl_18 : decode cX12_takeControl 18 = .ok (.getfield 143, 3) := by decide +kernel
theorem dX12_takeControl_21 : decode cX12_takeControl 21 = .ok (.if_icmp .eq 29, 3) := by decide +kernel
theorem dX12_takeControl_24 : decode cX12_takeControl 24 = .ok (.aload_n 0, 1) := by decide +kernel
theorem dX12_takeControl_25 : decode cX12_takeControl 25 = .ok (.getfield 140, 3) := by decide +kernel
theorem dX12_takeControl_28 : decode cX12_takeControl 28 = .ok (.ifCond .ne 10, 3) := by decide +kernel
theorem dX12_takeControl_31 : decode cX12_takeControl 31 = .ok (.aload_n 0, 1) := by decide +kernel
theorem dX12_takeControl_32 : decode cX12_takeControl 32 = .ok (.getfield 146, 3) := by decide +kernel
theorem dX12_takeControl_35 : decode cX12_takeControl 35 = .ok (.ifCond .gt 15, 3) := by decide +kernel
theorem dX12_takeControl_38 : decode cX12_takeControl 38 = .ok (.aload_n 0, 1) := by decide +kernel
theorem dX12_takeControl_39 : decode cX12_takeControl 39 = .ok (.iload_n 1, 1) := by decide +kernel
theorem dX12_takeControl_40 : decode cX12_takeControl 40 = .ok (.invokevirtual 134, 3) := by decide +kernel
theorem dX12_takeControl_43 : decode cX12_takeControl 43 = .ok (.aload_n 0, 1) := by decide +kernel
theorem dX12_takeControl_44 : decode cX12_takeControl 44 = .ok (.getfield 149, 3) := by decide +kernel
theorem dX12_takeControl_47 : decode cX12_takeControl 47 = .ok (.if_icmp .eq 5, 3) := by decide +kernel
theorem dX12_takeControl_50 : decode cX12_takeControl 50 = .ok (.iconst 0, 1) := by decide +kernel
theorem dX12_takeControl_51 : decode cX12_takeControl 51 = .ok (.ireturn, 1) := by decide +kernel
theorem dX12_takeControl_52 : decode cX12_takeControl 52 = .ok (.aload_n 0, 1) := by decide +kernel
theorem dX12_takeControl_53 : decode cX12_takeControl 53 = .ok (.iload_n 1, 1) := by decide +kernel
theorem dX12_takeControl_54 : decode cX12_takeControl 54 = .ok (.iconst 4, 1) := by decide +kernel
theorem dX12_takeControl_55 : decode cX12_takeControl 55 = .ok (.iadd, 1) := by decide +kernel
theorem dX12_takeControl_56 : decode cX12_takeControl 56 = .ok (.invokevirtual 134, 3) := by decide +kernel
theorem dX12_takeControl_59 : decode cX12_takeControl 59 = .ok (.istore_n 3, 1) := by decide +kernel
theorem dX12_takeControl_60 : decode cX12_takeControl 60 = .ok (.aload_n 0, 1) := by decide +kernel
theorem dX12_takeControl_61 : decode cX12_takeControl 61 = .ok (.iload_n 1, 1) := by decide +kernel
theorem dX12_takeControl_62 : decode cX12_takeControl 62 = .ok (.bipush 8, 2) := by decide +kernel
theorem dX12_takeControl_64 : decode cX12_takeControl 64 = .ok (.iadd, 1) := by decide +kernel
theorem dX12_takeControl_65 : decode cX12_takeControl 65 = .ok (.invokevirtual 134, 3) := by decide +kernel
theorem dX12_takeControl_68 : decode cX12_takeControl 68 = .ok (.istore 4, 2) := by decide +kernel
theorem dX12_takeControl_70 : decode cX12_takeControl 70 = .ok (.aload_n 0, 1) := by decide +kernel
theorem dX12_takeControl_71 : decode cX12_takeControl 71 = .ok (.iload_n 1, 1) := by decide +kernel
theorem dX12_takeControl_72 : decode cX12_takeControl 72 = .ok (.bipush 12, 2) := by decide +kernel
theorem dX12_takeControl_74 : decode cX12_takeControl 74 = .ok (.iadd, 1) := by decide +kernel
theorem dX12_takeControl_75 : decode cX12_takeControl 75 = .ok (.invokevirtual 134, 3) := by decide +kernel
theorem dX12_takeControl_78 : decode cX12_takeControl 78 = .ok (.istore 5, 2) := by decide +kernel
theorem dX12_takeControl_80 : decode cX12_takeControl 80 = .ok (.aload_n 0, 1) := by decide +kernel
theorem dX12_takeControl_81 : decode cX12_takeControl 81 = .ok (.iload_n 1, 1) := by decide +kernel
theorem dX12_takeControl_82 : decode cX12_takeControl 82 = .ok (.bipush 16, 2) := by decide +kernel
theorem dX12_takeControl_84 : decode cX12_takeControl 84 = .ok (.iadd, 1) := by decide +kernel
theorem dX12_takeControl_85 : decode cX12_takeControl 85 = .ok (.invokevirtual 134, 3) := by decide +kernel
theorem dX12_takeControl_88 : decode cX12_takeControl 88 = .ok (.istore 6, 2) := by decide +kernel
theorem dX12_takeControl_90 : decode cX12_takeControl 90 = .ok (.aload_n 0, 1) := by decide +kernel
theorem dX12_takeControl_91 : decode cX12_takeControl 91 = .ok (.iload_n 1, 1) := by decide +kernel
theorem dX12_takeControl_92 : decode cX12_takeControl 92 = .ok (.bipush 24, 2) := by decide +kernel
theorem dX12_takeControl_94 : decode cX12_takeControl 94 = .ok (.iadd, 1) := by decide +kernel
theorem dX12_takeControl_95 : decode cX12_takeControl 95 = .ok (.invokevirtual 58, 3) := by decide +kernel
theorem dX12_takeControl_98 : decode cX12_takeControl 98 = .ok (.istore 7, 2) := by decide +kernel
theorem dX12_takeControl_100 : decode cX12_takeControl 100 = .ok (.aload_n 0, 1) := by decide +kernel
theorem dX12_takeControl_101 : decode cX12_takeControl 101 = .ok (.iload_n 1, 1) := by decide +kernel
theorem dX12_takeControl_102 : decode cX12_takeControl 102 = .ok (.bipush 25, 2) := by decide +kernel
theorem dX12_takeControl_104 : decode cX12_takeControl 104 = .ok (.iadd, 1) := by decide +kernel
theorem dX12_takeControl_105 : decode cX12_takeControl 105 = .ok (.invokevirtual 58, 3) := by decide +kernel
theorem dX12_takeControl_108 : decode cX12_takeControl 108 = .ok (.istore 8, 2) := by decide +kernel
theorem dX12_takeControl_110 : decode cX12_takeControl 110 = .ok (.aload_n 0, 1) := by decide +kernel
theorem dX12_takeControl_111 : decode cX12_takeControl 111 = .ok (.iconst 1, 1) := by decide +kernel
theorem dX12_takeControl_112 : decode cX12_takeControl 112 = .ok (.iload_n 3, 1) := by decide +kernel
theorem dX12_takeControl_113 : decode cX12_takeControl 113 = .ok (.iload 4, 2) := by decide +kernel
theorem dX12_takeControl_115 : decode cX12_takeControl 115 = .ok (.iload 5, 2) := by decide +kernel
theorem dX12_takeControl_117 : decode cX12_takeControl 117 = .ok (.iload 6, 2) := by decide +kernel
theorem dX12_takeControl_119 : decode cX12_takeControl 119 = .ok (.invokevirtual 152, 3) := by decide +kernel
theorem dX12_takeControl_122 : decode cX12_takeControl 122 = .ok (.ifCond .eq 45, 3) := by decide +kernel
theorem dX12_takeControl_125 : decode cX12_takeControl 125 = .ok (.iload 7, 2) := by decide +kernel
theorem dX12_takeControl_127 : decode cX12_takeControl 127 = .ok (.iconst 2, 1) := by decide +kernel
theorem dX12_takeControl_128 : decode cX12_takeControl 128 = .ok (.if_icmp .gt 39, 3) := by decide +kernel
theorem dX12_takeControl_131 : decode cX12_takeControl 131 = .ok (.iload 8, 2) := by decide +kernel
theorem dX12_takeControl_133 : decode cX12_takeControl 133 = .ok (.iconst 1, 1) := by decide +kernel
theorem dX12_takeControl_134 : decode cX12_takeControl 134 = .ok (.if_icmp .gt 33, 3) := by decide +kernel
theorem dX12_takeControl_137 : decode cX12_takeControl 137 = .ok (.aload_n 0, 1) := by decide +kernel
theorem dX12_takeControl_138 : decode cX12_takeControl 138 = .ok (.getfield 140, 3) := by decide +kernel
theorem dX12_takeControl_141 : decode cX12_takeControl 141 = .ok (.ifCond .ne 28, 3) := by decide +kernel
theorem dX12_takeControl_144 : decode cX12_takeControl 144 = .ok (.iload_n 3, 1) := by decide +kernel
theorem dX12_takeControl_145 : decode cX12_takeControl 145 = .ok (.aload_n 0, 1) := by decide +kernel
theorem dX12_takeControl_146 : decode cX12_takeControl 146 = .ok (.getfield 17, 3) := by decide +kernel
theorem dX12_takeControl_149 : decode cX12_takeControl 149 = .ok (.bipush 7, 2) := by decide +kernel
theorem dX12_takeControl_151 : decode cX12_takeControl 151 = .ok (.iaload, 1) := by decide +kernel
theorem dX12_takeControl_152 : decode cX12_takeControl 152 = .ok (.if_icmp .ne 15, 3) := by decide +kernel
theorem dX12_takeControl_155 : decode cX12_takeControl 155 = .ok (.iload 4, 2) := by decide +kernel
theorem dX12_takeControl_157 : decode cX12_takeControl 157 = .ok (.aload_n 0, 1) := by decide +kernel
theorem dX12_takeControl_158 : decode cX12_takeControl 158 = .ok (.getfield 17, 3) := by decide +kernel
theorem dX12_takeControl_161 : decode cX12_takeControl 161 = .ok (.bipush 8, 2) := by decide +kernel
theorem dX12_takeControl_163 : decode cX12_takeControl 163 = .ok (.iaload, 1) := by decide +kernel
theorem dX12_takeControl_164 : decode cX12_takeControl 164 = .ok (.if_icmp .eq 5, 3) := by decide +kernel
theorem dX12_takeControl_167 : decode cX12_takeControl 167 = .ok (.iconst 0, 1) := by decide +kernel
theorem dX12_takeControl_168 : decode cX12_takeControl 168 = .ok (.ireturn, 1) := by decide +kernel
theorem dX12_takeControl_169 : decode cX12_takeControl 169 = .ok (.aload_n 0, 1) := by decide +kernel
theorem dX12_takeControl_170 : decode cX12_takeControl 170 = .ok (.iconst 1, 1) := by decide +kernel
theorem dX12_takeControl_171 : decode cX12_takeControl 171 = .ok (.aload_n 0, 1) := by decide +kernel
theorem dX12_takeControl_172 : decode cX12_takeControl 172 = .ok (.getfield 146, 3) := by decide +kernel
theorem dX12_takeControl_175 : decode cX12_takeControl 175 = .ok (.iload_n 3, 1) := by decide +kernel
theorem dX12_takeControl_176 : decode cX12_takeControl 176 = .ok (.iload 4, 2) := by decide +kernel
theorem dX12_takeControl_178 : decode cX12_takeControl 178 = .ok (.iload 5, 2) := by decide +kernel
theorem dX12_takeControl_180 : decode cX12_takeControl 180 = .ok (.iload 6, 2) := by decide +kernel
theorem dX12_takeControl_182 : decode cX12_takeControl 182 = .ok (.iload 7, 2) := by decide +kernel
theorem dX12_takeControl_184 : decode cX12_takeControl 184 = .ok (.iload 8, 2) := by decide +kernel
theorem dX12_takeControl_186 : decode cX12_takeControl 186 = .ok (.invokevirtual 156, 3) := by decide +kernel
theorem dX12_takeControl_189 : decode cX12_takeControl 189 = .ok (.aload_n 0, 1) := by decide +kernel
theorem dX12_takeControl_190 : decode cX12_takeControl 190 = .ok (.aload_n 0, 1) := by decide +kernel
theorem dX12_takeControl_191 : decode cX12_takeControl 191 = .ok (.getfield 160, 3) := by decide +kernel
theorem dX12_takeControl_194 : decode cX12_takeControl 194 = .ok (.ifCond .ne 10, 3) := by decide +kernel
theorem dX12_takeControl_197 : decode cX12_takeControl 197 = .ok (.aload_n 0, 1) := by decide +kernel
theorem dX12_takeControl_198 : decode cX12_takeControl 198 = .ok (.getfield 140, 3) := by decide +kernel
theorem dX12_takeControl_201 : decode cX12_takeControl 201 = .ok (.ifCond .ne 7, 3) := by decide +kernel
theorem dX12_takeControl_204 : decode cX12_takeControl 204 = .ok (.iconst 1, 1) := by decide +kernel
theorem dX12_takeControl_205 : decode cX12_takeControl 205 = .ok (.goto 4, 3) := by decide +kernel
theorem dX12_takeControl_208 : decode cX12_takeControl 208 = .ok (.iconst 0, 1) := by decide +kernel
theorem dX12_takeControl_209 : decode cX12_takeControl 209 = .ok (.putfield 160, 3) := by decide +kernel
theorem dX12_takeControl_212 : decode cX12_takeControl 212 = .ok (.aload_n 0, 1) := by decide +kernel
theorem dX12_takeControl_213 : decode cX12_takeControl 213 = .ok (.dup, 1) := by decide +kernel
theorem dX12_takeControl_214 : decode cX12_takeControl 214 = .ok (.getfield 149, 3) := by decide +kernel
theorem dX12_takeControl_217 : decode cX12_takeControl 217 = .ok (.iconst 1, 1) := by decide +kernel
theorem dX12_takeControl_218 : decode cX12_takeControl 218 = .ok (.iadd, 1) := by decide +kernel
theorem dX12_takeControl_219 : decode cX12_takeControl 219 = .ok (.putfield 149, 3) := by decide +kernel
theorem dX12_takeControl_222 : decode cX12_takeControl 222 = .ok (.aload_n 0, 1) := by decide +kernel
theorem dX12_takeControl_223 : decode cX12_takeControl 223 = .ok (.dup, 1) := by decide +kernel
theorem dX12_takeControl_224 : decode cX12_takeControl 224 = .ok (.getfield 146, 3) := by decide +kernel
theorem dX12_takeControl_227 : decode cX12_takeControl 227 = .ok (.iconst 1, 1) := by decide +kernel
theorem dX12_takeControl_228 : decode cX12_takeControl 228 = .ok (.iadd, 1) := by decide +kernel
theorem dX12_takeControl_229 : decode cX12_takeControl 229 = .ok (.putfield 146, 3) := by decide +kernel
theorem dX12_takeControl_232 : decode cX12_takeControl 232 = .ok (.aload_n 0, 1) := by decide +kernel
theorem dX12_takeControl_233 : decode cX12_takeControl 233 = .ok (.getfield 17, 3) := by decide +kernel
theorem dX12_takeControl_236 : decode cX12_takeControl 236 = .ok (.bipush 10, 2) := by decide +kernel
theorem dX12_takeControl_238 : decode cX12_takeControl 238 = .ok (.aload_n 0, 1) := by decide +kernel
theorem dX12_takeControl_239 : decode cX12_takeControl 239 = .ok (.getfield 146, 3) := by decide +kernel
theorem dX12_takeControl_242 : decode cX12_takeControl 242 = .ok (.iastore, 1) := by decide +kernel
theorem dX12_takeControl_243 : decode cX12_takeControl 243 = .ok (.aload_n 0, 1) := by decide +kernel
theorem dX12_takeControl_244 : decode cX12_takeControl 244 = .ok (.iconst 1, 1) := by decide +kernel
theorem dX12_takeControl_245 : decode cX12_takeControl 245 = .ok (.putfield 163, 3) := by decide +kernel
theorem dX12_takeControl_248 : decode cX12_takeControl 248 = .ok (.iconst 1, 1) := by decide +kernel
theorem dX12_takeControl_249 : decode cX12_takeControl 249 = .ok (.ireturn, 1) := by decide +kernel
theorem dX12_isRegion_0 : decode cX12_isRegion 0 = .ok (.aload_n 0, 1) := by decide +kernel
theorem dX12_isRegion_1 : decode cX12_isRegion 1 = .ok (.getfield 17, 3) := by decide +kernel
theorem dX12_isRegion_4 : decode cX12_isRegion 4 = .ok (.bipush 6, 2) := by decide +kernel
theorem dX12_isRegion_6 : decode cX12_isRegion 6 = .ok (.iload_n 1, 1) := by decide +kernel
theorem dX12_isRegion_7 : decode cX12_isRegion 7 = .ok (.imul, 1) := by decide +kernel
theorem dX12_isRegion_8 : decode cX12_isRegion 8 = .ok (.iconst 1, 1) := by decide +kernel
theorem dX12_isRegion_9 : decode cX12_isRegion 9 = .ok (.iadd, 1) := by decide +kernel
theorem dX12_isRegion_10 : decode cX12_isRegion 10 = .ok (.iaload, 1) := by decide +kernel
theorem dX12_isRegion_11 : decode cX12_isRegion 11 = .ok (.istore 6, 2) := by decide +kernel
theorem dX12_isRegion_13 : decode cX12_isRegion 13 = .ok (.aload_n 0, 1) := by decide +kernel
theorem dX12_isRegion_14 : decode cX12_isRegion 14 = .ok (.getfield 17, 3) := by decide +kernel
theorem dX12_isRegion_17 : decode cX12_isRegion 17 = .ok (.bipush 6, 2) := by decide +kernel
theorem dX12_isRegion_19 : decode cX12_isRegion 19 = .ok (.iload_n 1, 1) := by decide +kernel
theorem dX12_isRegion_20 : decode cX12_isRegion 20 = .ok (.imul, 1) := by decide +kernel
theorem dX12_isRegion_21 : decode cX12_isRegion 21 = .ok (.iconst 2, 1) := by decide +kernel
theorem dX12_isRegion_22 : decode cX12_isRegion 22 = .ok (.iadd, 1) := by decide +kernel
theorem dX12_isRegion_23 : decode cX12_isRegion 23 = .ok (.iaload, 1) := by decide +kernel
theorem dX12_isRegion_24 : decode cX12_isRegion 24 = .ok (.istore 7, 2) := by decide +kernel
theorem dX12_isRegion_26 : decode cX12_isRegion 26 = .ok (.iload_n 2, 1) := by decide +kernel
theorem dX12_isRegion_27 : decode cX12_isRegion 27 = .ok (.ifCond .le 51, 3) := by decide +kernel
theorem dX12_isRegion_30 : decode cX12_isRegion 30 = .ok (.iload_n 3, 1) := by decide +kernel
theorem dX12_isRegion_31 : decode cX12_isRegion 31 = .ok (.ifCond .le 47, 3) := by decide +kernel
theorem dX12_isRegion_34 : decode cX12_isRegion 34 = .ok (.iload 4, 2) := by decide +kernel
theorem dX12_isRegion_36 : decode cX12_isRegion 36 = .ok (.ifCond .lt 42, 3) := by decide +kernel
theorem dX12_isRegion_39 : decode cX12_isRegion 39 = .ok (.iload 5, 2) := by decide +kernel
theorem dX12_isRegion_41 : decode cX12_isRegion 41 = .ok (.ifCond .lt 37, 3) := by decide +kernel
theorem dX12_isRegion_44 : decode cX12_isRegion 44 = .ok (.iload_n 2, 1) := by decide +kernel
theorem dX12_isRegion_45 : decode cX12_isRegion 45 = .ok (.iload 6, 2) := by decide +kernel
theorem dX12_isRegion_47 : decode cX12_isRegion 47 = .ok (.if_icmp .gt 31, 3) := by decide +kernel
theorem dX12_isRegion_50 : decode cX12_isRegion 50 = .ok (.iload_n 3, 1) := by decide +kernel
theorem dX12_isRegion_51 : decode cX12_isRegion 51 = .ok (.iload 7, 2) := by decide +kernel
theorem dX12_isRegion_53 : decode cX12_isRegion 53 = .ok (.if_icmp .gt 25, 3) := by decide +kernel
theorem dX12_isRegion_56 : decode cX12_isRegion 56 = .ok (.iload 4, 2) := by decide +kernel
theorem dX12_isRegion_58 : decode cX12_isRegion 58 = .ok (.iload 6, 2) := by decide +kernel
theorem dX12_isRegion_60 : decode cX12_isRegion 60 = .ok (.iload_n 2, 1) := by decide +kernel
theorem dX12_isRegion_61 : decode cX12_isRegion 61 = .ok (.isub, 1) := by decide +kernel
theorem dX12_isRegion_62 : decode cX12_isRegion 62 = .ok (.if_icmp .gt 16, 3) := by decide +kernel
theorem dX12_isRegion_65 : decode cX12_isRegion 65 = .ok (.iload 5, 2) := by decide +kernel
theorem dX12_isRegion_67 : decode cX12_isRegion 67 = .ok (.iload 7, 2) := by decide +kernel
theorem dX12_isRegion_69 : decode cX12_isRegion 69 = .ok (.iload_n 3, 1) := by decide +kernel
theorem dX12_isRegion_70 : decode cX12_isRegion 70 = .ok (.isub, 1) := by decide +kernel
theorem dX12_isRegion_71 : decode cX12_isRegion 71 = .ok (.if_icmp .gt 7, 3) := by decide +kernel
theorem dX12_isRegion_74 : decode cX12_isRegion 74 = .ok (.iconst 1, 1) := by decide +kernel
theorem dX12_isRegion_75 : decode cX12_isRegion 75 = .ok (.goto 4, 3) := by decide +kernel
theorem dX12_isRegion_78 : decode cX12_isRegion 78 = .ok (.iconst 0, 1) := by decide +kernel
theorem dX12_isRegion_79 : decode cX12_isRegion 79 = .ok (.ireturn, 1) := by decide +kernel
theorem dX12_setRegion_0 : decode cX12_setRegion 0 = .ok (.bipush 48, 2) := by decide +kernel
theorem dX12_setRegion_2 : decode cX12_setRegion 2 = .ok (.iload_n 1, 1) := by decide +kernel
theorem dX12_setRegion_3 : decode cX12_setRegion 3 = .ok (.imul, 1) := by decide +kernel
theorem dX12_setRegion_4 : decode cX12_setRegion 4 = .ok (.bipush 6, 2) := by decide +kernel
theorem dX12_setRegion_6 : decode cX12_setRegion 6 = .ok (.iload_n 2, 1) := by decide +kernel
theorem dX12_setRegion_7 : decode cX12_setRegion 7 = .ok (.imul, 1) := by decide +kernel
theorem dX12_setRegion_8 : decode cX12_setRegion 8 = .ok (.iadd, 1) := by decide +kernel
theorem dX12_setRegion_9 : decode cX12_setRegion 9 = .ok (.istore 9, 2) := by decide +kernel
theorem dX12_setRegion_11 : decode cX12_setRegion 11 = .ok (.aload_n 0, 1) := by decide +kernel
theorem dX12_setRegion_12 : decode cX12_setRegion 12 = .ok (.getfield 21, 3) := by decide +kernel
theorem dX12_setRegion_15 : decode cX12_setRegion 15 = .ok (.iload 9, 2) := by decide +kernel
theorem dX12_setRegion_17 : decode cX12_setRegion 17 = .ok (.iload_n 3, 1) := by decide +kernel
theorem dX12_setRegion_18 : decode cX12_setRegion 18 = .ok (.iastore, 1) := by decide +kernel
theorem dX12_setRegion_19 : decode cX12_setRegion 19 = .ok (.aload_n 0, 1) := by decide +kernel
theorem dX12_setRegion_20 : decode cX12_setRegion 20 = .ok (.getfield 21, 3) := by decide +kernel
theorem dX12_setRegion_23 : decode cX12_setRegion 23 = .ok (.iload 9, 2) := by decide +kernel
theorem dX12_setRegion_25 : decode cX12_setRegion 25 = .ok (.iconst 1, 1) := by decide +kernel
theorem dX12_setRegion_26 : decode cX12_setRegion 26 = .ok (.iadd, 1) := by decide +kernel
theorem dX12_setRegion_27 : decode cX12_setRegion 27 = .ok (.iload 4, 2) := by decide +kernel
theorem dX12_setRegion_29 : decode cX12_setRegion 29 = .ok (.iastore, 1) := by decide +kernel
theorem dX12_setRegion_30 : decode cX12_setRegion 30 = .ok (.aload_n 0, 1) := by decide +kernel
theorem dX12_setRegion_31 : decode cX12_setRegion 31 = .ok (.getfield 21, 3) := by decide +kernel
theorem dX12_setRegion_34 : decode cX12_setRegion 34 = .ok (.iload 9, 2) := by decide +kernel
theorem dX12_setRegion_36 : decode cX12_setRegion 36 = .ok (.iconst 2, 1) := by decide +kernel
theorem dX12_setRegion_37 : decode cX12_setRegion 37 = .ok (.iadd, 1) := by decide +kernel
theorem dX12_setRegion_38 : decode cX12_setRegion 38 = .ok (.iload 5, 2) := by decide +kernel
theorem dX12_setRegion_40 : decode cX12_setRegion 40 = .ok (.iastore, 1) := by decide +kernel
theorem dX12_setRegion_41 : decode cX12_setRegion 41 = .ok (.aload_n 0, 1) := by decide +kernel
theorem dX12_setRegion_42 : decode cX12_setRegion 42 = .ok (.getfield 21, 3) := by decide +kernel
theorem dX12_setRegion_45 : decode cX12_setRegion 45 = .ok (.iload 9, 2) := by decide +kernel
theorem dX12_setRegion_47 : decode cX12_setRegion 47 = .ok (.iconst 3, 1) := by decide +kernel
theorem dX12_setRegion_48 : decode cX12_setRegion 48 = .ok (.iadd, 1) := by decide +kernel
theorem dX12_setRegion_49 : decode cX12_setRegion 49 = .ok (.iload 6, 2) := by decide +kernel
theorem dX12_setRegion_51 : decode cX12_setRegion 51 = .ok (.iastore, 1) := by decide +kernel
theorem dX12_setRegion_52 : decode cX12_setRegion 52 = .ok (.aload_n 0, 1) := by decide +kernel
theorem dX12_setRegion_53 : decode cX12_setRegion 53 = .ok (.getfield 21, 3) := by decide +kernel
theorem dX12_setRegion_56 : decode cX12_setRegion 56 = .ok (.iload 9, 2) := by decide +kernel
theorem dX12_setRegion_58 : decode cX12_setRegion 58 = .ok (.iconst 4, 1) := by decide +kernel
theorem dX12_setRegion_59 : decode cX12_setRegion 59 = .ok (.iadd, 1) := by decide +kernel
theorem dX12_setRegion_60 : decode cX12_setRegion 60 = .ok (.iload 7, 2) := by decide +kernel
theorem dX12_setRegion_62 : decode cX12_setRegion 62 = .ok (.iastore, 1) := by decide +kernel
theorem dX12_setRegion_63 : decode cX12_setRegion 63 = .ok (.aload_n 0, 1) := by decide +kernel
theorem dX12_setRegion_64 : decode cX12_setRegion 64 = .ok (.getfield 21, 3) := by decide +kernel
theorem dX12_setRegion_67 : decode cX12_setRegion 67 = .ok (.iload 9, 2) := by decide +kernel
theorem dX12_setRegion_69 : decode cX12_setRegion 69 = .ok (.iconst 5, 1) := by decide +kernel
theorem dX12_setRegion_70 : decode cX12_setRegion 70 = .ok (.iadd, 1) := by decide +kernel
theorem dX12_setRegion_71 : decode cX12_setRegion 71 = .ok (.iload 8, 2) := by decide +kernel
theorem dX12_setRegion_73 : decode cX12_setRegion 73 = .ok (.iastore, 1) := by decide +kernel
theorem dX12_setRegion_74 : decode cX12_setRegion 74 = .ok (.return_, 1) := by decide +kernel
theorem dX12_finishPicture_0 : decode cX12_finishPicture 0 = .ok (.aload_n 0, 1) := by decide +kernel
theorem dX12_finishPicture_1 : decode cX12_finishPicture 1 = .ok (.getfield 166, 3) := by decide +kernel
theorem dX12_finishPicture_4 : decode cX12_finishPicture 4 = .ok (.istore_n 1, 1) := by decide +kernel
theorem dX12_finishPicture_5 : decode cX12_finishPicture 5 = .ok (.aload_n 0, 1) := by decide +kernel
theorem dX12_finishPicture_6 : decode cX12_finishPicture 6 = .ok (.iconst (-1), 1) := by decide +kernel
theorem dX12_finishPicture_7 : decode cX12_finishPicture 7 = .ok (.putfield 166, 3) := by decide +kernel
theorem dX12_finishPicture_10 : decode cX12_finishPicture 10 = .ok (.aload_n 0, 1) := by decide +kernel
theorem dX12_finishPicture_11 : decode cX12_finishPicture 11 = .ok (.invokevirtual 169, 3) := by decide +kernel
theorem dX12_finishPicture_14 : decode cX12_finishPicture 14 = .ok (.ifCond .ne 5, 3) := by decide +kernel
theorem dX12_finishPicture_17 : decode cX12_finishPicture 17 = .ok (.iconst 5, 1) := by decide +kernel
theorem dX12_finishPicture_18 : decode cX12_finishPicture 18 = .ok (.ireturn, 1) := by decide +kernel
theorem dX12_finishPicture_19 : decode cX12_finishPicture 19 = .ok (.iload_n 1, 1) := by decide +kernel
theorem dX12_finishPicture_20 : decode cX12_finishPicture 20 = .ok (.bipush 8, 2) := by decide +kernel
theorem dX12_finishPicture_22 : decode cX12_finishPicture 22 = .ok (.if_icmp .ne 13, 3) := by decide +kernel
theorem dX12_finishPicture_25 : decode cX12_finishPicture 25 = .ok (.aload_n 0, 1) := by decide +kernel
theorem dX12_finishPicture_26 : decode cX12_finishPicture 26 = .ok (.getfield 17, 3) := by decide +kernel
theorem dX12_finishPicture_29 : decode cX12_finishPicture 29 = .ok (.bipush 7, 2) := by decide +kernel
theorem dX12_finishPicture_31 : decode cX12_finishPicture 31 = .ok (.iaload, 1) := by decide +kernel
theorem dX12_finishPicture_32 : decode cX12_finishPicture 32 = .ok (.goto 10, 3) := by decide +kernel
theorem dX12_finishPicture_35 : decode cX12_finishPicture 35 = .ok (.aload_n 0, 1) := by decide +kernel
theorem dX12_finishPicture_36 : decode cX12_finishPicture 36 = .ok (.iconst 1, 1) := by decide +kernel
theorem dX12_finishPicture_37 : decode cX12_finishPicture 37 = .ok (.iload_n 1, 1) := by decide +kernel
theorem dX12_finishPicture_38 : decode cX12_finishPicture 38 = .ok (.iconst 0, 1) := by decide +kernel
theorem dX12_finishPicture_39 : decode cX12_finishPicture 39 = .ok (.invokevirtual 173, 3) := by decide +kernel
theorem dX12_finishPicture_42 : decode cX12_finishPicture 42 = .ok (.istore_n 2, 1) := by decide +kernel
theorem dX12_finishPicture_43 : decode cX12_finishPicture 43 = .ok (.iload_n 1, 1) := by decide +kernel
theorem dX12_finishPicture_44 : decode cX12_finishPicture 44 = .ok (.bipush 8, 2) := by decide +kernel
theorem dX12_finishPicture_46 : decode cX12_finishPicture 46 = .ok (.if_icmp .ne 13, 3) := by decide +kernel
theorem dX12_finishPicture_49 : decode cX12_finishPicture 49 = .ok (.aload_n 0, 1) := by decide +kernel
theorem dX12_finishPicture_50 : decode cX12_finishPicture 50 = .ok (.getfield 17, 3) := by decide +kernel
theorem dX12_finishPicture_53 : decode cX12_finishPicture 53 = .ok (.bipush 8, 2) := by decide +kernel
theorem dX12_finishPicture_55 : decode cX12_finishPicture 55 = .ok (.iaload, 1) := by decide +kernel
theorem dX12_finishPicture_56 : decode cX12_finishPicture 56 = .ok (.goto 10, 3) := by decide +kernel
theorem dX12_finishPicture_59 : decode cX12_finishPicture 59 = .ok (.aload_n 0, 1) := by decide +kernel
theorem dX12_finishPicture_60 : decode cX12_finishPicture 60 = .ok (.iconst 1, 1) := by decide +kernel
theorem dX12_finishPicture_61 : decode cX12_finishPicture 61 = .ok (.iload_n 1, 1) := by decide +kernel
theorem dX12_finishPicture_62 : decode cX12_finishPicture 62 = .ok (.iconst 1, 1) := by decide +kernel
theorem dX12_finishPicture_63 : decode cX12_finishPicture 63 = .ok (.invokevirtual 173, 3) := by decide +kernel
theorem dX12_finishPicture_66 : decode cX12_finishPicture 66 = .ok (.istore_n 3, 1) := by decide +kernel
theorem dX12_finishPicture_67 : decode cX12_finishPicture 67 = .ok (.aload_n 0, 1) := by decide +kernel
theorem dX12_finishPicture_68 : decode cX12_finishPicture 68 = .ok (.iload_n 2, 1) := by decide +kernel
theorem dX12_finishPicture_69 : decode cX12_finishPicture 69 = .ok (.iload_n 3, 1) := by decide +kernel
theorem dX12_finishPicture_70 : decode cX12_finishPicture 70 = .ok (.sipush 256, 3) := by decide +kernel
theorem dX12_finishPicture_73 : decode cX12_finishPicture 73 = .ok (.bipush 9, 2) := by decide +kernel
theorem dX12_finishPicture_75 : decode cX12_finishPicture 75 = .ok (.iload_n 1, 1) := by decide +kernel
theorem dX12_finishPicture_76 : decode cX12_finishPicture 76 = .ok (.iadd, 1) := by decide +kernel
theorem dX12_finishPicture_77 : decode cX12_finishPicture 77 = .ok (.imul, 1) := by decide +kernel
theorem dX12_finishPicture_78 : decode cX12_finishPicture 78 = .ok (.invokevirtual 176, 3) := by decide +kernel
theorem dX12_finishPicture_81 : decode cX12_finishPicture 81 = .ok (.ifCond .eq 7, 3) := by decide +kernel
theorem dX12_finishPicture_84 : decode cX12_finishPicture 84 = .ok (.iconst 0, 1) := by decide +kernel
theorem dX12_finishPicture_85 : decode cX12_finishPicture 85 = .ok (.goto 5, 3) := by decide +kernel
theorem dX12_finishPicture_88 : decode cX12_finishPicture 88 = .ok (.bipush 6, 2) := by decide +kernel
theorem dX12_finishPicture_90 : decode cX12_finishPicture 90 = .ok (.ireturn, 1) := by decide +kernel
theorem dX12_takeChunk_0 : decode cX12_takeChunk 0 = .ok (.iload_n 1, 1) := by decide +kernel
theorem dX12_takeChunk_1 : decode cX12_takeChunk 1 = .ok (.iconst 4, 1) := by decide +kernel
theorem dX12_takeChunk_2 : decode cX12_takeChunk 2 = .ok (.iadd, 1) := by decide +kernel
theorem dX12_takeChunk_3 : decode cX12_takeChunk 3 = .ok (.istore_n 3, 1) := by decide +kernel
theorem dX12_takeChunk_4 : decode cX12_takeChunk 4 = .ok (.aload_n 0, 1) := by decide +kernel
theorem dX12_takeChunk_5 : decode cX12_takeChunk 5 = .ok (.iload_n 1, 1) := by decide +kernel
theorem dX12_takeChunk_6 : decode cX12_takeChunk 6 = .ok (.bipush 73, 2) := by decide +kernel
theorem dX12_takeChunk_8 : decode cX12_takeChunk 8 = .ok (.bipush 68, 2) := by decide +kernel
theorem dX12_takeChunk_10 : decode cX12_takeChunk 10 = .ok (.bipush 65, 2) := by decide +kernel
theorem dX12_takeChunk_12 : decode cX12_takeChunk 12 = .ok (.bipush 84, 2) := by decide +kernel
theorem dX12_takeChunk_14 : decode cX12_takeChunk 14 = .ok (.invokevirtual 180, 3) := by decide +kernel
theorem dX12_takeChunk_17 : decode cX12_takeChunk 17 = .ok (.istore 4, 2) := by decide +kernel
theorem dX12_takeChunk_19 : decode cX12_takeChunk 19 = .ok (.aload_n 0, 1) := by decide +kernel
theorem dX12_takeChunk_20 : decode cX12_takeChunk 20 = .ok (.iload_n 1, 1) := by decide +kernel
theorem dX12_takeChunk_21 : decode cX12_takeChunk 21 = .ok (.bipush 102, 2) := by decide +kernel
theorem dX12_takeChunk_23 : decode cX12_takeChunk 23 = .ok (.bipush 100, 2) := by decide +kernel
theorem dX12_takeChunk_25 : decode cX12_takeChunk 25 = .ok (.bipush 65, 2) := by decide +kernel
theorem dX12_takeChunk_27 : decode cX12_takeChunk 27 = .ok (.bipush 84, 2) := by decide +kernel
theorem dX12_takeChunk_29 : decode cX12_takeChunk 29 = .ok (.invokevirtual 180, 3) := by decide +kernel
theorem dX12_takeChunk_32 : decode cX12_takeChunk 32 = .ok (.istore 5, 2) := by decide +kernel
theorem dX12_takeChunk_34 : decode cX12_takeChunk 34 = .ok (.aload_n 0, 1) := by decide +kernel
theorem dX12_takeChunk_35 : decode cX12_takeChunk 35 = .ok (.getfield 163, 3) := by decide +kernel
theorem dX12_takeChunk_38 : decode cX12_takeChunk 38 = .ok (.ifCond .eq 25, 3) := by decide +kernel
theorem dX12_takeChunk_41 : decode cX12_takeChunk 41 = .ok (.aload_n 0, 1) := by decide +kernel
theorem dX12_takeChunk_42 : decode cX12_takeChunk 42 = .ok (.getfield 140, 3) := by decide +kernel
theorem dX12_takeChunk_45 : decode cX12_takeChunk 45 = .ok (.ifCond .eq 11, 3) := by decide +kernel
theorem dX12_takeChunk_48 : decode cX12_takeChunk 48 = .ok (.iload 5, 2) := by decide +kernel
theorem dX12_takeChunk_50 : decode cX12_takeChunk 50 = .ok (.ifCond .eq 11, 3) := by decide +kernel
theorem dX12_takeChunk_53 : decode cX12_takeChunk 53 = .ok (.goto 10, 3) := by decide +kernel
theorem dX12_takeChunk_56 : decode cX12_takeChunk 56 = .ok (.iload 4, 2) := by decide +kernel
theorem dX12_takeChunk_58 : decode cX12_takeChunk 58 = .ok (.ifCond .ne 5, 3) := by decide +kernel
theorem dX12_takeChunk_61 : decode cX12_takeChunk 61 = .ok (.iconst 0, 1) := by decide +kernel
theorem dX12_takeChunk_62 : decode cX12_takeChunk 62 = .ok (.ireturn, 1) := by decide +kernel
theorem dX12_takeChunk_63 : decode cX12_takeChunk 63 = .ok (.iload 4, 2) := by decide +kernel
theorem dX12_takeChunk_65 : decode cX12_takeChunk 65 = .ok (.ifCond .eq 64, 3) := by decide +kernel
theorem dX12_takeChunk_68 : decode cX12_takeChunk 68 = .ok (.aload_n 0, 1) := by decide +kernel
theorem dX12_takeChunk_69 : decode cX12_takeChunk 69 = .ok (.getfield 183, 3) := by decide +kernel
theorem dX12_takeChunk_72 : decode cX12_takeChunk 72 = .ok (.ifCond .ne 10, 3) := by decide +kernel
theorem dX12_takeChunk_75 : decode cX12_takeChunk 75 = .ok (.aload_n 0, 1) := by decide +kernel
theorem dX12_takeChunk_76 : decode cX12_takeChunk 76 = .ok (.getfield 137, 3) := by decide +kernel
theorem dX12_takeChunk_79 : decode cX12_takeChunk 79 = .ok (.ifCond .ne 5, 3) := by decide +kernel
theorem dX12_takeChunk_82 : decode cX12_takeChunk 82 = .ok (.iconst 0, 1) := by decide +kernel
theorem dX12_takeChunk_83 : decode cX12_takeChunk 83 = .ok (.ireturn, 1) := by decide +kernel
theorem dX12_takeChunk_84 : decode cX12_takeChunk 84 = .ok (.aload_n 0, 1) := by decide +kernel
theorem dX12_takeChunk_85 : decode cX12_takeChunk 85 = .ok (.aload_n 0, 1) := by decide +kernel
theorem dX12_takeChunk_86 : decode cX12_takeChunk 86 = .ok (.getfield 140, 3) := by decide +kernel
theorem dX12_takeChunk_89 : decode cX12_takeChunk 89 = .ok (.ifCond .eq 10, 3) := by decide +kernel
theorem dX12_takeChunk_92 : decode cX12_takeChunk 92 = .ok (.aload_n 0, 1) := by decide +kernel
theorem dX12_takeChunk_93 : decode cX12_takeChunk 93 = .ok (.getfield 66, 3) := by decide +kernel
theorem dX12_takeChunk_96 : decode cX12_takeChunk 96 = .ok (.goto 4, 3) := by decide +kernel
theorem dX12_takeChunk_99 : decode cX12_takeChunk 99 = .ok (.iconst 0, 1) := by decide +kernel
theorem dX12_takeChunk_100 : decode cX12_takeChunk 100 = .ok (.putfield 66, 3) := by decide +kernel
theorem dX12_takeChunk_103 : decode cX12_takeChunk 103 = .ok (.aload_n 0, 1) := by decide +kernel
theorem dX12_takeChunk_104 : decode cX12_takeChunk 104 = .ok (.iconst 1, 1) := by decide +kernel
theorem dX12_takeChunk_105 : decode cX12_takeChunk 105 = .ok (.putfield 140, 3) := by decide +kernel
theorem dX12_takeChunk_108 : decode cX12_takeChunk 108 = .ok (.aload_n 0, 1) := by decide +kernel
theorem dX12_takeChunk_109 : decode cX12_takeChunk 109 = .ok (.iconst 0, 1) := by decide +kernel
theorem dX12_takeChunk_110 : decode cX12_takeChunk 110 = .ok (.putfield 163, 3) := by decide +kernel
theorem dX12_takeChunk_113 : decode cX12_takeChunk 113 = .ok (.aload_n 0, 1) := by decide +kernel
theorem dX12_takeChunk_114 : decode cX12_takeChunk 114 = .ok (.bipush 8, 2) := by decide +kernel
theorem dX12_takeChunk_116 : decode cX12_takeChunk 116 = .ok (.putfield 166, 3) := by decide +kernel
theorem dX12_takeChunk_119 : decode cX12_takeChunk 119 = .ok (.aload_n 0, 1) := by decide +kernel
theorem dX12_takeChunk_120 : decode cX12_takeChunk 120 = .ok (.iload_n 3, 1) := by decide +kernel
theorem dX12_takeChunk_121 : decode cX12_takeChunk 121 = .ok (.iload_n 3, 1) := by decide +kernel
theorem dX12_takeChunk_122 : decode cX12_takeChunk 122 = .ok (.iload_n 2, 1) := by decide +kernel
theorem dX12_takeChunk_123 : decode cX12_takeChunk 123 = .ok (.iadd, 1) := by decide +kernel
theorem dX12_takeChunk_124 : decode cX12_takeChunk 124 = .ok (.invokevirtual 186, 3) := by decide +kernel
theorem dX12_takeChunk_127 : decode cX12_takeChunk 127 = .ok (.iconst 1, 1) := by decide +kernel
theorem dX12_takeChunk_128 : decode cX12_takeChunk 128 = .ok (.ireturn, 1) := by decide +kernel
theorem dX12_takeChunk_129 : decode cX12_takeChunk 129 = .ok (.iload 5, 2) := by decide +kernel
theorem dX12_takeChunk_131 : decode cX12_takeChunk 131 = .ok (.ifCond .eq 113, 3) := by decide +kernel
theorem dX12_takeChunk_134 : decode cX12_takeChunk 134 = .ok (.aload_n 0, 1) := by decide +kernel
theorem dX12_takeChunk_135 : decode cX12_takeChunk 135 = .ok (.getfield 163, 3) := by decide +kernel
theorem dX12_takeChunk_138 : decode cX12_takeChunk 138 = .ok (.ifCond .ne 19, 3) := by decide +kernel
theorem dX12_takeChunk_141 : decode cX12_takeChunk 141 = .ok (.aload_n 0, 1) := by decide +kernel
theorem dX12_takeChunk_142 : decode cX12_takeChunk 142 = .ok (.getfield 166, 3) := by decide +kernel
theorem dX12_takeChunk_145 : decode cX12_takeChunk 145 = .ok (.ifCond .lt 16, 3) := by decide +kernel
theorem dX12_takeChunk_148 : decode cX12_takeChunk 148 = .ok (.aload_n 0, 1) := by decide +kernel
theorem dX12_takeChunk_149 : decode cX12_takeChunk 149 = .ok (.getfield 166, 3) := by decide +kernel
theorem dX12_takeChunk_152 : decode cX12_takeChunk 152 = .ok (.bipush 8, 2) := by decide +kernel
theorem dX12_takeChunk_154 : decode cX12_takeChunk 154 = .ok (.if_icmp .ge 7, 3) := by decide +kernel
theorem dX12_takeChunk_157 : decode cX12_takeChunk 157 = .ok (.iconst 1, 1) := by decide +kernel
theorem dX12_takeChunk_158 : decode cX12_takeChunk 158 = .ok (.goto 4, 3) := by decide +kernel
theorem dX12_takeChunk_161 : decode cX12_takeChunk 161 = .ok (.iconst 0, 1) := by decide +kernel
theorem dX12_takeChunk_162 : decode cX12_takeChunk 162 = .ok (.istore 6, 2) := by decide +kernel
theorem dX12_takeChunk_164 : decode cX12_takeChunk 164 = .ok (.iload 6, 2) := by decide +kernel
theorem dX12_takeChunk_166 : decode cX12_takeChunk 166 = .ok (.ifCond .eq 20, 3) := by decide +kernel
theorem dX12_takeChunk_169 : decode cX12_takeChunk 169 = .ok (.iload_n 2, 1) := by decide +kernel
theorem dX12_takeChunk_170 : decode cX12_takeChunk 170 = .ok (.iconst 4, 1) := by decide +kernel
theorem dX12_takeChunk_171 : decode cX12_takeChunk 171 = .ok (.if_icmp .lt 15, 3) := by decide +kernel
theorem dX12_takeChunk_174 : decode cX12_takeChunk 174 = .ok (.aload_n 0, 1) := by decide +kernel
theorem dX12_takeChunk_175 : decode cX12_takeChunk 175 = .ok (.iload_n 3, 1) := by decide +kernel
theorem dX12_takeChunk_176 : decode cX12_takeChunk 176 = .ok (.invokevirtual 134, 3) := by decide +kernel
theorem dX12_takeChunk_179 : decode cX12_takeChunk 179 = .ok (.aload_n 0, 1) := by decide +kernel
theorem dX12_takeChunk_180 : decode cX12_takeChunk 180 = .ok (.getfield 149, 3) := by decide +kernel
theorem dX12_takeChunk_183 : decode cX12_takeChunk 183 = .ok (.if_icmp .eq 5, 3) := by decide +kernel
theorem dX12_takeChunk_186 : decode cX12_takeChunk 186 = .ok (.iconst 0, 1) := by decide +kernel
theorem dX12_takeChunk_187 : decode cX12_takeChunk 187 = .ok (.ireturn, 1) := by decide +kernel
theorem dX12_takeChunk_188 : decode cX12_takeChunk 188 = .ok (.aload_n 0, 1) := by decide +kernel
theorem dX12_takeChunk_189 : decode cX12_takeChunk 189 = .ok (.aload_n 0, 1) := by decide +kernel
theorem dX12_takeChunk_190 : decode cX12_takeChunk 190 = .ok (.getfield 163, 3) := by decide +kernel
theorem dX12_takeChunk_193 : decode cX12_takeChunk 193 = .ok (.ifCond .eq 7, 3) := by decide +kernel
theorem dX12_takeChunk_196 : decode cX12_takeChunk 196 = .ok (.iconst 0, 1) := by decide +kernel
theorem dX12_takeChunk_197 : decode cX12_takeChunk 197 = .ok (.goto 7, 3) := by decide +kernel
theorem dX12_takeChunk_200 : decode cX12_takeChunk 200 = .ok (.aload_n 0, 1) := by decide +kernel
theorem dX12_takeChunk_201 : decode cX12_takeChunk 201 = .ok (.getfield 66, 3) := by decide +kernel
theorem dX12_takeChunk_204 : decode cX12_takeChunk 204 = .ok (.putfield 66, 3) := by decide +kernel
theorem dX12_takeChunk_207 : decode cX12_takeChunk 207 = .ok (.aload_n 0, 1) := by decide +kernel
theorem dX12_takeChunk_208 : decode cX12_takeChunk 208 = .ok (.aload_n 0, 1) := by decide +kernel
theorem dX12_takeChunk_209 : decode cX12_takeChunk 209 = .ok (.getfield 146, 3) := by decide +kernel
theorem dX12_takeChunk_212 : decode cX12_takeChunk 212 = .ok (.iconst 1, 1) := by decide +kernel
theorem dX12_takeChunk_213 : decode cX12_takeChunk 213 = .ok (.isub, 1) := by decide +kernel
theorem dX12_takeChunk_214 : decode cX12_takeChunk 214 = .ok (.putfield 166, 3) := by decide +kernel
theorem dX12_takeChunk_217 : decode cX12_takeChunk 217 = .ok (.aload_n 0, 1) := by decide +kernel
theorem dX12_takeChunk_218 : decode cX12_takeChunk 218 = .ok (.iconst 0, 1) := by decide +kernel
theorem dX12_takeChunk_219 : decode cX12_takeChunk 219 = .ok (.putfield 163, 3) := by decide +kernel
theorem dX12_takeChunk_222 : decode cX12_takeChunk 222 = .ok (.aload_n 0, 1) := by decide +kernel
theorem dX12_takeChunk_223 : decode cX12_takeChunk 223 = .ok (.dup, 1) := by decide +kernel
theorem dX12_takeChunk_224 : decode cX12_takeChunk 224 = .ok (.getfield 149, 3) := by decide +kernel
theorem dX12_takeChunk_227 : decode cX12_takeChunk 227 = .ok (.iconst 1, 1) := by decide +kernel
theorem dX12_takeChunk_228 : decode cX12_takeChunk 228 = .ok (.iadd, 1) := by decide +kernel
theorem dX12_takeChunk_229 : decode cX12_takeChunk 229 = .ok (.putfield 149, 3) := by decide +kernel
theorem dX12_takeChunk_232 : decode cX12_takeChunk 232 = .ok (.aload_n 0, 1) := by decide +kernel
theorem dX12_takeChunk_233 : decode cX12_takeChunk 233 = .ok (.iload_n 3, 1) := by decide +kernel
theorem dX12_takeChunk_234 : decode cX12_takeChunk 234 = .ok (.iconst 4, 1) := by decide +kernel
theorem dX12_takeChunk_235 : decode cX12_takeChunk 235 = .ok (.iadd, 1) := by decide +kernel
theorem dX12_takeChunk_236 : decode cX12_takeChunk 236 = .ok (.iload_n 3, 1) := by decide +kernel
theorem dX12_takeChunk_237 : decode cX12_takeChunk 237 = .ok (.iload_n 2, 1) := by decide +kernel
theorem dX12_takeChunk_238 : decode cX12_takeChunk 238 = .ok (.iadd, 1) := by decide +kernel
theorem dX12_takeChunk_239 : decode cX12_takeChunk 239 = .ok (.invokevirtual 186, 3) := by decide +kernel
theorem dX12_takeChunk_242 : decode cX12_takeChunk 242 = .ok (.iconst 1, 1) := by decide +kernel
theorem dX12_takeChunk_243 : decode cX12_takeChunk 243 = .ok (.ireturn, 1) := by decide +kernel
theorem dX12_takeChunk_244 : decode cX12_takeChunk 244 = .ok (.aload_n 0, 1) := by decide +kernel
theorem dX12_takeChunk_245 : decode cX12_takeChunk 245 = .ok (.iload_n 1, 1) := by decide +kernel
theorem dX12_takeChunk_246 : decode cX12_takeChunk 246 = .ok (.bipush 97, 2) := by decide +kernel
theorem dX12_takeChunk_248 : decode cX12_takeChunk 248 = .ok (.bipush 99, 2) := by decide +kernel
theorem dX12_takeChunk_250 : decode cX12_takeChunk 250 = .ok (.bipush 84, 2) := by decide +kernel
theorem dX12_takeChunk_252 : decode cX12_takeChunk 252 = .ok (.bipush 76, 2) := by decide +kernel
theorem dX12_takeChunk_254 : decode cX12_takeChunk 254 = .ok (.invokevirtual 180, 3) := by decide +kernel
theorem dX12_takeChunk_257 : decode cX12_takeChunk 257 = .ok (.ifCond .eq 10, 3) := by decide +kernel
theorem dX12_takeChunk_260 : decode cX12_takeChunk 260 = .ok (.aload_n 0, 1) := by decide +kernel
theorem dX12_takeChunk_261 : decode cX12_takeChunk 261 = .ok (.iload_n 3, 1) := by decide +kernel
theorem dX12_takeChunk_262 : decode cX12_takeChunk 262 = .ok (.iload_n 2, 1) := by decide +kernel
theorem dX12_takeChunk_263 : decode cX12_takeChunk 263 = .ok (.invokevirtual 189, 3) := by decide +kernel
theorem dX12_takeChunk_266 : decode cX12_takeChunk 266 = .ok (.ireturn, 1) := by decide +kernel
