theorem dMo_server_0 : decode prog_13_method_29_code 0 = .ok (.aload_n 0, 1) := by decide +kernel
theorem dMo_server_1 : decode prog_13_method_29_code 1 = .ok (.invokevirtual 151, 3) := by decide +kernel
theorem dMo_server_4 : decode prog_13_method_29_code 4 = .ok (.istore_n 1, 1) := by decide +kernel
theorem dMo_server_5 : decode prog_13_method_29_code 5 = .ok (.iload_n 1, 1) := by decide +kernel
theorem dMo_server_6 : decode prog_13_method_29_code 6 = .ok (.ifCond .lt 8, 3) := by decide +kernel
theorem dMo_server_9 : decode prog_13_method_29_code 9 = .ok (.iload_n 1, 1) := by decide +kernel
theorem dMo_server_10 : decode prog_13_method_29_code 10 = .ok (.invokestatic 155, 3) := by decide +kernel
theorem dMo_server_13 : decode prog_13_method_29_code 13 = .ok (.ireturn, 1) := by decide +kernel
theorem dMo_server_14 : decode prog_13_method_29_code 14 = .ok (.aload_n 0, 1) := by decide +kernel
theorem dMo_server_15 : decode prog_13_method_29_code 15 = .ok (.iconst 0, 1) := by decide +kernel
theorem dMo_server_16 : decode prog_13_method_29_code 16 = .ok (.invokevirtual 158, 3) := by decide +kernel
theorem dMo_server_19 : decode prog_13_method_29_code 19 = .ok (.istore_n 2, 1) := by decide +kernel
theorem dMo_server_20 : decode prog_13_method_29_code 20 = .ok (.iload_n 2, 1) := by decide +kernel
theorem dMo_server_21 : decode prog_13_method_29_code 21 = .ok (.iconst 2, 1) := by decide +kernel
theorem dMo_server_22 : decode prog_13_method_29_code 22 = .ok (.if_icmp .lt 48, 3) := by decide +kernel
theorem dMo_server_25 : decode prog_13_method_29_code 25 = .ok (.aload_n 0, 1) := by decide +kernel
theorem dMo_server_26 : decode prog_13_method_29_code 26 = .ok (.getfield 21, 3) := by decide +kernel
theorem dMo_server_29 : decode prog_13_method_29_code 29 = .ok (.iconst 0, 1) := by decide +kernel
theorem dMo_server_30 : decode prog_13_method_29_code 30 = .ok (.baload, 1) := by decide +kernel
theorem dMo_server_31 : decode prog_13_method_29_code 31 = .ok (.bipush 47, 2) := by decide +kernel
theorem dMo_server_33 : decode prog_13_method_29_code 33 = .ok (.if_icmp .ne 37, 3) := by decide +kernel
theorem dMo_server_36 : decode prog_13_method_29_code 36 = .ok (.aload_n 0, 1) := by decide +kernel
theorem dMo_server_37 : decode prog_13_method_29_code 37 = .ok (.getfield 21, 3) := by decide +kernel
theorem dMo_server_40 : decode prog_13_method_29_code 40 = .ok (.iconst 1, 1) := by decide +kernel
theorem dMo_server_41 : decode prog_13_method_29_code 41 = .ok (.baload, 1) := by decide +kernel
theorem dMo_server_42 : decode prog_13_method_29_code 42 = .ok (.bipush 47, 2) := by decide +kernel
theorem dMo_server_44 : decode prog_13_method_29_code 44 = .ok (.if_icmp .ne 26, 3) := by decide +kernel
theorem dMo_server_47 : decode prog_13_method_29_code 47 = .ok (.aload_n 0, 1) := by decide +kernel
theorem dMo_server_48 : decode prog_13_method_29_code 48 = .ok (.aload_n 0, 1) := by decide +kernel
theorem dMo_server_49 : decode prog_13_method_29_code 49 = .ok (.getfield 21, 3) := by decide +kernel
theorem dMo_server_52 : decode prog_13_method_29_code 52 = .ok (.iconst 0, 1) := by decide +kernel
theorem dMo_server_53 : decode prog_13_method_29_code 53 = .ok (.iload_n 2, 1) := by decide +kernel
theorem dMo_server_54 : decode prog_13_method_29_code 54 = .ok (.iconst 5, 1) := by decide +kernel
theorem dMo_server_55 : decode prog_13_method_29_code 55 = .ok (.invokevirtual 144, 3) := by decide +kernel
theorem dMo_server_58 : decode prog_13_method_29_code 58 = .ok (.ifCond .eq 12, 3) := by decide +kernel
theorem dMo_server_61 : decode prog_13_method_29_code 61 = .ok (.aload_n 0, 1) := by decide +kernel
theorem dMo_server_62 : decode prog_13_method_29_code 62 = .ok (.getfield 43, 3) := by decide +kernel
theorem dMo_server_65 : decode prog_13_method_29_code 65 = .ok (.iconst 0, 1) := by decide +kernel
theorem dMo_server_66 : decode prog_13_method_29_code 66 = .ok (.iaload, 1) := by decide +kernel
theorem dMo_server_67 : decode prog_13_method_29_code 67 = .ok (.ifCond .le 8, 3) := by decide +kernel
theorem dMo_server_70 : decode prog_13_method_29_code 70 = .ok (.iconst 0, 1) := by decide +kernel
theorem dMo_server_71 : decode prog_13_method_29_code 71 = .ok (.invokestatic 155, 3) := by decide +kernel
theorem dMo_server_74 : decode prog_13_method_29_code 74 = .ok (.ireturn, 1) := by decide +kernel
theorem dMo_server_75 : decode prog_13_method_29_code 75 = .ok (.aload_n 0, 1) := by decide +kernel
theorem dMo_server_76 : decode prog_13_method_29_code 76 = .ok (.iconst 3, 1) := by decide +kernel
theorem dMo_server_77 : decode prog_13_method_29_code 77 = .ok (.iconst 0, 1) := by decide +kernel
theorem dMo_server_78 : decode prog_13_method_29_code 78 = .ok (.invokevirtual 148, 3) := by decide +kernel
theorem dMo_server_81 : decode prog_13_method_29_code 81 = .ok (.aload_n 0, 1) := by decide +kernel
theorem dMo_server_82 : decode prog_13_method_29_code 82 = .ok (.iconst (-1), 1) := by decide +kernel
theorem dMo_server_83 : decode prog_13_method_29_code 83 = .ok (.putfield 125, 3) := by decide +kernel
theorem dMo_server_86 : decode prog_13_method_29_code 86 = .ok (.aload_n 0, 1) := by decide +kernel
theorem dMo_server_87 : decode prog_13_method_29_code 87 = .ok (.iconst 0, 1) := by decide +kernel
theorem dMo_server_88 : decode prog_13_method_29_code 88 = .ok (.putfield 130, 3) := by decide +kernel
theorem dMo_server_91 : decode prog_13_method_29_code 91 = .ok (.aload_n 0, 1) := by decide +kernel
theorem dMo_server_92 : decode prog_13_method_29_code 92 = .ok (.iconst 0, 1) := by decide +kernel
theorem dMo_server_93 : decode prog_13_method_29_code 93 = .ok (.putfield 141, 3) := by decide +kernel
theorem dMo_server_96 : decode prog_13_method_29_code 96 = .ok (.aload_n 0, 1) := by decide +kernel
theorem dMo_server_97 : decode prog_13_method_29_code 97 = .ok (.iconst 0, 1) := by decide +kernel
theorem dMo_server_98 : decode prog_13_method_29_code 98 = .ok (.putfield 120, 3) := by decide +kernel
theorem dMo_server_101 : decode prog_13_method_29_code 101 = .ok (.iload_n 2, 1) := by decide +kernel
theorem dMo_server_102 : decode prog_13_method_29_code 102 = .ok (.aload_n 0, 1) := by decide +kernel
theorem dMo_server_103 : decode prog_13_method_29_code 103 = .ok (.getfield 18, 3) := by decide +kernel
theorem dMo_server_106 : decode prog_13_method_29_code 106 = .ok (.if_icmp .ge 45, 3) := by decide +kernel
theorem dMo_server_109 : decode prog_13_method_29_code 109 = .ok (.aload_n 0, 1) := by decide +kernel
theorem dMo_server_110 : decode prog_13_method_29_code 110 = .ok (.getfield 21, 3) := by decide +kernel
theorem dMo_server_113 : decode prog_13_method_29_code 113 = .ok (.iload_n 2, 1) := by decide +kernel
theorem dMo_server_114 : decode prog_13_method_29_code 114 = .ok (.baload, 1) := by decide +kernel
theorem dMo_server_115 : decode prog_13_method_29_code 115 = .ok (.bipush 32, 2) := by decide +kernel
theorem dMo_server_117 : decode prog_13_method_29_code 117 = .ok (.if_icmp .ne 34, 3) := by decide +kernel
theorem dMo_server_120 : decode prog_13_method_29_code 120 = .ok (.aload_n 0, 1) := by decide +kernel
theorem dMo_server_121 : decode prog_13_method_29_code 121 = .ok (.iload_n 2, 1) := by decide +kernel
theorem dMo_server_122 : decode prog_13_method_29_code 122 = .ok (.iconst 1, 1) := by decide +kernel
theorem dMo_server_123 : decode prog_13_method_29_code 123 = .ok (.iadd, 1) := by decide +kernel
theorem dMo_server_124 : decode prog_13_method_29_code 124 = .ok (.invokevirtual 158, 3) := by decide +kernel
theorem dMo_server_127 : decode prog_13_method_29_code 127 = .ok (.istore_n 3, 1) := by decide +kernel
theorem dMo_server_128 : decode prog_13_method_29_code 128 = .ok (.aload_n 0, 1) := by decide +kernel
theorem dMo_server_129 : decode prog_13_method_29_code 129 = .ok (.iload_n 2, 1) := by decide +kernel
theorem dMo_server_130 : decode prog_13_method_29_code 130 = .ok (.iconst 1, 1) := by decide +kernel
theorem dMo_server_131 : decode prog_13_method_29_code 131 = .ok (.iadd, 1) := by decide +kernel
theorem dMo_server_132 : decode prog_13_method_29_code 132 = .ok (.iload_n 3, 1) := by decide +kernel
theorem dMo_server_133 : decode prog_13_method_29_code 133 = .ok (.invokevirtual 161, 3) := by decide +kernel
theorem dMo_server_136 : decode prog_13_method_29_code 136 = .ok (.ifCond .ne 10, 3) := by decide +kernel
theorem dMo_server_139 : decode prog_13_method_29_code 139 = .ok (.iload_n 2, 1) := by decide +kernel
theorem dMo_server_140 : decode prog_13_method_29_code 140 = .ok (.iconst 1, 1) := by decide +kernel
theorem dMo_server_141 : decode prog_13_method_29_code 141 = .ok (.iadd, 1) := by decide +kernel
theorem dMo_server_142 : decode prog_13_method_29_code 142 = .ok (.invokestatic 155, 3) := by decide +kernel
theorem dMo_server_145 : decode prog_13_method_29_code 145 = .ok (.ireturn, 1) := by decide +kernel
theorem dMo_server_146 : decode prog_13_method_29_code 146 = .ok (.iload_n 3, 1) := by decide +kernel
theorem dMo_server_147 : decode prog_13_method_29_code 147 = .ok (.istore_n 2, 1) := by decide +kernel
theorem dMo_server_148 : decode prog_13_method_29_code 148 = .ok (.goto (-47), 3) := by decide +kernel
theorem dMo_server_151 : decode prog_13_method_29_code 151 = .ok (.iload_n 2, 1) := by decide +kernel
theorem dMo_server_152 : decode prog_13_method_29_code 152 = .ok (.aload_n 0, 1) := by decide +kernel
theorem dMo_server_153 : decode prog_13_method_29_code 153 = .ok (.getfield 18, 3) := by decide +kernel
theorem dMo_server_156 : decode prog_13_method_29_code 156 = .ok (.if_icmp .ne 11, 3) := by decide +kernel
theorem dMo_server_159 : decode prog_13_method_29_code 159 = .ok (.aload_n 0, 1) := by decide +kernel
theorem dMo_server_160 : decode prog_13_method_29_code 160 = .ok (.getfield 18, 3) := by decide +kernel
theorem dMo_server_163 : decode prog_13_method_29_code 163 = .ok (.invokestatic 155, 3) := by decide +kernel
theorem dMo_server_166 : decode prog_13_method_29_code 166 = .ok (.ireturn, 1) := by decide +kernel
theorem dMo_server_167 : decode prog_13_method_29_code 167 = .ok (.iinc 2 1, 3) := by decide +kernel
theorem dMo_server_170 : decode prog_13_method_29_code 170 = .ok (.aload_n 0, 1) := by decide +kernel
theorem dMo_server_171 : decode prog_13_method_29_code 171 = .ok (.getfield 18, 3) := by decide +kernel
theorem dMo_server_174 : decode prog_13_method_29_code 174 = .ok (.iload_n 2, 1) := by decide +kernel
theorem dMo_server_175 : decode prog_13_method_29_code 175 = .ok (.isub, 1) := by decide +kernel
theorem dMo_server_176 : decode prog_13_method_29_code 176 = .ok (.sipush 1500, 3) := by decide +kernel
theorem dMo_server_179 : decode prog_13_method_29_code 179 = .ok (.if_icmp .le 12, 3) := by decide +kernel
theorem dMo_server_182 : decode prog_13_method_29_code 182 = .ok (.iload_n 2, 1) := by decide +kernel
theorem dMo_server_183 : decode prog_13_method_29_code 183 = .ok (.sipush 1500, 3) := by decide +kernel
theorem dMo_server_186 : decode prog_13_method_29_code 186 = .ok (.iadd, 1) := by decide +kernel
theorem dMo_server_187 : decode prog_13_method_29_code 187 = .ok (.invokestatic 155, 3) := by decide +kernel
theorem dMo_server_190 : decode prog_13_method_29_code 190 = .ok (.ireturn, 1) := by decide +kernel
theorem dMo_server_191 : decode prog_13_method_29_code 191 = .ok (.iconst 0, 1) := by decide +kernel
theorem dMo_server_192 : decode prog_13_method_29_code 192 = .ok (.istore_n 3, 1) := by decide +kernel
theorem dMo_server_193 : decode prog_13_method_29_code 193 = .ok (.iload_n 3, 1) := by decide +kernel
theorem dMo_server_194 : decode prog_13_method_29_code 194 = .ok (.aload_n 0, 1) := by decide +kernel
theorem dMo_server_195 : decode prog_13_method_29_code 195 = .ok (.getfield 165, 3) := by decide +kernel
theorem dMo_server_198 : decode prog_13_method_29_code 198 = .ok (.if_icmp .ge 21, 3) := by decide +kernel
theorem dMo_server_201 : decode prog_13_method_29_code 201 = .ok (.aload_n 0, 1) := by decide +kernel
theorem dMo_server_202 : decode prog_13_method_29_code 202 = .ok (.bipush 6, 2) := by decide +kernel
theorem dMo_server_204 : decode prog_13_method_29_code 204 = .ok (.iload_n 3, 1) := by decide +kernel
theorem dMo_server_205 : decode prog_13_method_29_code 205 = .ok (.iadd, 1) := by decide +kernel
theorem dMo_server_206 : decode prog_13_method_29_code 206 = .ok (.iconst 3, 1) := by decide +kernel
theorem dMo_server_207 : decode prog_13_method_29_code 207 = .ok (.invokevirtual 168, 3) := by decide +kernel
theorem dMo_server_210 : decode prog_13_method_29_code 210 = .ok (.ifCond .ne 9, 3) := by decide +kernel
theorem dMo_server_213 : decode prog_13_method_29_code 213 = .ok (.iinc 3 1, 3) := by decide +kernel
theorem dMo_server_216 : decode prog_13_method_29_code 216 = .ok (.goto (-23), 3) := by decide +kernel
theorem dMo_server_219 : decode prog_13_method_29_code 219 = .ok (.iload_n 3, 1) := by decide +kernel
theorem dMo_server_220 : decode prog_13_method_29_code 220 = .ok (.bipush 12, 2) := by decide +kernel
theorem dMo_server_222 : decode prog_13_method_29_code 222 = .ok (.if_icmp .ne 5, 3) := by decide +kernel
theorem dMo_server_225 : decode prog_13_method_29_code 225 = .ok (.iconst (-1), 1) := by decide +kernel
theorem dMo_server_226 : decode prog_13_method_29_code 226 = .ok (.ireturn, 1) := by decide +kernel
theorem dMo_server_227 : decode prog_13_method_29_code 227 = .ok (.aload_n 0, 1) := by decide +kernel
theorem dMo_server_228 : decode prog_13_method_29_code 228 = .ok (.iload_n 3, 1) := by decide +kernel
theorem dMo_server_229 : decode prog_13_method_29_code 229 = .ok (.aload_n 0, 1) := by decide +kernel
theorem dMo_server_230 : decode prog_13_method_29_code 230 = .ok (.getfield 165, 3) := by decide +kernel
theorem dMo_server_233 : decode prog_13_method_29_code 233 = .ok (.if_icmp .ne 12, 3) := by decide +kernel
theorem dMo_server_236 : decode prog_13_method_29_code 236 = .ok (.aload_n 0, 1) := by decide +kernel
theorem dMo_server_237 : decode prog_13_method_29_code 237 = .ok (.getfield 165, 3) := by decide +kernel
theorem dMo_server_240 : decode prog_13_method_29_code 240 = .ok (.iconst 1, 1) := by decide +kernel
theorem dMo_server_241 : decode prog_13_method_29_code 241 = .ok (.iadd, 1) := by decide +kernel
theorem dMo_server_242 : decode prog_13_method_29_code 242 = .ok (.goto 7, 3) := by decide +kernel
theorem dMo_server_245 : decode prog_13_method_29_code 245 = .ok (.aload_n 0, 1) := by decide +kernel
theorem dMo_server_246 : decode prog_13_method_29_code 246 = .ok (.getfield 165, 3) := by decide +kernel
theorem dMo_server_249 : decode prog_13_method_29_code 249 = .ok (.putfield 165, 3) := by decide +kernel
theorem dMo_server_252 : decode prog_13_method_29_code 252 = .ok (.aload_n 0, 1) := by decide +kernel
theorem dMo_server_253 : decode prog_13_method_29_code 253 = .ok (.bipush 6, 2) := by decide +kernel
theorem dMo_server_255 : decode prog_13_method_29_code 255 = .ok (.iload_n 3, 1) := by decide +kernel
theorem dMo_server_256 : decode prog_13_method_29_code 256 = .ok (.iadd, 1) := by decide +kernel
theorem dMo_server_257 : decode prog_13_method_29_code 257 = .ok (.iconst 3, 1) := by decide +kernel
theorem dMo_server_258 : decode prog_13_method_29_code 258 = .ok (.invokevirtual 148, 3) := by decide +kernel
theorem dMo_server_261 : decode prog_13_method_29_code 261 = .ok (.aload_n 0, 1) := by decide +kernel
theorem dMo_server_262 : decode prog_13_method_29_code 262 = .ok (.getfield 171, 3) := by decide +kernel
theorem dMo_server_265 : decode prog_13_method_29_code 265 = .ok (.iload_n 3, 1) := by decide +kernel
theorem dMo_server_266 : decode prog_13_method_29_code 266 = .ok (.aload_n 0, 1) := by decide +kernel
theorem dMo_server_267 : decode prog_13_method_29_code 267 = .ok (.getfield 18, 3) := by decide +kernel
theorem dMo_server_270 : decode prog_13_method_29_code 270 = .ok (.iload_n 2, 1) := by decide +kernel
theorem dMo_server_271 : decode prog_13_method_29_code 271 = .ok (.isub, 1) := by decide +kernel
theorem dMo_server_272 : decode prog_13_method_29_code 272 = .ok (.iastore, 1) := by decide +kernel
theorem dMo_server_273 : decode prog_13_method_29_code 273 = .ok (.iconst 0, 1) := by decide +kernel
theorem dMo_server_274 : decode prog_13_method_29_code 274 = .ok (.istore 4, 2) := by decide +kernel
theorem dMo_server_276 : decode prog_13_method_29_code 276 = .ok (.iload 4, 2) := by decide +kernel
theorem dMo_server_278 : decode prog_13_method_29_code 278 = .ok (.aload_n 0, 1) := by decide +kernel
theorem dMo_server_279 : decode prog_13_method_29_code 279 = .ok (.getfield 171, 3) := by decide +kernel
theorem dMo_server_282 : decode prog_13_method_29_code 282 = .ok (.iload_n 3, 1) := by decide +kernel
theorem dMo_server_283 : decode prog_13_method_29_code 283 = .ok (.iaload, 1) := by decide +kernel
theorem dMo_server_284 : decode prog_13_method_29_code 284 = .ok (.if_icmp .ge 31, 3) := by decide +kernel
theorem dMo_server_287 : decode prog_13_method_29_code 287 = .ok (.aload_n 0, 1) := by decide +kernel
theorem dMo_server_288 : decode prog_13_method_29_code 288 = .ok (.getfield 174, 3) := by decide +kernel
theorem dMo_server_291 : decode prog_13_method_29_code 291 = .ok (.iload_n 3, 1) := by decide +kernel
theorem dMo_server_292 : decode prog_13_method_29_code 292 = .ok (.sipush 1500, 3) := by decide +kernel
theorem dMo_server_295 : decode prog_13_method_29_code 295 = .ok (.imul, 1) := by decide +kernel
theorem dMo_server_296 : decode prog_13_method_29_code 296 = .ok (.iload 4, 2) := by decide +kernel
theorem dMo_server_298 : decode prog_13_method_29_code 298 = .ok (.iadd, 1) := by decide +kernel
theorem dMo_server_299 : decode prog_13_method_29_code 299 = .ok (.aload_n 0, 1) := by decide +kernel
theorem dMo_server_300 : decode prog_13_method_29_code 300 = .ok (.getfield 21, 3) := by decide +kernel
theorem dMo_server_303 : decode prog_13_method_29_code 303 = .ok (.iload_n 2, 1) := by decide +kernel
theorem dMo_server_304 : decode prog_13_method_29_code 304 = .ok (.iload 4, 2) := by decide +kernel
theorem dMo_server_306 : decode prog_13_method_29_code 306 = .ok (.iadd, 1) := by decide +kernel
theorem dMo_server_307 : decode prog_13_method_29_code 307 = .ok (.baload, 1) := by decide +kernel
theorem dMo_server_308 : decode prog_13_method_29_code 308 = .ok (.bastore, 1) := by decide +kernel
theorem dMo_server_309 : decode prog_13_method_29_code 309 = .ok (.iinc 4 1, 3) := by decide +kernel
theorem dMo_server_312 : decode prog_13_method_29_code 312 = .ok (.goto (-36), 3) := by decide +kernel
theorem dMo_server_315 : decode prog_13_method_29_code 315 = .ok (.aload_n 0, 1) := by decide +kernel
theorem dMo_server_316 : decode prog_13_method_29_code 316 = .ok (.getfield 177, 3) := by decide +kernel
theorem dMo_server_319 : decode prog_13_method_29_code 319 = .ok (.iload_n 3, 1) := by decide +kernel
theorem dMo_server_320 : decode prog_13_method_29_code 320 = .ok (.aload_n 0, 1) := by decide +kernel
theorem dMo_server_321 : decode prog_13_method_29_code 321 = .ok (.getfield 125, 3) := by decide +kernel
theorem dMo_server_324 : decode prog_13_method_29_code 324 = .ok (.iastore, 1) := by decide +kernel
theorem dMo_server_325 : decode prog_13_method_29_code 325 = .ok (.aload_n 0, 1) := by decide +kernel
theorem dMo_server_326 : decode prog_13_method_29_code 326 = .ok (.getfield 180, 3) := by decide +kernel
theorem dMo_server_329 : decode prog_13_method_29_code 329 = .ok (.iload_n 3, 1) := by decide +kernel
theorem dMo_server_330 : decode prog_13_method_29_code 330 = .ok (.aload_n 0, 1) := by decide +kernel
theorem dMo_server_331 : decode prog_13_method_29_code 331 = .ok (.getfield 130, 3) := by decide +kernel
theorem dMo_server_334 : decode prog_13_method_29_code 334 = .ok (.iastore, 1) := by decide +kernel
theorem dMo_server_335 : decode prog_13_method_29_code 335 = .ok (.aload_n 0, 1) := by decide +kernel
theorem dMo_server_336 : decode prog_13_method_29_code 336 = .ok (.getfield 183, 3) := by decide +kernel
theorem dMo_server_339 : decode prog_13_method_29_code 339 = .ok (.iload_n 3, 1) := by decide +kernel
theorem dMo_server_340 : decode prog_13_method_29_code 340 = .ok (.aload_n 0, 1) := by decide +kernel
theorem dMo_server_341 : decode prog_13_method_29_code 341 = .ok (.getfield 133, 3) := by decide +kernel
theorem dMo_server_344 : decode prog_13_method_29_code 344 = .ok (.iastore, 1) := by decide +kernel
theorem dMo_server_345 : decode prog_13_method_29_code 345 = .ok (.iconst 0, 1) := by decide +kernel
theorem dMo_server_346 : decode prog_13_method_29_code 346 = .ok (.istore 4, 2) := by decide +kernel
theorem dMo_server_348 : decode prog_13_method_29_code 348 = .ok (.iload 4, 2) := by decide +kernel
theorem dMo_server_350 : decode prog_13_method_29_code 350 = .ok (.bipush 16, 2) := by decide +kernel
theorem dMo_server_352 : decode prog_13_method_29_code 352 = .ok (.if_icmp .ge 28, 3) := by decide +kernel
theorem dMo_server_355 : decode prog_13_method_29_code 355 = .ok (.aload_n 0, 1) := by decide +kernel
theorem dMo_server_356 : decode prog_13_method_29_code 356 = .ok (.getfield 186, 3) := by decide +kernel
theorem dMo_server_359 : decode prog_13_method_29_code 359 = .ok (.bipush 16, 2) := by decide +kernel
theorem dMo_server_361 : decode prog_13_method_29_code 361 = .ok (.iload_n 3, 1) := by decide +kernel
theorem dMo_server_362 : decode prog_13_method_29_code 362 = .ok (.imul, 1) := by decide +kernel
theorem dMo_server_363 : decode prog_13_method_29_code 363 = .ok (.iload 4, 2) := by decide +kernel
theorem dMo_server_365 : decode prog_13_method_29_code 365 = .ok (.iadd, 1) := by decide +kernel
theorem dMo_server_366 : decode prog_13_method_29_code 366 = .ok (.aload_n 0, 1) := by decide +kernel
theorem dMo_server_367 : decode prog_13_method_29_code 367 = .ok (.getfield 136, 3) := by decide +kernel
theorem dMo_server_370 : decode prog_13_method_29_code 370 = .ok (.iload 4, 2) := by decide +kernel
theorem dMo_server_372 : decode prog_13_method_29_code 372 = .ok (.baload, 1) := by decide +kernel
theorem dMo_server_373 : decode prog_13_method_29_code 373 = .ok (.bastore, 1) := by decide +kernel
theorem dMo_server_374 : decode prog_13_method_29_code 374 = .ok (.iinc 4 1, 3) := by decide +kernel
theorem dMo_server_377 : decode prog_13_method_29_code 377 = .ok (.goto (-29), 3) := by decide +kernel
theorem dMo_server_380 : decode prog_13_method_29_code 380 = .ok (.aload_n 0, 1) := by decide +kernel
theorem dMo_server_381 : decode prog_13_method_29_code 381 = .ok (.getfield 189, 3) := by decide +kernel
theorem dMo_server_384 : decode prog_13_method_29_code 384 = .ok (.iload_n 3, 1) := by decide +kernel
theorem dMo_server_385 : decode prog_13_method_29_code 385 = .ok (.aload_n 0, 1) := by decide +kernel
theorem dMo_server_386 : decode prog_13_method_29_code 386 = .ok (.getfield 141, 3) := by decide +kernel
theorem dMo_server_389 : decode prog_13_method_29_code 389 = .ok (.ifCond .le 7, 3) := by decide +kernel
theorem dMo_server_392 : decode prog_13_method_29_code 392 = .ok (.iconst 1, 1) := by decide +kernel
theorem dMo_server_393 : decode prog_13_method_29_code 393 = .ok (.goto 4, 3) := by decide +kernel
theorem dMo_server_396 : decode prog_13_method_29_code 396 = .ok (.iconst 0, 1) := by decide +kernel
theorem dMo_server_397 : decode prog_13_method_29_code 397 = .ok (.bastore, 1) := by decide +kernel
theorem dMo_server_398 : decode prog_13_method_29_code 398 = .ok (.aload_n 0, 1) := by decide +kernel
theorem dMo_server_399 : decode prog_13_method_29_code 399 = .ok (.getfield 189, 3) := by decide +kernel
theorem dMo_server_402 : decode prog_13_method_29_code 402 = .ok (.iload_n 3, 1) := by decide +kernel
theorem dMo_server_403 : decode prog_13_method_29_code 403 = .ok (.baload, 1) := by decide +kernel
theorem dMo_server_404 : decode prog_13_method_29_code 404 = .ok (.ifCond .eq 12, 3) := by decide +kernel
theorem dMo_server_407 : decode prog_13_method_29_code 407 = .ok (.aload_n 0, 1) := by decide +kernel
theorem dMo_server_408 : decode prog_13_method_29_code 408 = .ok (.bipush 46, 2) := by decide +kernel
theorem dMo_server_410 : decode prog_13_method_29_code 410 = .ok (.iload_n 3, 1) := by decide +kernel
theorem dMo_server_411 : decode prog_13_method_29_code 411 = .ok (.iadd, 1) := by decide +kernel
theorem dMo_server_412 : decode prog_13_method_29_code 412 = .ok (.iconst 4, 1) := by decide +kernel
theorem dMo_server_413 : decode prog_13_method_29_code 413 = .ok (.invokevirtual 148, 3) := by decide +kernel
theorem dMo_server_416 : decode prog_13_method_29_code 416 = .ok (.aload_n 0, 1) := by decide +kernel
theorem dMo_server_417 : decode prog_13_method_29_code 417 = .ok (.getfield 193, 3) := by decide +kernel
theorem dMo_server_420 : decode prog_13_method_29_code 420 = .ok (.iload_n 3, 1) := by decide +kernel
theorem dMo_server_421 : decode prog_13_method_29_code 421 = .ok (.aload_n 0, 1) := by decide +kernel
theorem dMo_server_422 : decode prog_13_method_29_code 422 = .ok (.getfield 120, 3) := by decide +kernel
theorem dMo_server_425 : decode prog_13_method_29_code 425 = .ok (.ifCond .le 7, 3) := by decide +kernel
theorem dMo_server_428 : decode prog_13_method_29_code 428 = .ok (.iconst 1, 1) := by decide +kernel
theorem dMo_server_429 : decode prog_13_method_29_code 429 = .ok (.goto 4, 3) := by decide +kernel
theorem dMo_server_432 : decode prog_13_method_29_code 432 = .ok (.iconst 0, 1) := by decide +kernel
theorem dMo_server_433 : decode prog_13_method_29_code 433 = .ok (.bastore, 1) := by decide +kernel
theorem dMo_server_434 : decode prog_13_method_29_code 434 = .ok (.aload_n 0, 1) := by decide +kernel
theorem dMo_server_435 : decode prog_13_method_29_code 435 = .ok (.getfield 165, 3) := by decide +kernel
theorem dMo_server_438 : decode prog_13_method_29_code 438 = .ok (.ireturn, 1) := by decide +kernel
theorem dMo_take_0 : decode prog_13_method_3_code 0 = .ok (.aload_n 0, 1) := by decide +kernel
theorem dMo_take_1 : decode prog_13_method_3_code 1 = .ok (.aload_n 0, 1) := by decide +kernel
theorem dMo_take_2 : decode prog_13_method_3_code 2 = .ok (.getfield 15, 3) := by decide +kernel
theorem dMo_take_5 : decode prog_13_method_3_code 5 = .ok (.putfield 18, 3) := by decide +kernel
theorem dMo_take_8 : decode prog_13_method_3_code 8 = .ok (.iconst 0, 1) := by decide +kernel
theorem dMo_take_9 : decode prog_13_method_3_code 9 = .ok (.istore_n 1, 1) := by decide +kernel
theorem dMo_take_10 : decode prog_13_method_3_code 10 = .ok (.iload_n 1, 1) := by decide +kernel
theorem dMo_take_11 : decode prog_13_method_3_code 11 = .ok (.aload_n 0, 1) := by decide +kernel
theorem dMo_take_12 : decode prog_13_method_3_code 12 = .ok (.getfield 18, 3) := by decide +kernel
theorem dMo_take_15 : decode prog_13_method_3_code 15 = .ok (.if_icmp .ge 21, 3) := by decide +kernel
theorem dMo_take_18 : decode prog_13_method_3_code 18 = .ok (.aload_n 0, 1) := by decide +kernel
theorem dMo_take_19 : decode prog_13_method_3_code 19 = .ok (.getfield 21, 3) := by decide +kernel
theorem dMo_take_22 : decode prog_13_method_3_code 22 = .ok (.iload_n 1, 1) := by decide +kernel
theorem dMo_take_23 : decode prog_13_method_3_code 23 = .ok (.aload_n 0, 1) := by decide +kernel
theorem dMo_take_24 : decode prog_13_method_3_code 24 = .ok (.getfield 24, 3) := by decide +kernel
theorem dMo_take_27 : decode prog_13_method_3_code 27 = .ok (.iload_n 1, 1) := by decide +kernel
theorem dMo_take_28 : decode prog_13_method_3_code 28 = .ok (.baload, 1) := by decide +kernel
theorem dMo_take_29 : decode prog_13_method_3_code 29 = .ok (.bastore, 1) := by decide +kernel
theorem dMo_take_30 : decode prog_13_method_3_code 30 = .ok (.iinc 1 1, 3) := by decide +kernel
theorem dMo_take_33 : decode prog_13_method_3_code 33 = .ok (.goto (-23), 3) := by decide +kernel
theorem dMo_take_36 : decode prog_13_method_3_code 36 = .ok (.aload_n 0, 1) := by decide +kernel
theorem dMo_take_37 : decode prog_13_method_3_code 37 = .ok (.iconst 0, 1) := by decide +kernel
theorem dMo_take_38 : decode prog_13_method_3_code 38 = .ok (.putfield 15, 3) := by decide +kernel
theorem dMo_take_41 : decode prog_13_method_3_code 41 = .ok (.iconst 0, 1) := by decide +kernel
theorem dMo_take_42 : decode prog_13_method_3_code 42 = .ok (.istore_n 1, 1) := by decide +kernel
theorem dMo_take_43 : decode prog_13_method_3_code 43 = .ok (.iload_n 1, 1) := by decide +kernel
theorem dMo_take_44 : decode prog_13_method_3_code 44 = .ok (.aload_n 0, 1) := by decide +kernel
theorem dMo_take_45 : decode prog_13_method_3_code 45 = .ok (.getfield 18, 3) := by decide +kernel
theorem dMo_take_48 : decode prog_13_method_3_code 48 = .ok (.if_icmp .ge 36, 3) := by decide +kernel
theorem dMo_take_51 : decode prog_13_method_3_code 51 = .ok (.aload_n 0, 1) := by decide +kernel
theorem dMo_take_52 : decode prog_13_method_3_code 52 = .ok (.getfield 21, 3) := by decide +kernel
theorem dMo_take_55 : decode prog_13_method_3_code 55 = .ok (.iload_n 1, 1) := by decide +kernel
theorem dMo_take_56 : decode prog_13_method_3_code 56 = .ok (.baload, 1) := by decide +kernel
theorem dMo_take_57 : decode prog_13_method_3_code 57 = .ok (.istore_n 2, 1) := by decide +kernel
theorem dMo_take_58 : decode prog_13_method_3_code 58 = .ok (.iload_n 2, 1) := by decide +kernel
theorem dMo_take_59 : decode prog_13_method_3_code 59 = .ok (.bipush 10, 2) := by decide +kernel
theorem dMo_take_61 : decode prog_13_method_3_code 61 = .ok (.if_icmp .eq 17, 3) := by decide +kernel
theorem dMo_take_64 : decode prog_13_method_3_code 64 = .ok (.iload_n 2, 1) := by decide +kernel
theorem dMo_take_65 : decode prog_13_method_3_code 65 = .ok (.bipush 32, 2) := by decide +kernel
theorem dMo_take_67 : decode prog_13_method_3_code 67 = .ok (.if_icmp .lt 9, 3) := by decide +kernel
theorem dMo_take_70 : decode prog_13_method_3_code 70 = .ok (.iload_n 2, 1) := by decide +kernel
theorem dMo_take_71 : decode prog_13_method_3_code 71 = .ok (.bipush 126, 2) := by decide +kernel
theorem dMo_take_73 : decode prog_13_method_3_code 73 = .ok (.if_icmp .le 5, 3) := by decide +kernel
theorem dMo_take_76 : decode prog_13_method_3_code 76 = .ok (.iload_n 1, 1) := by decide +kernel
theorem dMo_take_77 : decode prog_13_method_3_code 77 = .ok (.ireturn, 1) := by decide +kernel
theorem dMo_take_78 : decode prog_13_method_3_code 78 = .ok (.iinc 1 1, 3) := by decide +kernel
theorem dMo_take_81 : decode prog_13_method_3_code 81 = .ok (.goto (-38), 3) := by decide +kernel
theorem dMo_take_84 : decode prog_13_method_3_code 84 = .ok (.iconst (-1), 1) := by decide +kernel
theorem dMo_take_85 : decode prog_13_method_3_code 85 = .ok (.ireturn, 1) := by decide +kernel
theorem dMo_wrong_0 : decode prog_13_method_4_code 0 = .ok (.sipush (-1000), 3) := by decide +kernel
theorem dMo_wrong_3 : decode prog_13_method_4_code 3 = .ok (.iload_n 0, 1) := by decide +kernel
theorem dMo_wrong_4 : decode prog_13_method_4_code 4 = .ok (.isub, 1) := by decide +kernel
theorem dMo_wrong_5 : decode prog_13_method_4_code 5 = .ok (.ireturn, 1) := by decide +kernel
theorem dMo_tokenEnd_0 : decode prog_13_method_27_code 0 = .ok (.iload_n 1, 1) := by decide +kernel
theorem dMo_tokenEnd_1 : decode prog_13_method_27_code 1 = .ok (.istore_n 2, 1) := by decide +kernel
theorem dMo_tokenEnd_2 : decode prog_13_method_27_code 2 = .ok (.iload_n 2, 1) := by decide +kernel
theorem dMo_tokenEnd_3 : decode prog_13_method_27_code 3 = .ok (.aload_n 0, 1) := by decide +kernel
theorem dMo_tokenEnd_4 : decode prog_13_method_27_code 4 = .ok (.getfield 18, 3) := by decide +kernel
theorem dMo_tokenEnd_7 : decode prog_13_method_27_code 7 = .ok (.if_icmp .ge 21, 3) := by decide +kernel
theorem dMo_tokenEnd_10 : decode prog_13_method_27_code 10 = .ok (.aload_n 0, 1) := by decide +kernel
theorem dMo_tokenEnd_11 : decode prog_13_method_27_code 11 = .ok (.getfield 21, 3) := by decide +kernel
theorem dMo_tokenEnd_14 : decode prog_13_method_27_code 14 = .ok (.iload_n 2, 1) := by decide +kernel
theorem dMo_tokenEnd_15 : decode prog_13_method_27_code 15 = .ok (.baload, 1) := by decide +kernel
theorem dMo_tokenEnd_16 : decode prog_13_method_27_code 16 = .ok (.invokestatic 111, 3) := by decide +kernel
theorem dMo_tokenEnd_19 : decode prog_13_method_27_code 19 = .ok (.ifCond .ne 9, 3) := by decide +kernel
theorem dMo_tokenEnd_22 : decode prog_13_method_27_code 22 = .ok (.iinc 2 1, 3) := by decide +kernel
theorem dMo_tokenEnd_25 : decode prog_13_method_27_code 25 = .ok (.goto (-23), 3) := by decide +kernel
theorem dMo_tokenEnd_28 : decode prog_13_method_27_code 28 = .ok (.iload_n 2, 1) := by decide +kernel
theorem dMo_tokenEnd_29 : decode prog_13_method_27_code 29 = .ok (.ireturn, 1) := by decide +kernel
theorem dMo_isBlank_0 : decode prog_13_method_7_code 0 = .ok (.iload_n 0, 1) := by decide +kernel
theorem dMo_isBlank_1 : decode prog_13_method_7_code 1 = .ok (.bipush 10, 2) := by decide +kernel
theorem dMo_isBlank_3 : decode prog_13_method_7_code 3 = .ok (.if_icmp .eq 9, 3) := by decide +kernel
theorem dMo_isBlank_6 : decode prog_13_method_7_code 6 = .ok (.iload_n 0, 1) := by decide +kernel
theorem dMo_isBlank_7 : decode prog_13_method_7_code 7 = .ok (.bipush 32, 2) := by decide +kernel
theorem dMo_isBlank_9 : decode prog_13_method_7_code 9 = .ok (.if_icmp .ne 7, 3) := by decide +kernel
theorem dMo_isBlank_12 : decode prog_13_method_7_code 12 = .ok (.iconst 1, 1) := by decide +kernel
theorem dMo_isBlank_13 : decode prog_13_method_7_code 13 = .ok (.goto 4, 3) := by decide +kernel
theorem dMo_isBlank_16 : decode prog_13_method_7_code 16 = .ok (.iconst 0, 1) := by decide +kernel
theorem dMo_isBlank_17 : decode prog_13_method_7_code 17 = .ok (.ireturn, 1) := by decide +kernel
theorem dMo_refer_0 : decode prog_13_method_24_code 0 = .ok (.aload_n 0, 1) := by decide +kernel
theorem dMo_refer_1 : decode prog_13_method_24_code 1 = .ok (.iconst 0, 1) := by decide +kernel
theorem dMo_refer_2 : decode prog_13_method_24_code 2 = .ok (.putfield 61, 3) := by decide +kernel
theorem dMo_refer_5 : decode prog_13_method_24_code 5 = .ok (.aload_n 0, 1) := by decide +kernel
theorem dMo_refer_6 : decode prog_13_method_24_code 6 = .ok (.iconst 0, 1) := by decide +kernel
theorem dMo_refer_7 : decode prog_13_method_24_code 7 = .ok (.putfield 57, 3) := by decide +kernel
theorem dMo_refer_10 : decode prog_13_method_24_code 10 = .ok (.aload_n 0, 1) := by decide +kernel
theorem dMo_refer_11 : decode prog_13_method_24_code 11 = .ok (.iload_n 2, 1) := by decide +kernel
theorem dMo_refer_12 : decode prog_13_method_24_code 12 = .ok (.putfield 73, 3) := by decide +kernel
theorem dMo_refer_15 : decode prog_13_method_24_code 15 = .ok (.aload_n 0, 1) := by decide +kernel
theorem dMo_refer_16 : decode prog_13_method_24_code 16 = .ok (.getfield 39, 3) := by decide +kernel
theorem dMo_refer_19 : decode prog_13_method_24_code 19 = .ok (.iconst 0, 1) := by decide +kernel
theorem dMo_refer_20 : decode prog_13_method_24_code 20 = .ok (.iconst 0, 1) := by decide +kernel
theorem dMo_refer_21 : decode prog_13_method_24_code 21 = .ok (.iastore, 1) := by decide +kernel
theorem dMo_refer_22 : decode prog_13_method_24_code 22 = .ok (.aload_n 0, 1) := by decide +kernel
theorem dMo_refer_23 : decode prog_13_method_24_code 23 = .ok (.getfield 43, 3) := by decide +kernel
theorem dMo_refer_26 : decode prog_13_method_24_code 26 = .ok (.iconst 0, 1) := by decide +kernel
theorem dMo_refer_27 : decode prog_13_method_24_code 27 = .ok (.iconst 0, 1) := by decide +kernel
theorem dMo_refer_28 : decode prog_13_method_24_code 28 = .ok (.iastore, 1) := by decide +kernel
theorem dMo_refer_29 : decode prog_13_method_24_code 29 = .ok (.iconst 1, 1) := by decide +kernel
theorem dMo_refer_30 : decode prog_13_method_24_code 30 = .ok (.istore 5, 2) := by decide +kernel
theorem dMo_refer_32 : decode prog_13_method_24_code 32 = .ok (.iload_n 2, 1) := by decide +kernel
theorem dMo_refer_33 : decode prog_13_method_24_code 33 = .ok (.iconst 1, 1) := by decide +kernel
theorem dMo_refer_34 : decode prog_13_method_24_code 34 = .ok (.iadd, 1) := by decide +kernel
theorem dMo_refer_35 : decode prog_13_method_24_code 35 = .ok (.iload_n 3, 1) := by decide +kernel
theorem dMo_refer_36 : decode prog_13_method_24_code 36 = .ok (.if_icmp .ge 102, 3) := by decide +kernel
theorem dMo_refer_39 : decode prog_13_method_24_code 39 = .ok (.aload_n 1, 1) := by decide +kernel
theorem dMo_refer_40 : decode prog_13_method_24_code 40 = .ok (.iload_n 2, 1) := by decide +kernel
theorem dMo_refer_41 : decode prog_13_method_24_code 41 = .ok (.baload, 1) := by decide +kernel
theorem dMo_refer_42 : decode prog_13_method_24_code 42 = .ok (.bipush 47, 2) := by decide +kernel
theorem dMo_refer_44 : decode prog_13_method_24_code 44 = .ok (.if_icmp .ne 94, 3) := by decide +kernel
theorem dMo_refer_47 : decode prog_13_method_24_code 47 = .ok (.aload_n 1, 1) := by decide +kernel
theorem dMo_refer_48 : decode prog_13_method_24_code 48 = .ok (.iload_n 2, 1) := by decide +kernel
theorem dMo_refer_49 : decode prog_13_method_24_code 49 = .ok (.iconst 1, 1) := by decide +kernel
theorem dMo_refer_50 : decode prog_13_method_24_code 50 = .ok (.iadd, 1) := by decide +kernel
theorem dMo_refer_51 : decode prog_13_method_24_code 51 = .ok (.baload, 1) := by decide +kernel
theorem dMo_refer_52 : decode prog_13_method_24_code 52 = .ok (.bipush 47, 2) := by decide +kernel
theorem dMo_refer_54 : decode prog_13_method_24_code 54 = .ok (.if_icmp .ne 84, 3) := by decide +kernel
theorem dMo_refer_57 : decode prog_13_method_24_code 57 = .ok (.aload_n 1, 1) := by decide +kernel
theorem dMo_refer_58 : decode prog_13_method_24_code 58 = .ok (.iload_n 2, 1) := by decide +kernel
theorem dMo_refer_59 : decode prog_13_method_24_code 59 = .ok (.iconst 2, 1) := by decide +kernel
theorem dMo_refer_60 : decode prog_13_method_24_code 60 = .ok (.iadd, 1) := by decide +kernel
theorem dMo_refer_61 : decode prog_13_method_24_code 61 = .ok (.iload_n 3, 1) := by decide +kernel
theorem dMo_refer_62 : decode prog_13_method_24_code 62 = .ok (.invokestatic 87, 3) := by decide +kernel
theorem dMo_refer_65 : decode prog_13_method_24_code 65 = .ok (.istore 6, 2) := by decide +kernel
theorem dMo_refer_67 : decode prog_13_method_24_code 67 = .ok (.iload 6, 2) := by decide +kernel
theorem dMo_refer_69 : decode prog_13_method_24_code 69 = .ok (.iload_n 2, 1) := by decide +kernel
theorem dMo_refer_70 : decode prog_13_method_24_code 70 = .ok (.iconst 2, 1) := by decide +kernel
theorem dMo_refer_71 : decode prog_13_method_24_code 71 = .ok (.iadd, 1) := by decide +kernel
theorem dMo_refer_72 : decode prog_13_method_24_code 72 = .ok (.if_icmp .ne 5, 3) := by decide +kernel
theorem dMo_refer_75 : decode prog_13_method_24_code 75 = .ok (.iconst 0, 1) := by decide +kernel
theorem dMo_refer_76 : decode prog_13_method_24_code 76 = .ok (.ireturn, 1) := by decide +kernel
theorem dMo_refer_77 : decode prog_13_method_24_code 77 = .ok (.iload_n 2, 1) := by decide +kernel
theorem dMo_refer_78 : decode prog_13_method_24_code 78 = .ok (.istore 7, 2) := by decide +kernel
theorem dMo_refer_80 : decode prog_13_method_24_code 80 = .ok (.iload 7, 2) := by decide +kernel
theorem dMo_refer_82 : decode prog_13_method_24_code 82 = .ok (.iload 6, 2) := by decide +kernel
theorem dMo_refer_84 : decode prog_13_method_24_code 84 = .ok (.if_icmp .ge 18, 3) := by decide +kernel
theorem dMo_refer_87 : decode prog_13_method_24_code 87 = .ok (.aload_n 0, 1) := by decide +kernel
theorem dMo_refer_88 : decode prog_13_method_24_code 88 = .ok (.iconst 0, 1) := by decide +kernel
theorem dMo_refer_89 : decode prog_13_method_24_code 89 = .ok (.aload_n 1, 1) := by decide +kernel
theorem dMo_refer_90 : decode prog_13_method_24_code 90 = .ok (.iload 7, 2) := by decide +kernel
theorem dMo_refer_92 : decode prog_13_method_24_code 92 = .ok (.baload, 1) := by decide +kernel
theorem dMo_refer_93 : decode prog_13_method_24_code 93 = .ok (.invokevirtual 91, 3) := by decide +kernel
theorem dMo_refer_96 : decode prog_13_method_24_code 96 = .ok (.iinc 7 1, 3) := by decide +kernel
theorem dMo_refer_99 : decode prog_13_method_24_code 99 = .ok (.goto (-19), 3) := by decide +kernel
theorem dMo_refer_102 : decode prog_13_method_24_code 102 = .ok (.aload_n 0, 1) := by decide +kernel
theorem dMo_refer_103 : decode prog_13_method_24_code 103 = .ok (.iload 6, 2) := by decide +kernel
theorem dMo_refer_105 : decode prog_13_method_24_code 105 = .ok (.putfield 73, 3) := by decide +kernel
theorem dMo_refer_108 : decode prog_13_method_24_code 108 = .ok (.aload_n 0, 1) := by decide +kernel
theorem dMo_refer_109 : decode prog_13_method_24_code 109 = .ok (.aload_n 1, 1) := by decide +kernel
theorem dMo_refer_110 : decode prog_13_method_24_code 110 = .ok (.iload_n 3, 1) := by decide +kernel
theorem dMo_refer_111 : decode prog_13_method_24_code 111 = .ok (.invokevirtual 95, 3) := by decide +kernel
theorem dMo_refer_114 : decode prog_13_method_24_code 114 = .ok (.ifCond .ne 5, 3) := by decide +kernel
theorem dMo_refer_117 : decode prog_13_method_24_code 117 = .ok (.iconst 0, 1) := by decide +kernel
theorem dMo_refer_118 : decode prog_13_method_24_code 118 = .ok (.ireturn, 1) := by decide +kernel
theorem dMo_refer_119 : decode prog_13_method_24_code 119 = .ok (.iload 6, 2) := by decide +kernel
theorem dMo_refer_121 : decode prog_13_method_24_code 121 = .ok (.aload_n 0, 1) := by decide +kernel
theorem dMo_refer_122 : decode prog_13_method_24_code 122 = .ok (.getfield 73, 3) := by decide +kernel
theorem dMo_refer_125 : decode prog_13_method_24_code 125 = .ok (.if_icmp .ne 10, 3) := by decide +kernel
theorem dMo_refer_128 : decode prog_13_method_24_code 128 = .ok (.aload_n 0, 1) := by decide +kernel
theorem dMo_refer_129 : decode prog_13_method_24_code 129 = .ok (.aload_n 1, 1) := by decide +kernel
theorem dMo_refer_130 : decode prog_13_method_24_code 130 = .ok (.iload_n 2, 1) := by decide +kernel
theorem dMo_refer_131 : decode prog_13_method_24_code 131 = .ok (.iconst 0, 1) := by decide +kernel
theorem dMo_refer_132 : decode prog_13_method_24_code 132 = .ok (.invokevirtual 80, 3) := by decide +kernel
theorem dMo_refer_135 : decode prog_13_method_24_code 135 = .ok (.goto 121, 3) := by decide +kernel
theorem dMo_refer_138 : decode prog_13_method_24_code 138 = .ok (.aload_n 0, 1) := by decide +kernel
theorem dMo_refer_139 : decode prog_13_method_24_code 139 = .ok (.iload 4, 2) := by decide +kernel
theorem dMo_refer_141 : decode prog_13_method_24_code 141 = .ok (.invokevirtual 50, 3) := by decide +kernel
theorem dMo_refer_144 : decode prog_13_method_24_code 144 = .ok (.istore 6, 2) := by decide +kernel
theorem dMo_refer_146 : decode prog_13_method_24_code 146 = .ok (.iconst 0, 1) := by decide +kernel
theorem dMo_refer_147 : decode prog_13_method_24_code 147 = .ok (.istore 7, 2) := by decide +kernel
theorem dMo_refer_149 : decode prog_13_method_24_code 149 = .ok (.iload 7, 2) := by decide +kernel
theorem dMo_refer_151 : decode prog_13_method_24_code 151 = .ok (.iload 6, 2) := by decide +kernel
theorem dMo_refer_153 : decode prog_13_method_24_code 153 = .ok (.if_icmp .ge 28, 3) := by decide +kernel
theorem dMo_refer_156 : decode prog_13_method_24_code 156 = .ok (.aload_n 0, 1) := by decide +kernel
theorem dMo_refer_157 : decode prog_13_method_24_code 157 = .ok (.iconst 0, 1) := by decide +kernel
theorem dMo_refer_158 : decode prog_13_method_24_code 158 = .ok (.aload_n 0, 1) := by decide +kernel
theorem dMo_refer_159 : decode prog_13_method_24_code 159 = .ok (.getfield 36, 3) := by decide +kernel
theorem dMo_refer_162 : decode prog_13_method_24_code 162 = .ok (.iload 4, 2) := by decide +kernel
theorem dMo_refer_164 : decode prog_13_method_24_code 164 = .ok (.sipush 150, 3) := by decide +kernel
theorem dMo_refer_167 : decode prog_13_method_24_code 167 = .ok (.imul, 1) := by decide +kernel
theorem dMo_refer_168 : decode prog_13_method_24_code 168 = .ok (.iload 7, 2) := by decide +kernel
theorem dMo_refer_170 : decode prog_13_method_24_code 170 = .ok (.iadd, 1) := by decide +kernel
theorem dMo_refer_171 : decode prog_13_method_24_code 171 = .ok (.baload, 1) := by decide +kernel
theorem dMo_refer_172 : decode prog_13_method_24_code 172 = .ok (.invokevirtual 91, 3) := by decide +kernel
theorem dMo_refer_175 : decode prog_13_method_24_code 175 = .ok (.iinc 7 1, 3) := by decide +kernel
theorem dMo_refer_178 : decode prog_13_method_24_code 178 = .ok (.goto (-29), 3) := by decide +kernel
theorem dMo_refer_181 : decode prog_13_method_24_code 181 = .ok (.iload_n 2, 1) := by decide +kernel
theorem dMo_refer_182 : decode prog_13_method_24_code 182 = .ok (.iload_n 3, 1) := by decide +kernel
theorem dMo_refer_183 : decode prog_13_method_24_code 183 = .ok (.if_icmp .ge 22, 3) := by decide +kernel
theorem dMo_refer_186 : decode prog_13_method_24_code 186 = .ok (.aload_n 1, 1) := by decide +kernel
theorem dMo_refer_187 : decode prog_13_method_24_code 187 = .ok (.iload_n 2, 1) := by decide +kernel
theorem dMo_refer_188 : decode prog_13_method_24_code 188 = .ok (.baload, 1) := by decide +kernel
theorem dMo_refer_189 : decode prog_13_method_24_code 189 = .ok (.bipush 47, 2) := by decide +kernel
theorem dMo_refer_191 : decode prog_13_method_24_code 191 = .ok (.if_icmp .ne 14, 3) := by decide +kernel
theorem dMo_refer_194 : decode prog_13_method_24_code 194 = .ok (.aload_n 0, 1) := by decide +kernel
theorem dMo_refer_195 : decode prog_13_method_24_code 195 = .ok (.aload_n 1, 1) := by decide +kernel
theorem dMo_refer_196 : decode prog_13_method_24_code 196 = .ok (.iload_n 3, 1) := by decide +kernel
theorem dMo_refer_197 : decode prog_13_method_24_code 197 = .ok (.invokevirtual 95, 3) := by decide +kernel
theorem dMo_refer_200 : decode prog_13_method_24_code 200 = .ok (.ifCond .ne 56, 3) := by decide +kernel
theorem dMo_refer_203 : decode prog_13_method_24_code 203 = .ok (.iconst 0, 1) := by decide +kernel
theorem dMo_refer_204 : decode prog_13_method_24_code 204 = .ok (.ireturn, 1) := by decide +kernel
theorem dMo_refer_205 : decode prog_13_method_24_code 205 = .ok (.iload_n 2, 1) := by decide +kernel
theorem dMo_refer_206 : decode prog_13_method_24_code 206 = .ok (.iload_n 3, 1) := by decide +kernel
theorem dMo_refer_207 : decode prog_13_method_24_code 207 = .ok (.if_icmp .ge 39, 3) := by decide +kernel
theorem dMo_refer_210 : decode prog_13_method_24_code 210 = .ok (.aload_n 1, 1) := by decide +kernel
theorem dMo_refer_211 : decode prog_13_method_24_code 211 = .ok (.iload_n 2, 1) := by decide +kernel
theorem dMo_refer_212 : decode prog_13_method_24_code 212 = .ok (.baload, 1) := by decide +kernel
theorem dMo_refer_213 : decode prog_13_method_24_code 213 = .ok (.invokestatic 54, 3) := by decide +kernel
theorem dMo_refer_216 : decode prog_13_method_24_code 216 = .ok (.ifCond .eq 30, 3) := by decide +kernel
theorem dMo_refer_219 : decode prog_13_method_24_code 219 = .ok (.aload_n 0, 1) := by decide +kernel
theorem dMo_refer_220 : decode prog_13_method_24_code 220 = .ok (.iload 4, 2) := by decide +kernel
theorem dMo_refer_222 : decode prog_13_method_24_code 222 = .ok (.iconst 0, 1) := by decide +kernel
theorem dMo_refer_223 : decode prog_13_method_24_code 223 = .ok (.invokevirtual 97, 3) := by decide +kernel
theorem dMo_refer_226 : decode prog_13_method_24_code 226 = .ok (.aload_n 0, 1) := by decide +kernel
theorem dMo_refer_227 : decode prog_13_method_24_code 227 = .ok (.aload_n 1, 1) := by decide +kernel
theorem dMo_refer_228 : decode prog_13_method_24_code 228 = .ok (.iload_n 3, 1) := by decide +kernel
theorem dMo_refer_229 : decode prog_13_method_24_code 229 = .ok (.invokevirtual 76, 3) := by decide +kernel
theorem dMo_refer_232 : decode prog_13_method_24_code 232 = .ok (.ifCond .eq 12, 3) := by decide +kernel
theorem dMo_refer_235 : decode prog_13_method_24_code 235 = .ok (.aload_n 0, 1) := by decide +kernel
theorem dMo_refer_236 : decode prog_13_method_24_code 236 = .ok (.aload_n 1, 1) := by decide +kernel
theorem dMo_refer_237 : decode prog_13_method_24_code 237 = .ok (.iload_n 3, 1) := by decide +kernel
theorem dMo_refer_238 : decode prog_13_method_24_code 238 = .ok (.invokevirtual 95, 3) := by decide +kernel
theorem dMo_refer_241 : decode prog_13_method_24_code 241 = .ok (.ifCond .ne 15, 3) := by decide +kernel
theorem dMo_refer_244 : decode prog_13_method_24_code 244 = .ok (.iconst 0, 1) := by decide +kernel
theorem dMo_refer_245 : decode prog_13_method_24_code 245 = .ok (.ireturn, 1) := by decide +kernel
theorem dMo_refer_246 : decode prog_13_method_24_code 246 = .ok (.iconst 0, 1) := by decide +kernel
theorem dMo_refer_247 : decode prog_13_method_24_code 247 = .ok (.istore 5, 2) := by decide +kernel
theorem dMo_refer_249 : decode prog_13_method_24_code 249 = .ok (.aload_n 0, 1) := by decide +kernel
theorem dMo_refer_250 : decode prog_13_method_24_code 250 = .ok (.iload 4, 2) := by decide +kernel
theorem dMo_refer_252 : decode prog_13_method_24_code 252 = .ok (.iconst 1, 1) := by decide +kernel
theorem dMo_refer_253 : decode prog_13_method_24_code 253 = .ok (.invokevirtual 97, 3) := by decide +kernel
theorem dMo_refer_256 : decode prog_13_method_24_code 256 = .ok (.aload_n 0, 1) := by decide +kernel
theorem dMo_refer_257 : decode prog_13_method_24_code 257 = .ok (.getfield 57, 3) := by decide +kernel
theorem dMo_refer_260 : decode prog_13_method_24_code 260 = .ok (.ifCond .ne 10, 3) := by decide +kernel
theorem dMo_refer_263 : decode prog_13_method_24_code 263 = .ok (.aload_n 0, 1) := by decide +kernel
theorem dMo_refer_264 : decode prog_13_method_24_code 264 = .ok (.getfield 61, 3) := by decide +kernel
theorem dMo_refer_267 : decode prog_13_method_24_code 267 = .ok (.ifCond .ne 10, 3) := by decide +kernel
theorem dMo_refer_270 : decode prog_13_method_24_code 270 = .ok (.aload_n 0, 1) := by decide +kernel
theorem dMo_refer_271 : decode prog_13_method_24_code 271 = .ok (.aload_n 1, 1) := by decide +kernel
theorem dMo_refer_272 : decode prog_13_method_24_code 272 = .ok (.iload_n 2, 1) := by decide +kernel
theorem dMo_refer_273 : decode prog_13_method_24_code 273 = .ok (.iconst 0, 1) := by decide +kernel
theorem dMo_refer_274 : decode prog_13_method_24_code 274 = .ok (.invokevirtual 80, 3) := by decide +kernel
theorem dMo_refer_277 : decode prog_13_method_24_code 277 = .ok (.aload_n 0, 1) := by decide +kernel
theorem dMo_refer_278 : decode prog_13_method_24_code 278 = .ok (.getfield 61, 3) := by decide +kernel
theorem dMo_refer_281 : decode prog_13_method_24_code 281 = .ok (.bipush 6, 2) := by decide +kernel
theorem dMo_refer_283 : decode prog_13_method_24_code 283 = .ok (.if_icmp .le 5, 3) := by decide +kernel
theorem dMo_refer_286 : decode prog_13_method_24_code 286 = .ok (.iconst 0, 1) := by decide +kernel
theorem dMo_refer_287 : decode prog_13_method_24_code 287 = .ok (.ireturn, 1) := by decide +kernel
theorem dMo_refer_288 : decode prog_13_method_24_code 288 = .ok (.iconst 0, 1) := by decide +kernel
theorem dMo_refer_289 : decode prog_13_method_24_code 289 = .ok (.istore 6, 2) := by decide +kernel
theorem dMo_refer_291 : decode prog_13_method_24_code 291 = .ok (.iload 6, 2) := by decide +kernel
theorem dMo_refer_293 : decode prog_13_method_24_code 293 = .ok (.aload_n 0, 1) := by decide +kernel
theorem dMo_refer_294 : decode prog_13_method_24_code 294 = .ok (.getfield 61, 3) := by decide +kernel
theorem dMo_refer_297 : decode prog_13_method_24_code 297 = .ok (.if_icmp .ge 57, 3) := by decide +kernel
theorem dMo_refer_300 : decode prog_13_method_24_code 300 = .ok (.aload_n 0, 1) := by decide +kernel
theorem dMo_refer_301 : decode prog_13_method_24_code 301 = .ok (.iconst 0, 1) := by decide +kernel
theorem dMo_refer_302 : decode prog_13_method_24_code 302 = .ok (.bipush 47, 2) := by decide +kernel
theorem dMo_refer_304 : decode prog_13_method_24_code 304 = .ok (.invokevirtual 91, 3) := by decide +kernel
theorem dMo_refer_307 : decode prog_13_method_24_code 307 = .ok (.iconst 0, 1) := by decide +kernel
theorem dMo_refer_308 : decode prog_13_method_24_code 308 = .ok (.istore 7, 2) := by decide +kernel
theorem dMo_refer_310 : decode prog_13_method_24_code 310 = .ok (.iload 7, 2) := by decide +kernel
theorem dMo_refer_312 : decode prog_13_method_24_code 312 = .ok (.aload_n 0, 1) := by decide +kernel
theorem dMo_refer_313 : decode prog_13_method_24_code 313 = .ok (.getfield 67, 3) := by decide +kernel
theorem dMo_refer_316 : decode prog_13_method_24_code 316 = .ok (.iload 6, 2) := by decide +kernel
theorem dMo_refer_318 : decode prog_13_method_24_code 318 = .ok (.iaload, 1) := by decide +kernel
theorem dMo_refer_319 : decode prog_13_method_24_code 319 = .ok (.if_icmp .ge 29, 3) := by decide +kernel
theorem dMo_refer_322 : decode prog_13_method_24_code 322 = .ok (.aload_n 0, 1) := by decide +kernel
theorem dMo_refer_323 : decode prog_13_method_24_code 323 = .ok (.iconst 0, 1) := by decide +kernel
theorem dMo_refer_324 : decode prog_13_method_24_code 324 = .ok (.aload_n 0, 1) := by decide +kernel
theorem dMo_refer_325 : decode prog_13_method_24_code 325 = .ok (.getfield 70, 3) := by decide +kernel
theorem dMo_refer_328 : decode prog_13_method_24_code 328 = .ok (.aload_n 0, 1) := by decide +kernel
theorem dMo_refer_329 : decode prog_13_method_24_code 329 = .ok (.getfield 64, 3) := by decide +kernel
theorem dMo_refer_332 : decode prog_13_method_24_code 332 = .ok (.iload 6, 2) := by decide +kernel
theorem dMo_refer_334 : decode prog_13_method_24_code 334 = .ok (.iaload, 1) := by decide +kernel
theorem dMo_refer_335 : decode prog_13_method_24_code 335 = .ok (.iload 7, 2) := by decide +kernel
theorem dMo_refer_337 : decode prog_13_method_24_code 337 = .ok (.iadd, 1) := by decide +kernel
theorem dMo_refer_338 : decode prog_13_method_24_code 338 = .ok (.baload, 1) := by decide +kernel
theorem dMo_refer_339 : decode prog_13_method_24_code 339 = .ok (.invokevirtual 91, 3) := by decide +kernel
theorem dMo_refer_342 : decode prog_13_method_24_code 342 = .ok (.iinc 7 1, 3) := by decide +kernel
theorem dMo_refer_345 : decode prog_13_method_24_code 345 = .ok (.goto (-35), 3) := by decide +kernel
theorem dMo_refer_348 : decode prog_13_method_24_code 348 = .ok (.iinc 6 1, 3) := by decide +kernel
theorem dMo_refer_351 : decode prog_13_method_24_code 351 = .ok (.goto (-60), 3) := by decide +kernel
theorem dMo_refer_354 : decode prog_13_method_24_code 354 = .ok (.aload_n 0, 1) := by decide +kernel
theorem dMo_refer_355 : decode prog_13_method_24_code 355 = .ok (.aload_n 1, 1) := by decide +kernel
theorem dMo_refer_356 : decode prog_13_method_24_code 356 = .ok (.iload_n 3, 1) := by decide +kernel
theorem dMo_refer_357 : decode prog_13_method_24_code 357 = .ok (.iload 4, 2) := by decide +kernel
theorem dMo_refer_359 : decode prog_13_method_24_code 359 = .ok (.iload 5, 2) := by decide +kernel
theorem dMo_refer_361 : decode prog_13_method_24_code 361 = .ok (.invokevirtual 101, 3) := by decide +kernel
theorem dMo_refer_364 : decode prog_13_method_24_code 364 = .ok (.ireturn, 1) := by decide +kernel
theorem dMo_nameEnd_0 : decode prog_13_method_8_code 0 = .ok (.iload_n 1, 1) := by decide +kernel
theorem dMo_nameEnd_1 : decode prog_13_method_8_code 1 = .ok (.iload_n 2, 1) := by decide +kernel
theorem dMo_nameEnd_2 : decode prog_13_method_8_code 2 = .ok (.if_icmp .ge 12, 3) := by decide +kernel
theorem dMo_nameEnd_5 : decode prog_13_method_8_code 5 = .ok (.aload_n 0, 1) := by decide +kernel
theorem dMo_nameEnd_6 : decode prog_13_method_8_code 6 = .ok (.iload_n 1, 1) := by decide +kernel
theorem dMo_nameEnd_7 : decode prog_13_method_8_code 7 = .ok (.baload, 1) := by decide +kernel
theorem dMo_nameEnd_8 : decode prog_13_method_8_code 8 = .ok (.invokestatic 27, 3) := by decide +kernel
theorem dMo_nameEnd_11 : decode prog_13_method_8_code 11 = .ok (.ifCond .ne 5, 3) := by decide +kernel
theorem dMo_nameEnd_14 : decode prog_13_method_8_code 14 = .ok (.iload_n 1, 1) := by decide +kernel
theorem dMo_nameEnd_15 : decode prog_13_method_8_code 15 = .ok (.ireturn, 1) := by decide +kernel
theorem dMo_nameEnd_16 : decode prog_13_method_8_code 16 = .ok (.iload_n 1, 1) := by decide +kernel
theorem dMo_nameEnd_17 : decode prog_13_method_8_code 17 = .ok (.istore_n 3, 1) := by decide +kernel
theorem dMo_nameEnd_18 : decode prog_13_method_8_code 18 = .ok (.iload_n 3, 1) := by decide +kernel
theorem dMo_nameEnd_19 : decode prog_13_method_8_code 19 = .ok (.iload_n 2, 1) := by decide +kernel
theorem dMo_nameEnd_20 : decode prog_13_method_8_code 20 = .ok (.if_icmp .ge 27, 3) := by decide +kernel
theorem dMo_nameEnd_23 : decode prog_13_method_8_code 23 = .ok (.aload_n 0, 1) := by decide +kernel
theorem dMo_nameEnd_24 : decode prog_13_method_8_code 24 = .ok (.iload_n 3, 1) := by decide +kernel
theorem dMo_nameEnd_25 : decode prog_13_method_8_code 25 = .ok (.baload, 1) := by decide +kernel
theorem dMo_nameEnd_26 : decode prog_13_method_8_code 26 = .ok (.invokestatic 27, 3) := by decide +kernel
theorem dMo_nameEnd_29 : decode prog_13_method_8_code 29 = .ok (.ifCond .ne 12, 3) := by decide +kernel
theorem dMo_nameEnd_32 : decode prog_13_method_8_code 32 = .ok (.aload_n 0, 1) := by decide +kernel
theorem dMo_nameEnd_33 : decode prog_13_method_8_code 33 = .ok (.iload_n 3, 1) := by decide +kernel
theorem dMo_nameEnd_34 : decode prog_13_method_8_code 34 = .ok (.baload, 1) := by decide +kernel
theorem dMo_nameEnd_35 : decode prog_13_method_8_code 35 = .ok (.invokestatic 31, 3) := by decide +kernel
theorem dMo_nameEnd_38 : decode prog_13_method_8_code 38 = .ok (.ifCond .eq 9, 3) := by decide +kernel
theorem dMo_nameEnd_41 : decode prog_13_method_8_code 41 = .ok (.iinc 3 1, 3) := by decide +kernel
theorem dMo_nameEnd_44 : decode prog_13_method_8_code 44 = .ok (.goto (-26), 3) := by decide +kernel
theorem dMo_nameEnd_47 : decode prog_13_method_8_code 47 = .ok (.iload_n 3, 1) := by decide +kernel
theorem dMo_nameEnd_48 : decode prog_13_method_8_code 48 = .ok (.iload_n 1, 1) := by decide +kernel
theorem dMo_nameEnd_49 : decode prog_13_method_8_code 49 = .ok (.isub, 1) := by decide +kernel
theorem dMo_nameEnd_50 : decode prog_13_method_8_code 50 = .ok (.bipush 8, 2) := by decide +kernel
theorem dMo_nameEnd_52 : decode prog_13_method_8_code 52 = .ok (.if_icmp .le 7, 3) := by decide +kernel
theorem dMo_nameEnd_55 : decode prog_13_method_8_code 55 = .ok (.iload_n 1, 1) := by decide +kernel
theorem dMo_nameEnd_56 : decode prog_13_method_8_code 56 = .ok (.goto 4, 3) := by decide +kernel
theorem dMo_nameEnd_59 : decode prog_13_method_8_code 59 = .ok (.iload_n 3, 1) := by decide +kernel
theorem dMo_nameEnd_60 : decode prog_13_method_8_code 60 = .ok (.ireturn, 1) := by decide +kernel
theorem dMo_isSmall_0 : decode prog_13_method_5_code 0 = .ok (.iload_n 0, 1) := by decide +kernel
theorem dMo_isSmall_1 : decode prog_13_method_5_code 1 = .ok (.bipush 97, 2) := by decide +kernel
theorem dMo_isSmall_3 : decode prog_13_method_5_code 3 = .ok (.if_icmp .lt 13, 3) := by decide +kernel
theorem dMo_isSmall_6 : decode prog_13_method_5_code 6 = .ok (.iload_n 0, 1) := by decide +kernel
theorem dMo_isSmall_7 : decode prog_13_method_5_code 7 = .ok (.bipush 122, 2) := by decide +kernel
theorem dMo_isSmall_9 : decode prog_13_method_5_code 9 = .ok (.if_icmp .gt 7, 3) := by decide +kernel
theorem dMo_isSmall_12 : decode prog_13_method_5_code 12 = .ok (.iconst 1, 1) := by decide +kernel
theorem dMo_isSmall_13 : decode prog_13_method_5_code 13 = .ok (.goto 4, 3) := by decide +kernel
theorem dMo_isSmall_16 : decode prog_13_method_5_code 16 = .ok (.iconst 0, 1) := by decide +kernel
theorem dMo_isSmall_17 : decode prog_13_method_5_code 17 = .ok (.ireturn, 1) := by decide +kernel
theorem dMo_isDigit_0 : decode prog_13_method_6_code 0 = .ok (.iload_n 0, 1) := by decide +kernel
theorem dMo_isDigit_1 : decode prog_13_method_6_code 1 = .ok (.bipush 48, 2) := by decide +kernel
theorem dMo_isDigit_3 : decode prog_13_method_6_code 3 = .ok (.if_icmp .lt 13, 3) := by decide +kernel
theorem dMo_isDigit_6 : decode prog_13_method_6_code 6 = .ok (.iload_n 0, 1) := by decide +kernel
theorem dMo_isDigit_7 : decode prog_13_method_6_code 7 = .ok (.bipush 57, 2) := by decide +kernel
theorem dMo_isDigit_9 : decode prog_13_method_6_code 9 = .ok (.if_icmp .gt 7, 3) := by decide +kernel
theorem dMo_isDigit_12 : decode prog_13_method_6_code 12 = .ok (.iconst 1, 1) := by decide +kernel
theorem dMo_isDigit_13 : decode prog_13_method_6_code 13 = .ok (.goto 4, 3) := by decide +kernel
theorem dMo_isDigit_16 : decode prog_13_method_6_code 16 = .ok (.iconst 0, 1) := by decide +kernel
theorem dMo_isDigit_17 : decode prog_13_method_6_code 17 = .ok (.ireturn, 1) := by decide +kernel
theorem dMo_put_0 : decode prog_13_method_17_code 0 = .ok (.aload_n 0, 1) := by decide +kernel
theorem dMo_put_1 : decode prog_13_method_17_code 1 = .ok (.getfield 36, 3) := by decide +kernel
theorem dMo_put_4 : decode prog_13_method_17_code 4 = .ok (.iload_n 1, 1) := by decide +kernel
theorem dMo_put_5 : decode prog_13_method_17_code 5 = .ok (.sipush 150, 3) := by decide +kernel
theorem dMo_put_8 : decode prog_13_method_17_code 8 = .ok (.imul, 1) := by decide +kernel
theorem dMo_put_9 : decode prog_13_method_17_code 9 = .ok (.aload_n 0, 1) := by decide +kernel
theorem dMo_put_10 : decode prog_13_method_17_code 10 = .ok (.getfield 39, 3) := by decide +kernel
theorem dMo_put_13 : decode prog_13_method_17_code 13 = .ok (.iload_n 1, 1) := by decide +kernel
theorem dMo_put_14 : decode prog_13_method_17_code 14 = .ok (.iaload, 1) := by decide +kernel
theorem dMo_put_15 : decode prog_13_method_17_code 15 = .ok (.iadd, 1) := by decide +kernel
theorem dMo_put_16 : decode prog_13_method_17_code 16 = .ok (.iload_n 2, 1) := by decide +kernel
theorem dMo_put_17 : decode prog_13_method_17_code 17 = .ok (.i2b, 1) := by decide +kernel
theorem dMo_put_18 : decode prog_13_method_17_code 18 = .ok (.bastore, 1) := by decide +kernel
theorem dMo_put_19 : decode prog_13_method_17_code 19 = .ok (.aload_n 0, 1) := by decide +kernel
theorem dMo_put_20 : decode prog_13_method_17_code 20 = .ok (.getfield 39, 3) := by decide +kernel
theorem dMo_put_23 : decode prog_13_method_17_code 23 = .ok (.iload_n 1, 1) := by decide +kernel
theorem dMo_put_24 : decode prog_13_method_17_code 24 = .ok (.dup2, 1) := by decide +kernel
theorem dMo_put_25 : decode prog_13_method_17_code 25 = .ok (.iaload, 1) := by decide +kernel
theorem dMo_put_26 : decode prog_13_method_17_code 26 = .ok (.iconst 1, 1) := by decide +kernel
theorem dMo_put_27 : decode prog_13_method_17_code 27 = .ok (.iadd, 1) := by decide +kernel
theorem dMo_put_28 : decode prog_13_method_17_code 28 = .ok (.iastore, 1) := by decide +kernel
theorem dMo_put_29 : decode prog_13_method_17_code 29 = .ok (.return_, 1) := by decide +kernel
theorem dMo_segments_0 : decode prog_13_method_21_code 0 = .ok (.aload_n 0, 1) := by decide +kernel
theorem dMo_segments_1 : decode prog_13_method_21_code 1 = .ok (.getfield 73, 3) := by decide +kernel
theorem dMo_segments_4 : decode prog_13_method_21_code 4 = .ok (.iload_n 2, 1) := by decide +kernel
theorem dMo_segments_5 : decode prog_13_method_21_code 5 = .ok (.if_icmp .ge 35, 3) := by decide +kernel
theorem dMo_segments_8 : decode prog_13_method_21_code 8 = .ok (.aload_n 1, 1) := by decide +kernel
theorem dMo_segments_9 : decode prog_13_method_21_code 9 = .ok (.aload_n 0, 1) := by decide +kernel
theorem dMo_segments_10 : decode prog_13_method_21_code 10 = .ok (.getfield 73, 3) := by decide +kernel
theorem dMo_segments_13 : decode prog_13_method_21_code 13 = .ok (.baload, 1) := by decide +kernel
theorem dMo_segments_14 : decode prog_13_method_21_code 14 = .ok (.bipush 47, 2) := by decide +kernel
theorem dMo_segments_16 : decode prog_13_method_21_code 16 = .ok (.if_icmp .ne 24, 3) := by decide +kernel
theorem dMo_segments_19 : decode prog_13_method_21_code 19 = .ok (.aload_n 0, 1) := by decide +kernel
theorem dMo_segments_20 : decode prog_13_method_21_code 20 = .ok (.dup, 1) := by decide +kernel
theorem dMo_segments_21 : decode prog_13_method_21_code 21 = .ok (.getfield 73, 3) := by decide +kernel
theorem dMo_segments_24 : decode prog_13_method_21_code 24 = .ok (.iconst 1, 1) := by decide +kernel
theorem dMo_segments_25 : decode prog_13_method_21_code 25 = .ok (.iadd, 1) := by decide +kernel
theorem dMo_segments_26 : decode prog_13_method_21_code 26 = .ok (.putfield 73, 3) := by decide +kernel
theorem dMo_segments_29 : decode prog_13_method_21_code 29 = .ok (.aload_n 0, 1) := by decide +kernel
theorem dMo_segments_30 : decode prog_13_method_21_code 30 = .ok (.aload_n 1, 1) := by decide +kernel
theorem dMo_segments_31 : decode prog_13_method_21_code 31 = .ok (.iload_n 2, 1) := by decide +kernel
theorem dMo_segments_32 : decode prog_13_method_21_code 32 = .ok (.invokevirtual 76, 3) := by decide +kernel
theorem dMo_segments_35 : decode prog_13_method_21_code 35 = .ok (.ifCond .ne (-35), 3) := by decide +kernel
theorem dMo_segments_38 : decode prog_13_method_21_code 38 = .ok (.iconst 0, 1) := by decide +kernel
theorem dMo_segments_39 : decode prog_13_method_21_code 39 = .ok (.ireturn, 1) := by decide +kernel
theorem dMo_segments_40 : decode prog_13_method_21_code 40 = .ok (.iconst 1, 1) := by decide +kernel
theorem dMo_segments_41 : decode prog_13_method_21_code 41 = .ok (.ireturn, 1) := by decide +kernel
theorem dMo_oneSegment_0 : decode prog_13_method_22_code 0 = .ok (.aload_n 0, 1) := by decide +kernel
theorem dMo_oneSegment_1 : decode prog_13_method_22_code 1 = .ok (.getfield 73, 3) := by decide +kernel
theorem dMo_oneSegment_4 : decode prog_13_method_22_code 4 = .ok (.istore_n 3, 1) := by decide +kernel
theorem dMo_oneSegment_5 : decode prog_13_method_22_code 5 = .ok (.iload_n 3, 1) := by decide +kernel
theorem dMo_oneSegment_6 : decode prog_13_method_22_code 6 = .ok (.iload_n 2, 1) := by decide +kernel
theorem dMo_oneSegment_7 : decode prog_13_method_22_code 7 = .ok (.if_icmp .ge 18, 3) := by decide +kernel
theorem dMo_oneSegment_10 : decode prog_13_method_22_code 10 = .ok (.aload_n 1, 1) := by decide +kernel
theorem dMo_oneSegment_11 : decode prog_13_method_22_code 11 = .ok (.iload_n 3, 1) := by decide +kernel
theorem dMo_oneSegment_12 : decode prog_13_method_22_code 12 = .ok (.baload, 1) := by decide +kernel
theorem dMo_oneSegment_13 : decode prog_13_method_22_code 13 = .ok (.invokestatic 54, 3) := by decide +kernel
theorem dMo_oneSegment_16 : decode prog_13_method_22_code 16 = .ok (.ifCond .eq 9, 3) := by decide +kernel
theorem dMo_oneSegment_19 : decode prog_13_method_22_code 19 = .ok (.iinc 3 1, 3) := by decide +kernel
theorem dMo_oneSegment_22 : decode prog_13_method_22_code 22 = .ok (.goto (-17), 3) := by decide +kernel
theorem dMo_oneSegment_25 : decode prog_13_method_22_code 25 = .ok (.iload_n 3, 1) := by decide +kernel
theorem dMo_oneSegment_26 : decode prog_13_method_22_code 26 = .ok (.aload_n 0, 1) := by decide +kernel
theorem dMo_oneSegment_27 : decode prog_13_method_22_code 27 = .ok (.getfield 73, 3) := by decide +kernel
theorem dMo_oneSegment_30 : decode prog_13_method_22_code 30 = .ok (.isub, 1) := by decide +kernel
theorem dMo_oneSegment_31 : decode prog_13_method_22_code 31 = .ok (.bipush 12, 2) := by decide +kernel
theorem dMo_oneSegment_33 : decode prog_13_method_22_code 33 = .ok (.if_icmp .le 5, 3) := by decide +kernel
theorem dMo_oneSegment_36 : decode prog_13_method_22_code 36 = .ok (.iconst 0, 1) := by decide +kernel
theorem dMo_oneSegment_37 : decode prog_13_method_22_code 37 = .ok (.ireturn, 1) := by decide +kernel
theorem dMo_oneSegment_38 : decode prog_13_method_22_code 38 = .ok (.aload_n 0, 1) := by decide +kernel
theorem dMo_oneSegment_39 : decode prog_13_method_22_code 39 = .ok (.aload_n 1, 1) := by decide +kernel
theorem dMo_oneSegment_40 : decode prog_13_method_22_code 40 = .ok (.aload_n 0, 1) := by decide +kernel
theorem dMo_oneSegment_41 : decode prog_13_method_22_code 41 = .ok (.getfield 73, 3) := by decide +kernel
theorem dMo_oneSegment_44 : decode prog_13_method_22_code 44 = .ok (.iload_n 3, 1) := by decide +kernel
theorem dMo_oneSegment_45 : decode prog_13_method_22_code 45 = .ok (.aload_n 0, 1) := by decide +kernel
theorem dMo_oneSegment_46 : decode prog_13_method_22_code 46 = .ok (.getfield 73, 3) := by decide +kernel
theorem dMo_oneSegment_49 : decode prog_13_method_22_code 49 = .ok (.isub, 1) := by decide +kernel
theorem dMo_oneSegment_50 : decode prog_13_method_22_code 50 = .ok (.invokevirtual 80, 3) := by decide +kernel
theorem dMo_oneSegment_53 : decode prog_13_method_22_code 53 = .ok (.aload_n 0, 1) := by decide +kernel
theorem dMo_oneSegment_54 : decode prog_13_method_22_code 54 = .ok (.iload_n 3, 1) := by decide +kernel
theorem dMo_oneSegment_55 : decode prog_13_method_22_code 55 = .ok (.putfield 73, 3) := by decide +kernel
theorem dMo_oneSegment_58 : decode prog_13_method_22_code 58 = .ok (.iconst 1, 1) := by decide +kernel
theorem dMo_oneSegment_59 : decode prog_13_method_22_code 59 = .ok (.ireturn, 1) := by decide +kernel
theorem dMo_isSegment_0 : decode prog_13_method_18_code 0 = .ok (.iload_n 0, 1) := by decide +kernel
theorem dMo_isSegment_1 : decode prog_13_method_18_code 1 = .ok (.invokestatic 27, 3) := by decide +kernel
theorem dMo_isSegment_4 : decode prog_13_method_18_code 4 = .ok (.ifCond .ne 28, 3) := by decide +kernel
theorem dMo_isSegment_7 : decode prog_13_method_18_code 7 = .ok (.iload_n 0, 1) := by decide +kernel
theorem dMo_isSegment_8 : decode prog_13_method_18_code 8 = .ok (.invokestatic 31, 3) := by decide +kernel
theorem dMo_isSegment_11 : decode prog_13_method_18_code 11 = .ok (.ifCond .ne 21, 3) := by decide +kernel
theorem dMo_isSegment_14 : decode prog_13_method_18_code 14 = .ok (.iload_n 0, 1) := by decide +kernel
theorem dMo_isSegment_15 : decode prog_13_method_18_code 15 = .ok (.bipush 46, 2) := by decide +kernel
theorem dMo_isSegment_17 : decode prog_13_method_18_code 17 = .ok (.if_icmp .eq 15, 3) := by decide +kernel
theorem dMo_isSegment_20 : decode prog_13_method_18_code 20 = .ok (.iload_n 0, 1) := by decide +kernel
theorem dMo_isSegment_21 : decode prog_13_method_18_code 21 = .ok (.bipush 45, 2) := by decide +kernel
theorem dMo_isSegment_23 : decode prog_13_method_18_code 23 = .ok (.if_icmp .eq 9, 3) := by decide +kernel
theorem dMo_isSegment_26 : decode prog_13_method_18_code 26 = .ok (.iload_n 0, 1) := by decide +kernel
theorem dMo_isSegment_27 : decode prog_13_method_18_code 27 = .ok (.bipush 95, 2) := by decide +kernel
theorem dMo_isSegment_29 : decode prog_13_method_18_code 29 = .ok (.if_icmp .ne 7, 3) := by decide +kernel
theorem dMo_isSegment_32 : decode prog_13_method_18_code 32 = .ok (.iconst 1, 1) := by decide +kernel
theorem dMo_isSegment_33 : decode prog_13_method_18_code 33 = .ok (.goto 4, 3) := by decide +kernel
theorem dMo_isSegment_36 : decode prog_13_method_18_code 36 = .ok (.iconst 0, 1) := by decide +kernel
theorem dMo_isSegment_37 : decode prog_13_method_18_code 37 = .ok (.ireturn, 1) := by decide +kernel
theorem dMo_segment_0 : decode prog_13_method_20_code 0 = .ok (.aload_n 0, 1) := by decide +kernel
theorem dMo_segment_1 : decode prog_13_method_20_code 1 = .ok (.iload_n 3, 1) := by decide +kernel
theorem dMo_segment_2 : decode prog_13_method_20_code 2 = .ok (.iconst 1, 1) := by decide +kernel
theorem dMo_segment_3 : decode prog_13_method_20_code 3 = .ok (.if_icmp .ne 11, 3) := by decide +kernel
theorem dMo_segment_6 : decode prog_13_method_20_code 6 = .ok (.aload_n 1, 1) := by decide +kernel
theorem dMo_segment_7 : decode prog_13_method_20_code 7 = .ok (.iload_n 2, 1) := by decide +kernel
theorem dMo_segment_8 : decode prog_13_method_20_code 8 = .ok (.baload, 1) := by decide +kernel
theorem dMo_segment_9 : decode prog_13_method_20_code 9 = .ok (.bipush 46, 2) := by decide +kernel
theorem dMo_segment_11 : decode prog_13_method_20_code 11 = .ok (.if_icmp .eq 26, 3) := by decide +kernel
theorem dMo_segment_14 : decode prog_13_method_20_code 14 = .ok (.iload_n 3, 1) := by decide +kernel
theorem dMo_segment_15 : decode prog_13_method_20_code 15 = .ok (.iconst 2, 1) := by decide +kernel
theorem dMo_segment_16 : decode prog_13_method_20_code 16 = .ok (.if_icmp .ne 25, 3) := by decide +kernel
theorem dMo_segment_19 : decode prog_13_method_20_code 19 = .ok (.aload_n 1, 1) := by decide +kernel
theorem dMo_segment_20 : decode prog_13_method_20_code 20 = .ok (.iload_n 2, 1) := by decide +kernel
theorem dMo_segment_21 : decode prog_13_method_20_code 21 = .ok (.baload, 1) := by decide +kernel
theorem dMo_segment_22 : decode prog_13_method_20_code 22 = .ok (.bipush 46, 2) := by decide +kernel
theorem dMo_segment_24 : decode prog_13_method_20_code 24 = .ok (.if_icmp .ne 17, 3) := by decide +kernel
theorem dMo_segment_27 : decode prog_13_method_20_code 27 = .ok (.aload_n 1, 1) := by decide +kernel
theorem dMo_segment_28 : decode prog_13_method_20_code 28 = .ok (.iload_n 2, 1) := by decide +kernel
theorem dMo_segment_29 : decode prog_13_method_20_code 29 = .ok (.iconst 1, 1) := by decide +kernel
theorem dMo_segment_30 : decode prog_13_method_20_code 30 = .ok (.iadd, 1) := by decide +kernel
theorem dMo_segment_31 : decode prog_13_method_20_code 31 = .ok (.baload, 1) := by decide +kernel
theorem dMo_segment_32 : decode prog_13_method_20_code 32 = .ok (.bipush 46, 2) := by decide +kernel
theorem dMo_segment_34 : decode prog_13_method_20_code 34 = .ok (.if_icmp .ne 7, 3) := by decide +kernel
theorem dMo_segment_37 : decode prog_13_method_20_code 37 = .ok (.iconst 1, 1) := by decide +kernel
theorem dMo_segment_38 : decode prog_13_method_20_code 38 = .ok (.goto 4, 3) := by decide +kernel
theorem dMo_segment_41 : decode prog_13_method_20_code 41 = .ok (.iconst 0, 1) := by decide +kernel
theorem dMo_segment_42 : decode prog_13_method_20_code 42 = .ok (.putfield 57, 3) := by decide +kernel
theorem dMo_segment_45 : decode prog_13_method_20_code 45 = .ok (.iload_n 3, 1) := by decide +kernel
theorem dMo_segment_46 : decode prog_13_method_20_code 46 = .ok (.iconst 2, 1) := by decide +kernel
theorem dMo_segment_47 : decode prog_13_method_20_code 47 = .ok (.if_icmp .ne 27, 3) := by decide +kernel
theorem dMo_segment_50 : decode prog_13_method_20_code 50 = .ok (.aload_n 0, 1) := by decide +kernel
theorem dMo_segment_51 : decode prog_13_method_20_code 51 = .ok (.getfield 57, 3) := by decide +kernel
theorem dMo_segment_54 : decode prog_13_method_20_code 54 = .ok (.ifCond .eq 20, 3) := by decide +kernel
theorem dMo_segment_57 : decode prog_13_method_20_code 57 = .ok (.aload_n 0, 1) := by decide +kernel
theorem dMo_segment_58 : decode prog_13_method_20_code 58 = .ok (.getfield 61, 3) := by decide +kernel
theorem dMo_segment_61 : decode prog_13_method_20_code 61 = .ok (.ifCond .le 13, 3) := by decide +kernel
theorem dMo_segment_64 : decode prog_13_method_20_code 64 = .ok (.aload_n 0, 1) := by decide +kernel
theorem dMo_segment_65 : decode prog_13_method_20_code 65 = .ok (.dup, 1) := by decide +kernel
theorem dMo_segment_66 : decode prog_13_method_20_code 66 = .ok (.getfield 61, 3) := by decide +kernel
theorem dMo_segment_69 : decode prog_13_method_20_code 69 = .ok (.iconst 1, 1) := by decide +kernel
theorem dMo_segment_70 : decode prog_13_method_20_code 70 = .ok (.isub, 1) := by decide +kernel
theorem dMo_segment_71 : decode prog_13_method_20_code 71 = .ok (.putfield 61, 3) := by decide +kernel
theorem dMo_segment_74 : decode prog_13_method_20_code 74 = .ok (.aload_n 0, 1) := by decide +kernel
theorem dMo_segment_75 : decode prog_13_method_20_code 75 = .ok (.getfield 57, 3) := by decide +kernel
theorem dMo_segment_78 : decode prog_13_method_20_code 78 = .ok (.ifCond .eq 4, 3) := by decide +kernel
theorem dMo_segment_81 : decode prog_13_method_20_code 81 = .ok (.return_, 1) := by decide +kernel
theorem dMo_segment_82 : decode prog_13_method_20_code 82 = .ok (.aload_n 0, 1) := by decide +kernel
theorem dMo_segment_83 : decode prog_13_method_20_code 83 = .ok (.getfield 64, 3) := by decide +kernel
theorem dMo_segment_86 : decode prog_13_method_20_code 86 = .ok (.aload_n 0, 1) := by decide +kernel
theorem dMo_segment_87 : decode prog_13_method_20_code 87 = .ok (.getfield 61, 3) := by decide +kernel
theorem dMo_segment_90 : decode prog_13_method_20_code 90 = .ok (.aload_n 0, 1) := by decide +kernel
theorem dMo_segment_91 : decode prog_13_method_20_code 91 = .ok (.getfield 61, 3) := by decide +kernel
theorem dMo_segment_94 : decode prog_13_method_20_code 94 = .ok (.ifCond .ne 7, 3) := by decide +kernel
theorem dMo_segment_97 : decode prog_13_method_20_code 97 = .ok (.iconst 0, 1) := by decide +kernel
theorem dMo_segment_98 : decode prog_13_method_20_code 98 = .ok (.goto 26, 3) := by decide +kernel
theorem dMo_segment_101 : decode prog_13_method_20_code 101 = .ok (.aload_n 0, 1) := by decide +kernel
theorem dMo_segment_102 : decode prog_13_method_20_code 102 = .ok (.getfield 64, 3) := by decide +kernel
theorem dMo_segment_105 : decode prog_13_method_20_code 105 = .ok (.aload_n 0, 1) := by decide +kernel
theorem dMo_segment_106 : decode prog_13_method_20_code 106 = .ok (.getfield 61, 3) := by decide +kernel
theorem dMo_segment_109 : decode prog_13_method_20_code 109 = .ok (.iconst 1, 1) := by decide +kernel
theorem dMo_segment_110 : decode prog_13_method_20_code 110 = .ok (.isub, 1) := by decide +kernel
theorem dMo_segment_111 : decode prog_13_method_20_code 111 = .ok (.iaload, 1) := by decide +kernel
theorem dMo_segment_112 : decode prog_13_method_20_code 112 = .ok (.aload_n 0, 1) := by decide +kernel
theorem dMo_segment_113 : decode prog_13_method_20_code 113 = .ok (.getfield 67, 3) := by decide +kernel
theorem dMo_segment_116 : decode prog_13_method_20_code 116 = .ok (.aload_n 0, 1) := by decide +kernel
theorem dMo_segment_117 : decode prog_13_method_20_code 117 = .ok (.getfield 61, 3) := by decide +kernel
theorem dMo_segment_120 : decode prog_13_method_20_code 120 = .ok (.iconst 1, 1) := by decide +kernel
theorem dMo_segment_121 : decode prog_13_method_20_code 121 = .ok (.isub, 1) := by decide +kernel
theorem dMo_segment_122 : decode prog_13_method_20_code 122 = .ok (.iaload, 1) := by decide +kernel
theorem dMo_segment_123 : decode prog_13_method_20_code 123 = .ok (.iadd, 1) := by decide +kernel
theorem dMo_segment_124 : decode prog_13_method_20_code 124 = .ok (.iastore, 1) := by decide +kernel
theorem dMo_segment_125 : decode prog_13_method_20_code 125 = .ok (.aload_n 0, 1) := by decide +kernel
theorem dMo_segment_126 : decode prog_13_method_20_code 126 = .ok (.getfield 67, 3) := by decide +kernel
theorem dMo_segment_129 : decode prog_13_method_20_code 129 = .ok (.aload_n 0, 1) := by decide +kernel
theorem dMo_segment_130 : decode prog_13_method_20_code 130 = .ok (.getfield 61, 3) := by decide +kernel
theorem dMo_segment_133 : decode prog_13_method_20_code 133 = .ok (.iload_n 3, 1) := by decide +kernel
theorem dMo_segment_134 : decode prog_13_method_20_code 134 = .ok (.iastore, 1) := by decide +kernel
theorem dMo_segment_135 : decode prog_13_method_20_code 135 = .ok (.iconst 0, 1) := by decide +kernel
theorem dMo_segment_136 : decode prog_13_method_20_code 136 = .ok (.istore 4, 2) := by decide +kernel
theorem dMo_segment_138 : decode prog_13_method_20_code 138 = .ok (.iload 4, 2) := by decide +kernel
theorem dMo_segment_140 : decode prog_13_method_20_code 140 = .ok (.iload_n 3, 1) := by decide +kernel
theorem dMo_segment_141 : decode prog_13_method_20_code 141 = .ok (.if_icmp .ge 32, 3) := by decide +kernel
theorem dMo_segment_144 : decode prog_13_method_20_code 144 = .ok (.aload_n 0, 1) := by decide +kernel
theorem dMo_segment_145 : decode prog_13_method_20_code 145 = .ok (.getfield 70, 3) := by decide +kernel
theorem dMo_segment_148 : decode prog_13_method_20_code 148 = .ok (.aload_n 0, 1) := by decide +kernel
theorem dMo_segment_149 : decode prog_13_method_20_code 149 = .ok (.getfield 64, 3) := by decide +kernel
theorem dMo_segment_152 : decode prog_13_method_20_code 152 = .ok (.aload_n 0, 1) := by decide +kernel
theorem dMo_segment_153 : decode prog_13_method_20_code 153 = .ok (.getfield 61, 3) := by decide +kernel
theorem dMo_segment_156 : decode prog_13_method_20_code 156 = .ok (.iaload, 1) := by decide +kernel
theorem dMo_segment_157 : decode prog_13_method_20_code 157 = .ok (.iload 4, 2) := by decide +kernel
theorem dMo_segment_159 : decode prog_13_method_20_code 159 = .ok (.iadd, 1) := by decide +kernel
theorem dMo_segment_160 : decode prog_13_method_20_code 160 = .ok (.aload_n 1, 1) := by decide +kernel
theorem dMo_segment_161 : decode prog_13_method_20_code 161 = .ok (.iload_n 2, 1) := by decide +kernel
theorem dMo_segment_162 : decode prog_13_method_20_code 162 = .ok (.iload 4, 2) := by decide +kernel
theorem dMo_segment_164 : decode prog_13_method_20_code 164 = .ok (.iadd, 1) := by decide +kernel
theorem dMo_segment_165 : decode prog_13_method_20_code 165 = .ok (.baload, 1) := by decide +kernel
theorem dMo_segment_166 : decode prog_13_method_20_code 166 = .ok (.bastore, 1) := by decide +kernel
theorem dMo_segment_167 : decode prog_13_method_20_code 167 = .ok (.iinc 4 1, 3) := by decide +kernel
theorem dMo_segment_170 : decode prog_13_method_20_code 170 = .ok (.goto (-32), 3) := by decide +kernel
theorem dMo_segment_173 : decode prog_13_method_20_code 173 = .ok (.aload_n 0, 1) := by decide +kernel
theorem dMo_segment_174 : decode prog_13_method_20_code 174 = .ok (.dup, 1) := by decide +kernel
theorem dMo_segment_175 : decode prog_13_method_20_code 175 = .ok (.getfield 61, 3) := by decide +kernel
theorem dMo_segment_178 : decode prog_13_method_20_code 178 = .ok (.iconst 1, 1) := by decide +kernel
theorem dMo_segment_179 : decode prog_13_method_20_code 179 = .ok (.iadd, 1) := by decide +kernel
theorem dMo_segment_180 : decode prog_13_method_20_code 180 = .ok (.putfield 61, 3) := by decide +kernel
theorem dMo_segment_183 : decode prog_13_method_20_code 183 = .ok (.return_, 1) := by decide +kernel
theorem dMo_siteEnd_0 : decode prog_13_method_14_code 0 = .ok (.iconst 2, 1) := by decide +kernel
theorem dMo_siteEnd_1 : decode prog_13_method_14_code 1 = .ok (.istore_n 2, 1) := by decide +kernel
theorem dMo_siteEnd_2 : decode prog_13_method_14_code 2 = .ok (.aload_n 0, 1) := by decide +kernel
theorem dMo_siteEnd_3 : decode prog_13_method_14_code 3 = .ok (.getfield 36, 3) := by decide +kernel
theorem dMo_siteEnd_6 : decode prog_13_method_14_code 6 = .ok (.iload_n 1, 1) := by decide +kernel
theorem dMo_siteEnd_7 : decode prog_13_method_14_code 7 = .ok (.sipush 150, 3) := by decide +kernel
theorem dMo_siteEnd_10 : decode prog_13_method_14_code 10 = .ok (.imul, 1) := by decide +kernel
theorem dMo_siteEnd_11 : decode prog_13_method_14_code 11 = .ok (.iload_n 2, 1) := by decide +kernel
theorem dMo_siteEnd_12 : decode prog_13_method_14_code 12 = .ok (.iadd, 1) := by decide +kernel
theorem dMo_siteEnd_13 : decode prog_13_method_14_code 13 = .ok (.baload, 1) := by decide +kernel
theorem dMo_siteEnd_14 : decode prog_13_method_14_code 14 = .ok (.bipush 47, 2) := by decide +kernel
theorem dMo_siteEnd_16 : decode prog_13_method_14_code 16 = .ok (.if_icmp .eq 9, 3) := by decide +kernel
theorem dMo_siteEnd_19 : decode prog_13_method_14_code 19 = .ok (.iinc 2 1, 3) := by decide +kernel
theorem dMo_siteEnd_22 : decode prog_13_method_14_code 22 = .ok (.goto (-20), 3) := by decide +kernel
theorem dMo_siteEnd_25 : decode prog_13_method_14_code 25 = .ok (.iload_n 2, 1) := by decide +kernel
theorem dMo_siteEnd_26 : decode prog_13_method_14_code 26 = .ok (.ireturn, 1) := by decide +kernel
theorem dMo_baseSegments_0 : decode prog_13_method_23_code 0 = .ok (.aload_n 0, 1) := by decide +kernel
theorem dMo_baseSegments_1 : decode prog_13_method_23_code 1 = .ok (.iload_n 1, 1) := by decide +kernel
theorem dMo_baseSegments_2 : decode prog_13_method_23_code 2 = .ok (.invokevirtual 50, 3) := by decide +kernel
theorem dMo_baseSegments_5 : decode prog_13_method_23_code 5 = .ok (.istore_n 3, 1) := by decide +kernel
theorem dMo_baseSegments_6 : decode prog_13_method_23_code 6 = .ok (.aload_n 0, 1) := by decide +kernel
theorem dMo_baseSegments_7 : decode prog_13_method_23_code 7 = .ok (.iload_n 1, 1) := by decide +kernel
theorem dMo_baseSegments_8 : decode prog_13_method_23_code 8 = .ok (.invokevirtual 84, 3) := by decide +kernel
theorem dMo_baseSegments_11 : decode prog_13_method_23_code 11 = .ok (.istore 4, 2) := by decide +kernel
theorem dMo_baseSegments_13 : decode prog_13_method_23_code 13 = .ok (.iload_n 3, 1) := by decide +kernel
theorem dMo_baseSegments_14 : decode prog_13_method_23_code 14 = .ok (.iload 4, 2) := by decide +kernel
theorem dMo_baseSegments_16 : decode prog_13_method_23_code 16 = .ok (.if_icmp .ge 79, 3) := by decide +kernel
theorem dMo_baseSegments_19 : decode prog_13_method_23_code 19 = .ok (.iload_n 3, 1) := by decide +kernel
theorem dMo_baseSegments_20 : decode prog_13_method_23_code 20 = .ok (.iconst 1, 1) := by decide +kernel
theorem dMo_baseSegments_21 : decode prog_13_method_23_code 21 = .ok (.iadd, 1) := by decide +kernel
theorem dMo_baseSegments_22 : decode prog_13_method_23_code 22 = .ok (.istore 5, 2) := by decide +kernel
theorem dMo_baseSegments_24 : decode prog_13_method_23_code 24 = .ok (.iload 5, 2) := by decide +kernel
theorem dMo_baseSegments_26 : decode prog_13_method_23_code 26 = .ok (.iload 4, 2) := by decide +kernel
theorem dMo_baseSegments_28 : decode prog_13_method_23_code 28 = .ok (.if_icmp .ge 27, 3) := by decide +kernel
theorem dMo_baseSegments_31 : decode prog_13_method_23_code 31 = .ok (.aload_n 0, 1) := by decide +kernel
theorem dMo_baseSegments_32 : decode prog_13_method_23_code 32 = .ok (.getfield 36, 3) := by decide +kernel
theorem dMo_baseSegments_35 : decode prog_13_method_23_code 35 = .ok (.iload_n 1, 1) := by decide +kernel
theorem dMo_baseSegments_36 : decode prog_13_method_23_code 36 = .ok (.sipush 150, 3) := by decide +kernel
theorem dMo_baseSegments_39 : decode prog_13_method_23_code 39 = .ok (.imul, 1) := by decide +kernel
theorem dMo_baseSegments_40 : decode prog_13_method_23_code 40 = .ok (.iload 5, 2) := by decide +kernel
theorem dMo_baseSegments_42 : decode prog_13_method_23_code 42 = .ok (.iadd, 1) := by decide +kernel
theorem dMo_baseSegments_43 : decode prog_13_method_23_code 43 = .ok (.baload, 1) := by decide +kernel
theorem dMo_baseSegments_44 : decode prog_13_method_23_code 44 = .ok (.bipush 47, 2) := by decide +kernel
theorem dMo_baseSegments_46 : decode prog_13_method_23_code 46 = .ok (.if_icmp .eq 9, 3) := by decide +kernel
theorem dMo_baseSegments_49 : decode prog_13_method_23_code 49 = .ok (.iinc 5 1, 3) := by decide +kernel
theorem dMo_baseSegments_52 : decode prog_13_method_23_code 52 = .ok (.goto (-28), 3) := by decide +kernel
theorem dMo_baseSegments_55 : decode prog_13_method_23_code 55 = .ok (.iload_n 2, 1) := by decide +kernel
theorem dMo_baseSegments_56 : decode prog_13_method_23_code 56 = .ok (.ifCond .ne 10, 3) := by decide +kernel
theorem dMo_baseSegments_59 : decode prog_13_method_23_code 59 = .ok (.iload 5, 2) := by decide +kernel
theorem dMo_baseSegments_61 : decode prog_13_method_23_code 61 = .ok (.iload 4, 2) := by decide +kernel
theorem dMo_baseSegments_63 : decode prog_13_method_23_code 63 = .ok (.if_icmp .ge 26, 3) := by decide +kernel
theorem dMo_baseSegments_66 : decode prog_13_method_23_code 66 = .ok (.aload_n 0, 1) := by decide +kernel
theorem dMo_baseSegments_67 : decode prog_13_method_23_code 67 = .ok (.aload_n 0, 1) := by decide +kernel
theorem dMo_baseSegments_68 : decode prog_13_method_23_code 68 = .ok (.getfield 36, 3) := by decide +kernel
theorem dMo_baseSegments_71 : decode prog_13_method_23_code 71 = .ok (.iload_n 1, 1) := by decide +kernel
theorem dMo_baseSegments_72 : decode prog_13_method_23_code 72 = .ok (.sipush 150, 3) := by decide +kernel
theorem dMo_baseSegments_75 : decode prog_13_method_23_code 75 = .ok (.imul, 1) := by decide +kernel
theorem dMo_baseSegments_76 : decode prog_13_method_23_code 76 = .ok (.iload_n 3, 1) := by decide +kernel
theorem dMo_baseSegments_77 : decode prog_13_method_23_code 77 = .ok (.iadd, 1) := by decide +kernel
theorem dMo_baseSegments_78 : decode prog_13_method_23_code 78 = .ok (.iconst 1, 1) := by decide +kernel
theorem dMo_baseSegments_79 : decode prog_13_method_23_code 79 = .ok (.iadd, 1) := by decide +kernel
theorem dMo_baseSegments_80 : decode prog_13_method_23_code 80 = .ok (.iload 5, 2) := by decide +kernel
theorem dMo_baseSegments_82 : decode prog_13_method_23_code 82 = .ok (.iload_n 3, 1) := by decide +kernel
theorem dMo_baseSegments_83 : decode prog_13_method_23_code 83 = .ok (.isub, 1) := by decide +kernel
theorem dMo_baseSegments_84 : decode prog_13_method_23_code 84 = .ok (.iconst 1, 1) := by decide +kernel
theorem dMo_baseSegments_85 : decode prog_13_method_23_code 85 = .ok (.isub, 1) := by decide +kernel
theorem dMo_baseSegments_86 : decode prog_13_method_23_code 86 = .ok (.invokevirtual 80, 3) := by decide +kernel
theorem dMo_baseSegments_89 : decode prog_13_method_23_code 89 = .ok (.iload 5, 2) := by decide +kernel
theorem dMo_baseSegments_91 : decode prog_13_method_23_code 91 = .ok (.istore_n 3, 1) := by decide +kernel
theorem dMo_baseSegments_92 : decode prog_13_method_23_code 92 = .ok (.goto (-79), 3) := by decide +kernel
theorem dMo_baseSegments_95 : decode prog_13_method_23_code 95 = .ok (.return_, 1) := by decide +kernel
theorem dMo_queryAt_0 : decode prog_13_method_16_code 0 = .ok (.iconst 0, 1) := by decide +kernel
theorem dMo_queryAt_1 : decode prog_13_method_16_code 1 = .ok (.istore_n 2, 1) := by decide +kernel
theorem dMo_queryAt_2 : decode prog_13_method_16_code 2 = .ok (.iload_n 2, 1) := by decide +kernel
theorem dMo_queryAt_3 : decode prog_13_method_16_code 3 = .ok (.aload_n 0, 1) := by decide +kernel
theorem dMo_queryAt_4 : decode prog_13_method_16_code 4 = .ok (.getfield 39, 3) := by decide +kernel
theorem dMo_queryAt_7 : decode prog_13_method_16_code 7 = .ok (.iload_n 1, 1) := by decide +kernel
theorem dMo_queryAt_8 : decode prog_13_method_16_code 8 = .ok (.iaload, 1) := by decide +kernel
theorem dMo_queryAt_9 : decode prog_13_method_16_code 9 = .ok (.if_icmp .ge 26, 3) := by decide +kernel
theorem dMo_queryAt_12 : decode prog_13_method_16_code 12 = .ok (.aload_n 0, 1) := by decide +kernel
theorem dMo_queryAt_13 : decode prog_13_method_16_code 13 = .ok (.getfield 36, 3) := by decide +kernel
theorem dMo_queryAt_16 : decode prog_13_method_16_code 16 = .ok (.iload_n 1, 1) := by decide +kernel
theorem dMo_queryAt_17 : decode prog_13_method_16_code 17 = .ok (.sipush 150, 3) := by decide +kernel
theorem dMo_queryAt_20 : decode prog_13_method_16_code 20 = .ok (.imul, 1) := by decide +kernel
theorem dMo_queryAt_21 : decode prog_13_method_16_code 21 = .ok (.iload_n 2, 1) := by decide +kernel
theorem dMo_queryAt_22 : decode prog_13_method_16_code 22 = .ok (.iadd, 1) := by decide +kernel
theorem dMo_queryAt_23 : decode prog_13_method_16_code 23 = .ok (.baload, 1) := by decide +kernel
theorem dMo_queryAt_24 : decode prog_13_method_16_code 24 = .ok (.bipush 63, 2) := by decide +kernel
theorem dMo_queryAt_26 : decode prog_13_method_16_code 26 = .ok (.if_icmp .eq 9, 3) := by decide +kernel
theorem dMo_queryAt_29 : decode prog_13_method_16_code 29 = .ok (.iinc 2 1, 3) := by decide +kernel
theorem dMo_queryAt_32 : decode prog_13_method_16_code 32 = .ok (.goto (-30), 3) := by decide +kernel
theorem dMo_queryAt_35 : decode prog_13_method_16_code 35 = .ok (.iload_n 2, 1) := by decide +kernel
theorem dMo_queryAt_36 : decode prog_13_method_16_code 36 = .ok (.ireturn, 1) := by decide +kernel
theorem dMo_query_0 : decode prog_13_method_25_code 0 = .ok (.aload_n 0, 1) := by decide +kernel
theorem dMo_query_1 : decode prog_13_method_25_code 1 = .ok (.getfield 73, 3) := by decide +kernel
theorem dMo_query_4 : decode prog_13_method_25_code 4 = .ok (.iload_n 2, 1) := by decide +kernel
theorem dMo_query_5 : decode prog_13_method_25_code 5 = .ok (.if_icmp .ge 97, 3) := by decide +kernel
theorem dMo_query_8 : decode prog_13_method_25_code 8 = .ok (.aload_n 1, 1) := by decide +kernel
theorem dMo_query_9 : decode prog_13_method_25_code 9 = .ok (.aload_n 0, 1) := by decide +kernel
theorem dMo_query_10 : decode prog_13_method_25_code 10 = .ok (.getfield 73, 3) := by decide +kernel
theorem dMo_query_13 : decode prog_13_method_25_code 13 = .ok (.baload, 1) := by decide +kernel
theorem dMo_query_14 : decode prog_13_method_25_code 14 = .ok (.bipush 63, 2) := by decide +kernel
theorem dMo_query_16 : decode prog_13_method_25_code 16 = .ok (.if_icmp .ne 86, 3) := by decide +kernel
theorem dMo_query_19 : decode prog_13_method_25_code 19 = .ok (.aload_n 0, 1) := by decide +kernel
theorem dMo_query_20 : decode prog_13_method_25_code 20 = .ok (.getfield 73, 3) := by decide +kernel
theorem dMo_query_23 : decode prog_13_method_25_code 23 = .ok (.iconst 1, 1) := by decide +kernel
theorem dMo_query_24 : decode prog_13_method_25_code 24 = .ok (.iadd, 1) := by decide +kernel
theorem dMo_query_25 : decode prog_13_method_25_code 25 = .ok (.istore 5, 2) := by decide +kernel
theorem dMo_query_27 : decode prog_13_method_25_code 27 = .ok (.iload 5, 2) := by decide +kernel
theorem dMo_query_29 : decode prog_13_method_25_code 29 = .ok (.iload_n 2, 1) := by decide +kernel
theorem dMo_query_30 : decode prog_13_method_25_code 30 = .ok (.if_icmp .ge 19, 3) := by decide +kernel
theorem dMo_query_33 : decode prog_13_method_25_code 33 = .ok (.aload_n 1, 1) := by decide +kernel
theorem dMo_query_34 : decode prog_13_method_25_code 34 = .ok (.iload 5, 2) := by decide +kernel
theorem dMo_query_36 : decode prog_13_method_25_code 36 = .ok (.baload, 1) := by decide +kernel
theorem dMo_query_37 : decode prog_13_method_25_code 37 = .ok (.invokestatic 105, 3) := by decide +kernel
theorem dMo_query_40 : decode prog_13_method_25_code 40 = .ok (.ifCond .eq 9, 3) := by decide +kernel
theorem dMo_query_43 : decode prog_13_method_25_code 43 = .ok (.iinc 5 1, 3) := by decide +kernel
theorem dMo_query_46 : decode prog_13_method_25_code 46 = .ok (.goto (-19), 3) := by decide +kernel
theorem dMo_query_49 : decode prog_13_method_25_code 49 = .ok (.iload 5, 2) := by decide +kernel
theorem dMo_query_51 : decode prog_13_method_25_code 51 = .ok (.aload_n 0, 1) := by decide +kernel
theorem dMo_query_52 : decode prog_13_method_25_code 52 = .ok (.getfield 73, 3) := by decide +kernel
theorem dMo_query_55 : decode prog_13_method_25_code 55 = .ok (.isub, 1) := by decide +kernel
theorem dMo_query_56 : decode prog_13_method_25_code 56 = .ok (.iconst 1, 1) := by decide +kernel
theorem dMo_query_57 : decode prog_13_method_25_code 57 = .ok (.isub, 1) := by decide +kernel
theorem dMo_query_58 : decode prog_13_method_25_code 58 = .ok (.bipush 40, 2) := by decide +kernel
theorem dMo_query_60 : decode prog_13_method_25_code 60 = .ok (.if_icmp .le 5, 3) := by decide +kernel
theorem dMo_query_63 : decode prog_13_method_25_code 63 = .ok (.iconst 0, 1) := by decide +kernel
theorem dMo_query_64 : decode prog_13_method_25_code 64 = .ok (.ireturn, 1) := by decide +kernel
theorem dMo_query_65 : decode prog_13_method_25_code 65 = .ok (.aload_n 0, 1) := by decide +kernel
theorem dMo_query_66 : decode prog_13_method_25_code 66 = .ok (.getfield 73, 3) := by decide +kernel
theorem dMo_query_69 : decode prog_13_method_25_code 69 = .ok (.istore 6, 2) := by decide +kernel
theorem dMo_query_71 : decode prog_13_method_25_code 71 = .ok (.iload 6, 2) := by decide +kernel
theorem dMo_query_73 : decode prog_13_method_25_code 73 = .ok (.iload 5, 2) := by decide +kernel
theorem dMo_query_75 : decode prog_13_method_25_code 75 = .ok (.if_icmp .ge 18, 3) := by decide +kernel
theorem dMo_query_78 : decode prog_13_method_25_code 78 = .ok (.aload_n 0, 1) := by decide +kernel
theorem dMo_query_79 : decode prog_13_method_25_code 79 = .ok (.iconst 0, 1) := by decide +kernel
theorem dMo_query_80 : decode prog_13_method_25_code 80 = .ok (.aload_n 1, 1) := by decide +kernel
theorem dMo_query_81 : decode prog_13_method_25_code 81 = .ok (.iload 6, 2) := by decide +kernel
theorem dMo_query_83 : decode prog_13_method_25_code 83 = .ok (.baload, 1) := by decide +kernel
theorem dMo_query_84 : decode prog_13_method_25_code 84 = .ok (.invokevirtual 91, 3) := by decide +kernel
theorem dMo_query_87 : decode prog_13_method_25_code 87 = .ok (.iinc 6 1, 3) := by decide +kernel
theorem dMo_query_90 : decode prog_13_method_25_code 90 = .ok (.goto (-19), 3) := by decide +kernel
theorem dMo_query_93 : decode prog_13_method_25_code 93 = .ok (.aload_n 0, 1) := by decide +kernel
theorem dMo_query_94 : decode prog_13_method_25_code 94 = .ok (.iload 5, 2) := by decide +kernel
theorem dMo_query_96 : decode prog_13_method_25_code 96 = .ok (.putfield 73, 3) := by decide +kernel
theorem dMo_query_99 : decode prog_13_method_25_code 99 = .ok (.goto 50, 3) := by decide +kernel
theorem dMo_query_102 : decode prog_13_method_25_code 102 = .ok (.iload 4, 2) := by decide +kernel
theorem dMo_query_104 : decode prog_13_method_25_code 104 = .ok (.ifCond .ne 45, 3) := by decide +kernel
theorem dMo_query_107 : decode prog_13_method_25_code 107 = .ok (.aload_n 0, 1) := by decide +kernel
theorem dMo_query_108 : decode prog_13_method_25_code 108 = .ok (.iload_n 3, 1) := by decide +kernel
theorem dMo_query_109 : decode prog_13_method_25_code 109 = .ok (.invokevirtual 84, 3) := by decide +kernel
theorem dMo_query_112 : decode prog_13_method_25_code 112 = .ok (.istore 5, 2) := by decide +kernel
theorem dMo_query_114 : decode prog_13_method_25_code 114 = .ok (.iload 5, 2) := by decide +kernel
theorem dMo_query_116 : decode prog_13_method_25_code 116 = .ok (.aload_n 0, 1) := by decide +kernel
theorem dMo_query_117 : decode prog_13_method_25_code 117 = .ok (.getfield 39, 3) := by decide +kernel
theorem dMo_query_120 : decode prog_13_method_25_code 120 = .ok (.iload_n 3, 1) := by decide +kernel
theorem dMo_query_121 : decode prog_13_method_25_code 121 = .ok (.iaload, 1) := by decide +kernel
theorem dMo_query_122 : decode prog_13_method_25_code 122 = .ok (.if_icmp .ge 27, 3) := by decide +kernel
theorem dMo_query_125 : decode prog_13_method_25_code 125 = .ok (.aload_n 0, 1) := by decide +kernel
theorem dMo_query_126 : decode prog_13_method_25_code 126 = .ok (.iconst 0, 1) := by decide +kernel
theorem dMo_query_127 : decode prog_13_method_25_code 127 = .ok (.aload_n 0, 1) := by decide +kernel
theorem dMo_query_128 : decode prog_13_method_25_code 128 = .ok (.getfield 36, 3) := by decide +kernel
theorem dMo_query_131 : decode prog_13_method_25_code 131 = .ok (.iload_n 3, 1) := by decide +kernel
theorem dMo_query_132 : decode prog_13_method_25_code 132 = .ok (.sipush 150, 3) := by decide +kernel
theorem dMo_query_135 : decode prog_13_method_25_code 135 = .ok (.imul, 1) := by decide +kernel
theorem dMo_query_136 : decode prog_13_method_25_code 136 = .ok (.iload 5, 2) := by decide +kernel
theorem dMo_query_138 : decode prog_13_method_25_code 138 = .ok (.iadd, 1) := by decide +kernel
theorem dMo_query_139 : decode prog_13_method_25_code 139 = .ok (.baload, 1) := by decide +kernel
theorem dMo_query_140 : decode prog_13_method_25_code 140 = .ok (.invokevirtual 91, 3) := by decide +kernel
theorem dMo_query_143 : decode prog_13_method_25_code 143 = .ok (.iinc 5 1, 3) := by decide +kernel
theorem dMo_query_146 : decode prog_13_method_25_code 146 = .ok (.goto (-32), 3) := by decide +kernel
theorem dMo_query_149 : decode prog_13_method_25_code 149 = .ok (.aload_n 0, 1) := by decide +kernel
theorem dMo_query_150 : decode prog_13_method_25_code 150 = .ok (.getfield 73, 3) := by decide +kernel
theorem dMo_query_153 : decode prog_13_method_25_code 153 = .ok (.iload_n 2, 1) := by decide +kernel
theorem dMo_query_154 : decode prog_13_method_25_code 154 = .ok (.if_icmp .ge 103, 3) := by decide +kernel
theorem dMo_query_157 : decode prog_13_method_25_code 157 = .ok (.aload_n 1, 1) := by decide +kernel
theorem dMo_query_158 : decode prog_13_method_25_code 158 = .ok (.aload_n 0, 1) := by decide +kernel
theorem dMo_query_159 : decode prog_13_method_25_code 159 = .ok (.getfield 73, 3) := by decide +kernel
theorem dMo_query_162 : decode prog_13_method_25_code 162 = .ok (.baload, 1) := by decide +kernel
theorem dMo_query_163 : decode prog_13_method_25_code 163 = .ok (.bipush 35, 2) := by decide +kernel
theorem dMo_query_165 : decode prog_13_method_25_code 165 = .ok (.if_icmp .ne 92, 3) := by decide +kernel
theorem dMo_query_168 : decode prog_13_method_25_code 168 = .ok (.aload_n 1, 1) := by decide +kernel
theorem dMo_query_169 : decode prog_13_method_25_code 169 = .ok (.aload_n 0, 1) := by decide +kernel
theorem dMo_query_170 : decode prog_13_method_25_code 170 = .ok (.getfield 73, 3) := by decide +kernel
theorem dMo_query_173 : decode prog_13_method_25_code 173 = .ok (.iconst 1, 1) := by decide +kernel
theorem dMo_query_174 : decode prog_13_method_25_code 174 = .ok (.iadd, 1) := by decide +kernel
theorem dMo_query_175 : decode prog_13_method_25_code 175 = .ok (.iload_n 2, 1) := by decide +kernel
theorem dMo_query_176 : decode prog_13_method_25_code 176 = .ok (.invokestatic 87, 3) := by decide +kernel
theorem dMo_query_179 : decode prog_13_method_25_code 179 = .ok (.istore 5, 2) := by decide +kernel
theorem dMo_query_181 : decode prog_13_method_25_code 181 = .ok (.iload 5, 2) := by decide +kernel
theorem dMo_query_183 : decode prog_13_method_25_code 183 = .ok (.aload_n 0, 1) := by decide +kernel
theorem dMo_query_184 : decode prog_13_method_25_code 184 = .ok (.getfield 73, 3) := by decide +kernel
theorem dMo_query_187 : decode prog_13_method_25_code 187 = .ok (.iconst 1, 1) := by decide +kernel
theorem dMo_query_188 : decode prog_13_method_25_code 188 = .ok (.iadd, 1) := by decide +kernel
theorem dMo_query_189 : decode prog_13_method_25_code 189 = .ok (.if_icmp .ne 5, 3) := by decide +kernel
theorem dMo_query_192 : decode prog_13_method_25_code 192 = .ok (.iconst 0, 1) := by decide +kernel
theorem dMo_query_193 : decode prog_13_method_25_code 193 = .ok (.ireturn, 1) := by decide +kernel
theorem dMo_query_194 : decode prog_13_method_25_code 194 = .ok (.aload_n 0, 1) := by decide +kernel
theorem dMo_query_195 : decode prog_13_method_25_code 195 = .ok (.getfield 43, 3) := by decide +kernel
theorem dMo_query_198 : decode prog_13_method_25_code 198 = .ok (.iconst 0, 1) := by decide +kernel
theorem dMo_query_199 : decode prog_13_method_25_code 199 = .ok (.iload 5, 2) := by decide +kernel
theorem dMo_query_201 : decode prog_13_method_25_code 201 = .ok (.aload_n 0, 1) := by decide +kernel
theorem dMo_query_202 : decode prog_13_method_25_code 202 = .ok (.getfield 73, 3) := by decide +kernel
theorem dMo_query_205 : decode prog_13_method_25_code 205 = .ok (.isub, 1) := by decide +kernel
theorem dMo_query_206 : decode prog_13_method_25_code 206 = .ok (.iconst 1, 1) := by decide +kernel
theorem dMo_query_207 : decode prog_13_method_25_code 207 = .ok (.isub, 1) := by decide +kernel
theorem dMo_query_208 : decode prog_13_method_25_code 208 = .ok (.iastore, 1) := by decide +kernel
theorem dMo_query_209 : decode prog_13_method_25_code 209 = .ok (.iconst 0, 1) := by decide +kernel
theorem dMo_query_210 : decode prog_13_method_25_code 210 = .ok (.istore 6, 2) := by decide +kernel
theorem dMo_query_212 : decode prog_13_method_25_code 212 = .ok (.iload 6, 2) := by decide +kernel
theorem dMo_query_214 : decode prog_13_method_25_code 214 = .ok (.aload_n 0, 1) := by decide +kernel
theorem dMo_query_215 : decode prog_13_method_25_code 215 = .ok (.getfield 43, 3) := by decide +kernel
theorem dMo_query_218 : decode prog_13_method_25_code 218 = .ok (.iconst 0, 1) := by decide +kernel
theorem dMo_query_219 : decode prog_13_method_25_code 219 = .ok (.iaload, 1) := by decide +kernel
theorem dMo_query_220 : decode prog_13_method_25_code 220 = .ok (.if_icmp .ge 31, 3) := by decide +kernel
theorem dMo_query_223 : decode prog_13_method_25_code 223 = .ok (.aload_n 0, 1) := by decide +kernel
theorem dMo_query_224 : decode prog_13_method_25_code 224 = .ok (.getfield 36, 3) := by decide +kernel
theorem dMo_query_227 : decode prog_13_method_25_code 227 = .ok (.sipush 135, 3) := by decide +kernel
theorem dMo_query_230 : decode prog_13_method_25_code 230 = .ok (.iload 6, 2) := by decide +kernel
theorem dMo_query_232 : decode prog_13_method_25_code 232 = .ok (.iadd, 1) := by decide +kernel
theorem dMo_query_233 : decode prog_13_method_25_code 233 = .ok (.aload_n 1, 1) := by decide +kernel
theorem dMo_query_234 : decode prog_13_method_25_code 234 = .ok (.aload_n 0, 1) := by decide +kernel
theorem dMo_query_235 : decode prog_13_method_25_code 235 = .ok (.getfield 73, 3) := by decide +kernel
theorem dMo_query_238 : decode prog_13_method_25_code 238 = .ok (.iconst 1, 1) := by decide +kernel
theorem dMo_query_239 : decode prog_13_method_25_code 239 = .ok (.iadd, 1) := by decide +kernel
theorem dMo_query_240 : decode prog_13_method_25_code 240 = .ok (.iload 6, 2) := by decide +kernel
theorem dMo_query_242 : decode prog_13_method_25_code 242 = .ok (.iadd, 1) := by decide +kernel
theorem dMo_query_243 : decode prog_13_method_25_code 243 = .ok (.baload, 1) := by decide +kernel
theorem dMo_query_244 : decode prog_13_method_25_code 244 = .ok (.bastore, 1) := by decide +kernel
theorem dMo_query_245 : decode prog_13_method_25_code 245 = .ok (.iinc 6 1, 3) := by decide +kernel
theorem dMo_query_248 : decode prog_13_method_25_code 248 = .ok (.goto (-36), 3) := by decide +kernel
theorem dMo_query_251 : decode prog_13_method_25_code 251 = .ok (.aload_n 0, 1) := by decide +kernel
theorem dMo_query_252 : decode prog_13_method_25_code 252 = .ok (.iload 5, 2) := by decide +kernel
theorem dMo_query_254 : decode prog_13_method_25_code 254 = .ok (.putfield 73, 3) := by decide +kernel
theorem dMo_query_257 : decode prog_13_method_25_code 257 = .ok (.aload_n 0, 1) := by decide +kernel
theorem dMo_query_258 : decode prog_13_method_25_code 258 = .ok (.getfield 73, 3) := by decide +kernel
theorem dMo_query_261 : decode prog_13_method_25_code 261 = .ok (.iload_n 2, 1) := by decide +kernel
theorem dMo_query_262 : decode prog_13_method_25_code 262 = .ok (.if_icmp .ne 7, 3) := by decide +kernel
theorem dMo_query_265 : decode prog_13_method_25_code 265 = .ok (.iconst 1, 1) := by decide +kernel
theorem dMo_query_266 : decode prog_13_method_25_code 266 = .ok (.goto 4, 3) := by decide +kernel
theorem dMo_query_269 : decode prog_13_method_25_code 269 = .ok (.iconst 0, 1) := by decide +kernel
theorem dMo_query_270 : decode prog_13_method_25_code 270 = .ok (.ireturn, 1) := by decide +kernel
theorem dMo_isQuery_0 : decode prog_13_method_19_code 0 = .ok (.iload_n 0, 1) := by decide +kernel
theorem dMo_isQuery_1 : decode prog_13_method_19_code 1 = .ok (.invokestatic 54, 3) := by decide +kernel
theorem dMo_isQuery_4 : decode prog_13_method_19_code 4 = .ok (.ifCond .ne 21, 3) := by decide +kernel
theorem dMo_isQuery_7 : decode prog_13_method_19_code 7 = .ok (.iload_n 0, 1) := by decide +kernel
theorem dMo_isQuery_8 : decode prog_13_method_19_code 8 = .ok (.bipush 61, 2) := by decide +kernel
theorem dMo_isQuery_10 : decode prog_13_method_19_code 10 = .ok (.if_icmp .eq 15, 3) := by decide +kernel
theorem dMo_isQuery_13 : decode prog_13_method_19_code 13 = .ok (.iload_n 0, 1) := by decide +kernel
theorem dMo_isQuery_14 : decode prog_13_method_19_code 14 = .ok (.bipush 38, 2) := by decide +kernel
theorem dMo_isQuery_16 : decode prog_13_method_19_code 16 = .ok (.if_icmp .eq 9, 3) := by decide +kernel
theorem dMo_isQuery_19 : decode prog_13_method_19_code 19 = .ok (.iload_n 0, 1) := by decide +kernel
theorem dMo_isQuery_20 : decode prog_13_method_19_code 20 = .ok (.bipush 43, 2) := by decide +kernel
theorem dMo_isQuery_22 : decode prog_13_method_19_code 22 = .ok (.if_icmp .ne 7, 3) := by decide +kernel
theorem dMo_isQuery_25 : decode prog_13_method_19_code 25 = .ok (.iconst 1, 1) := by decide +kernel
theorem dMo_isQuery_26 : decode prog_13_method_19_code 26 = .ok (.goto 4, 3) := by decide +kernel
theorem dMo_isQuery_29 : decode prog_13_method_19_code 29 = .ok (.iconst 0, 1) := by decide +kernel
theorem dMo_isQuery_30 : decode prog_13_method_19_code 30 = .ok (.ireturn, 1) := by decide +kernel
theorem dMo_copyRow_0 : decode prog_13_method_12_code 0 = .ok (.iconst 0, 1) := by decide +kernel
theorem dMo_copyRow_1 : decode prog_13_method_12_code 1 = .ok (.istore_n 3, 1) := by decide +kernel
theorem dMo_copyRow_2 : decode prog_13_method_12_code 2 = .ok (.iload_n 3, 1) := by decide +kernel
theorem dMo_copyRow_3 : decode prog_13_method_12_code 3 = .ok (.sipush 150, 3) := by decide +kernel
theorem dMo_copyRow_6 : decode prog_13_method_12_code 6 = .ok (.if_icmp .ge 33, 3) := by decide +kernel
theorem dMo_copyRow_9 : decode prog_13_method_12_code 9 = .ok (.aload_n 0, 1) := by decide +kernel
theorem dMo_copyRow_10 : decode prog_13_method_12_code 10 = .ok (.getfield 36, 3) := by decide +kernel
theorem dMo_copyRow_13 : decode prog_13_method_12_code 13 = .ok (.iload_n 1, 1) := by decide +kernel
theorem dMo_copyRow_14 : decode prog_13_method_12_code 14 = .ok (.sipush 150, 3) := by decide +kernel
theorem dMo_copyRow_17 : decode prog_13_method_12_code 17 = .ok (.imul, 1) := by decide +kernel
theorem dMo_copyRow_18 : decode prog_13_method_12_code 18 = .ok (.iload_n 3, 1) := by decide +kernel
theorem dMo_copyRow_19 : decode prog_13_method_12_code 19 = .ok (.iadd, 1) := by decide +kernel
theorem dMo_copyRow_20 : decode prog_13_method_12_code 20 = .ok (.aload_n 0, 1) := by decide +kernel
theorem dMo_copyRow_21 : decode prog_13_method_12_code 21 = .ok (.getfield 36, 3) := by decide +kernel
theorem dMo_copyRow_24 : decode prog_13_method_12_code 24 = .ok (.iload_n 2, 1) := by decide +kernel
theorem dMo_copyRow_25 : decode prog_13_method_12_code 25 = .ok (.sipush 150, 3) := by decide +kernel
theorem dMo_copyRow_28 : decode prog_13_method_12_code 28 = .ok (.imul, 1) := by decide +kernel
theorem dMo_copyRow_29 : decode prog_13_method_12_code 29 = .ok (.iload_n 3, 1) := by decide +kernel
theorem dMo_copyRow_30 : decode prog_13_method_12_code 30 = .ok (.iadd, 1) := by decide +kernel
theorem dMo_copyRow_31 : decode prog_13_method_12_code 31 = .ok (.baload, 1) := by decide +kernel
theorem dMo_copyRow_32 : decode prog_13_method_12_code 32 = .ok (.bastore, 1) := by decide +kernel
theorem dMo_copyRow_33 : decode prog_13_method_12_code 33 = .ok (.iinc 3 1, 3) := by decide +kernel
theorem dMo_copyRow_36 : decode prog_13_method_12_code 36 = .ok (.goto (-34), 3) := by decide +kernel
theorem dMo_copyRow_39 : decode prog_13_method_12_code 39 = .ok (.aload_n 0, 1) := by decide +kernel
theorem dMo_copyRow_40 : decode prog_13_method_12_code 40 = .ok (.getfield 39, 3) := by decide +kernel
theorem dMo_copyRow_43 : decode prog_13_method_12_code 43 = .ok (.iload_n 1, 1) := by decide +kernel
theorem dMo_copyRow_44 : decode prog_13_method_12_code 44 = .ok (.aload_n 0, 1) := by decide +kernel
theorem dMo_copyRow_45 : decode prog_13_method_12_code 45 = .ok (.getfield 39, 3) := by decide +kernel
theorem dMo_copyRow_48 : decode prog_13_method_12_code 48 = .ok (.iload_n 2, 1) := by decide +kernel
theorem dMo_copyRow_49 : decode prog_13_method_12_code 49 = .ok (.iaload, 1) := by decide +kernel
theorem dMo_copyRow_50 : decode prog_13_method_12_code 50 = .ok (.iastore, 1) := by decide +kernel
theorem dMo_copyRow_51 : decode prog_13_method_12_code 51 = .ok (.aload_n 0, 1) := by decide +kernel
theorem dMo_copyRow_52 : decode prog_13_method_12_code 52 = .ok (.getfield 43, 3) := by decide +kernel
theorem dMo_copyRow_55 : decode prog_13_method_12_code 55 = .ok (.iload_n 1, 1) := by decide +kernel
theorem dMo_copyRow_56 : decode prog_13_method_12_code 56 = .ok (.aload_n 0, 1) := by decide +kernel
theorem dMo_copyRow_57 : decode prog_13_method_12_code 57 = .ok (.getfield 43, 3) := by decide +kernel
theorem dMo_copyRow_60 : decode prog_13_method_12_code 60 = .ok (.iload_n 2, 1) := by decide +kernel
theorem dMo_copyRow_61 : decode prog_13_method_12_code 61 = .ok (.iaload, 1) := by decide +kernel
theorem dMo_copyRow_62 : decode prog_13_method_12_code 62 = .ok (.iastore, 1) := by decide +kernel
theorem dMo_copyRow_63 : decode prog_13_method_12_code 63 = .ok (.return_, 1) := by decide +kernel
theorem dMo_field_0 : decode prog_13_method_28_code 0 = .ok (.iload_n 2, 1) := by decide +kernel
theorem dMo_field_1 : decode prog_13_method_28_code 1 = .ok (.iload_n 1, 1) := by decide +kernel
theorem dMo_field_2 : decode prog_13_method_28_code 2 = .ok (.isub, 1) := by decide +kernel
theorem dMo_field_3 : decode prog_13_method_28_code 3 = .ok (.iconst 4, 1) := by decide +kernel
theorem dMo_field_4 : decode prog_13_method_28_code 4 = .ok (.if_icmp .ne 42, 3) := by decide +kernel
theorem dMo_field_7 : decode prog_13_method_28_code 7 = .ok (.aload_n 0, 1) := by decide +kernel
theorem dMo_field_8 : decode prog_13_method_28_code 8 = .ok (.getfield 21, 3) := by decide +kernel
theorem dMo_field_11 : decode prog_13_method_28_code 11 = .ok (.iload_n 1, 1) := by decide +kernel
theorem dMo_field_12 : decode prog_13_method_28_code 12 = .ok (.iload_n 2, 1) := by decide +kernel
theorem dMo_field_13 : decode prog_13_method_28_code 13 = .ok (.ldc2_w 114, 3) := by decide +kernel
theorem dMo_field_16 : decode prog_13_method_28_code 16 = .ok (.invokestatic 116, 3) := by decide +kernel
theorem dMo_field_19 : decode prog_13_method_28_code 19 = .ok (.ifCond .eq 27, 3) := by decide +kernel
theorem dMo_field_22 : decode prog_13_method_28_code 22 = .ok (.aload_n 0, 1) := by decide +kernel
theorem dMo_field_23 : decode prog_13_method_28_code 23 = .ok (.dup, 1) := by decide +kernel
theorem dMo_field_24 : decode prog_13_method_28_code 24 = .ok (.getfield 120, 3) := by decide +kernel
theorem dMo_field_27 : decode prog_13_method_28_code 27 = .ok (.iconst 1, 1) := by decide +kernel
theorem dMo_field_28 : decode prog_13_method_28_code 28 = .ok (.iadd, 1) := by decide +kernel
theorem dMo_field_29 : decode prog_13_method_28_code 29 = .ok (.putfield 120, 3) := by decide +kernel
theorem dMo_field_32 : decode prog_13_method_28_code 32 = .ok (.aload_n 0, 1) := by decide +kernel
theorem dMo_field_33 : decode prog_13_method_28_code 33 = .ok (.getfield 120, 3) := by decide +kernel
theorem dMo_field_36 : decode prog_13_method_28_code 36 = .ok (.iconst 1, 1) := by decide +kernel
theorem dMo_field_37 : decode prog_13_method_28_code 37 = .ok (.if_icmp .ne 7, 3) := by decide +kernel
theorem dMo_field_40 : decode prog_13_method_28_code 40 = .ok (.iconst 1, 1) := by decide +kernel
theorem dMo_field_41 : decode prog_13_method_28_code 41 = .ok (.goto 4, 3) := by decide +kernel
theorem dMo_field_44 : decode prog_13_method_28_code 44 = .ok (.iconst 0, 1) := by decide +kernel
theorem dMo_field_45 : decode prog_13_method_28_code 45 = .ok (.ireturn, 1) := by decide +kernel
theorem dMo_field_46 : decode prog_13_method_28_code 46 = .ok (.iload_n 1, 1) := by decide +kernel
theorem dMo_field_47 : decode prog_13_method_28_code 47 = .ok (.istore_n 3, 1) := by decide +kernel
theorem dMo_field_48 : decode prog_13_method_28_code 48 = .ok (.iload_n 3, 1) := by decide +kernel
theorem dMo_field_49 : decode prog_13_method_28_code 49 = .ok (.iload_n 2, 1) := by decide +kernel
theorem dMo_field_50 : decode prog_13_method_28_code 50 = .ok (.if_icmp .ge 20, 3) := by decide +kernel
theorem dMo_field_53 : decode prog_13_method_28_code 53 = .ok (.aload_n 0, 1) := by decide +kernel
theorem dMo_field_54 : decode prog_13_method_28_code 54 = .ok (.getfield 21, 3) := by decide +kernel
theorem dMo_field_57 : decode prog_13_method_28_code 57 = .ok (.iload_n 3, 1) := by decide +kernel
theorem dMo_field_58 : decode prog_13_method_28_code 58 = .ok (.baload, 1) := by decide +kernel
theorem dMo_field_59 : decode prog_13_method_28_code 59 = .ok (.bipush 61, 2) := by decide +kernel
theorem dMo_field_61 : decode prog_13_method_28_code 61 = .ok (.if_icmp .eq 9, 3) := by decide +kernel
theorem dMo_field_64 : decode prog_13_method_28_code 64 = .ok (.iinc 3 1, 3) := by decide +kernel
theorem dMo_field_67 : decode prog_13_method_28_code 67 = .ok (.goto (-19), 3) := by decide +kernel
theorem dMo_field_70 : decode prog_13_method_28_code 70 = .ok (.iload_n 3, 1) := by decide +kernel
theorem dMo_field_71 : decode prog_13_method_28_code 71 = .ok (.iload_n 2, 1) := by decide +kernel
theorem dMo_field_72 : decode prog_13_method_28_code 72 = .ok (.if_icmp .ne 5, 3) := by decide +kernel
theorem dMo_field_75 : decode prog_13_method_28_code 75 = .ok (.iconst 0, 1) := by decide +kernel
theorem dMo_field_76 : decode prog_13_method_28_code 76 = .ok (.ireturn, 1) := by decide +kernel
theorem dMo_field_77 : decode prog_13_method_28_code 77 = .ok (.iload_n 3, 1) := by decide +kernel
theorem dMo_field_78 : decode prog_13_method_28_code 78 = .ok (.iload_n 1, 1) := by decide +kernel
theorem dMo_field_79 : decode prog_13_method_28_code 79 = .ok (.isub, 1) := by decide +kernel
theorem dMo_field_80 : decode prog_13_method_28_code 80 = .ok (.istore 4, 2) := by decide +kernel
theorem dMo_field_82 : decode prog_13_method_28_code 82 = .ok (.iload 4, 2) := by decide +kernel
theorem dMo_field_84 : decode prog_13_method_28_code 84 = .ok (.iconst 3, 1) := by decide +kernel
theorem dMo_field_85 : decode prog_13_method_28_code 85 = .ok (.if_icmp .ne 138, 3) := by decide +kernel
theorem dMo_field_88 : decode prog_13_method_28_code 88 = .ok (.aload_n 0, 1) := by decide +kernel
theorem dMo_field_89 : decode prog_13_method_28_code 89 = .ok (.getfield 21, 3) := by decide +kernel
theorem dMo_field_92 : decode prog_13_method_28_code 92 = .ok (.iload_n 1, 1) := by decide +kernel
theorem dMo_field_93 : decode prog_13_method_28_code 93 = .ok (.iload_n 3, 1) := by decide +kernel
theorem dMo_field_94 : decode prog_13_method_28_code 94 = .ok (.ldc2_w 123, 3) := by decide +kernel
theorem dMo_field_97 : decode prog_13_method_28_code 97 = .ok (.invokestatic 116, 3) := by decide +kernel
theorem dMo_field_100 : decode prog_13_method_28_code 100 = .ok (.ifCond .eq 123, 3) := by decide +kernel
theorem dMo_field_103 : decode prog_13_method_28_code 103 = .ok (.iconst 0, 1) := by decide +kernel
theorem dMo_field_104 : decode prog_13_method_28_code 104 = .ok (.istore 5, 2) := by decide +kernel
theorem dMo_field_106 : decode prog_13_method_28_code 106 = .ok (.iload_n 2, 1) := by decide +kernel
theorem dMo_field_107 : decode prog_13_method_28_code 107 = .ok (.iload_n 3, 1) := by decide +kernel
theorem dMo_field_108 : decode prog_13_method_28_code 108 = .ok (.isub, 1) := by decide +kernel
theorem dMo_field_109 : decode prog_13_method_28_code 109 = .ok (.iconst 1, 1) := by decide +kernel
theorem dMo_field_110 : decode prog_13_method_28_code 110 = .ok (.isub, 1) := by decide +kernel
theorem dMo_field_111 : decode prog_13_method_28_code 111 = .ok (.iconst 1, 1) := by decide +kernel
theorem dMo_field_112 : decode prog_13_method_28_code 112 = .ok (.if_icmp .lt 16, 3) := by decide +kernel
theorem dMo_field_115 : decode prog_13_method_28_code 115 = .ok (.iload_n 2, 1) := by decide +kernel
theorem dMo_field_116 : decode prog_13_method_28_code 116 = .ok (.iload_n 3, 1) := by decide +kernel
theorem dMo_field_117 : decode prog_13_method_28_code 117 = .ok (.isub, 1) := by decide +kernel
theorem dMo_field_118 : decode prog_13_method_28_code 118 = .ok (.iconst 1, 1) := by decide +kernel
theorem dMo_field_119 : decode prog_13_method_28_code 119 = .ok (.isub, 1) := by decide +kernel
theorem dMo_field_120 : decode prog_13_method_28_code 120 = .ok (.iconst 4, 1) := by decide +kernel
theorem dMo_field_121 : decode prog_13_method_28_code 121 = .ok (.if_icmp .gt 7, 3) := by decide +kernel
theorem dMo_field_124 : decode prog_13_method_28_code 124 = .ok (.iconst 1, 1) := by decide +kernel
theorem dMo_field_125 : decode prog_13_method_28_code 125 = .ok (.goto 4, 3) := by decide +kernel
theorem dMo_field_128 : decode prog_13_method_28_code 128 = .ok (.iconst 0, 1) := by decide +kernel
theorem dMo_field_129 : decode prog_13_method_28_code 129 = .ok (.istore 6, 2) := by decide +kernel
theorem dMo_field_131 : decode prog_13_method_28_code 131 = .ok (.iload_n 3, 1) := by decide +kernel
theorem dMo_field_132 : decode prog_13_method_28_code 132 = .ok (.iconst 1, 1) := by decide +kernel
theorem dMo_field_133 : decode prog_13_method_28_code 133 = .ok (.iadd, 1) := by decide +kernel
theorem dMo_field_134 : decode prog_13_method_28_code 134 = .ok (.istore 7, 2) := by decide +kernel
theorem dMo_field_136 : decode prog_13_method_28_code 136 = .ok (.iload 7, 2) := by decide +kernel
theorem dMo_field_138 : decode prog_13_method_28_code 138 = .ok (.iload_n 2, 1) := by decide +kernel
theorem dMo_field_139 : decode prog_13_method_28_code 139 = .ok (.if_icmp .ge 44, 3) := by decide +kernel
theorem dMo_field_142 : decode prog_13_method_28_code 142 = .ok (.iload 6, 2) := by decide +kernel
theorem dMo_field_144 : decode prog_13_method_28_code 144 = .ok (.ifCond .eq 39, 3) := by decide +kernel
theorem dMo_field_147 : decode prog_13_method_28_code 147 = .ok (.aload_n 0, 1) := by decide +kernel
theorem dMo_field_148 : decode prog_13_method_28_code 148 = .ok (.getfield 21, 3) := by decide +kernel
theorem dMo_field_151 : decode prog_13_method_28_code 151 = .ok (.iload 7, 2) := by decide +kernel
theorem dMo_field_153 : decode prog_13_method_28_code 153 = .ok (.baload, 1) := by decide +kernel
theorem dMo_field_154 : decode prog_13_method_28_code 154 = .ok (.invokestatic 31, 3) := by decide +kernel
theorem dMo_field_157 : decode prog_13_method_28_code 157 = .ok (.istore 6, 2) := by decide +kernel
theorem dMo_field_159 : decode prog_13_method_28_code 159 = .ok (.bipush 10, 2) := by decide +kernel
theorem dMo_field_161 : decode prog_13_method_28_code 161 = .ok (.iload 5, 2) := by decide +kernel
theorem dMo_field_163 : decode prog_13_method_28_code 163 = .ok (.imul, 1) := by decide +kernel
theorem dMo_field_164 : decode prog_13_method_28_code 164 = .ok (.aload_n 0, 1) := by decide +kernel
theorem dMo_field_165 : decode prog_13_method_28_code 165 = .ok (.getfield 21, 3) := by decide +kernel
theorem dMo_field_168 : decode prog_13_method_28_code 168 = .ok (.iload 7, 2) := by decide +kernel
theorem dMo_field_170 : decode prog_13_method_28_code 170 = .ok (.baload, 1) := by decide +kernel
theorem dMo_field_171 : decode prog_13_method_28_code 171 = .ok (.iadd, 1) := by decide +kernel
theorem dMo_field_172 : decode prog_13_method_28_code 172 = .ok (.bipush 48, 2) := by decide +kernel
theorem dMo_field_174 : decode prog_13_method_28_code 174 = .ok (.isub, 1) := by decide +kernel
theorem dMo_field_175 : decode prog_13_method_28_code 175 = .ok (.istore 5, 2) := by decide +kernel
theorem dMo_field_177 : decode prog_13_method_28_code 177 = .ok (.iinc 7 1, 3) := by decide +kernel
theorem dMo_field_180 : decode prog_13_method_28_code 180 = .ok (.goto (-44), 3) := by decide +kernel
theorem dMo_field_183 : decode prog_13_method_28_code 183 = .ok (.iload 6, 2) := by decide +kernel
theorem dMo_field_185 : decode prog_13_method_28_code 185 = .ok (.ifCond .eq 14, 3) := by decide +kernel
theorem dMo_field_188 : decode prog_13_method_28_code 188 = .ok (.aload_n 0, 1) := by decide +kernel
theorem dMo_field_189 : decode prog_13_method_28_code 189 = .ok (.getfield 125, 3) := by decide +kernel
theorem dMo_field_192 : decode prog_13_method_28_code 192 = .ok (.ifCond .ge 7, 3) := by decide +kernel
theorem dMo_field_195 : decode prog_13_method_28_code 195 = .ok (.iconst 1, 1) := by decide +kernel
theorem dMo_field_196 : decode prog_13_method_28_code 196 = .ok (.goto 4, 3) := by decide +kernel
theorem dMo_field_199 : decode prog_13_method_28_code 199 = .ok (.iconst 0, 1) := by decide +kernel
theorem dMo_field_200 : decode prog_13_method_28_code 200 = .ok (.istore 6, 2) := by decide +kernel
theorem dMo_field_202 : decode prog_13_method_28_code 202 = .ok (.aload_n 0, 1) := by decide +kernel
theorem dMo_field_203 : decode prog_13_method_28_code 203 = .ok (.iload 6, 2) := by decide +kernel
theorem dMo_field_205 : decode prog_13_method_28_code 205 = .ok (.ifCond .eq 8, 3) := by decide +kernel
theorem dMo_field_208 : decode prog_13_method_28_code 208 = .ok (.iload 5, 2) := by decide +kernel
theorem dMo_field_210 : decode prog_13_method_28_code 210 = .ok (.goto 7, 3) := by decide +kernel
theorem dMo_field_213 : decode prog_13_method_28_code 213 = .ok (.aload_n 0, 1) := by decide +kernel
theorem dMo_field_214 : decode prog_13_method_28_code 214 = .ok (.getfield 125, 3) := by decide +kernel
theorem dMo_field_217 : decode prog_13_method_28_code 217 = .ok (.putfield 125, 3) := by decide +kernel
theorem dMo_field_220 : decode prog_13_method_28_code 220 = .ok (.iload 6, 2) := by decide +kernel
theorem dMo_field_222 : decode prog_13_method_28_code 222 = .ok (.ireturn, 1) := by decide +kernel
theorem dMo_field_223 : decode prog_13_method_28_code 223 = .ok (.iload 4, 2) := by decide +kernel
theorem dMo_field_225 : decode prog_13_method_28_code 225 = .ok (.bipush 6, 2) := by decide +kernel
theorem dMo_field_227 : decode prog_13_method_28_code 227 = .ok (.if_icmp .ne 196, 3) := by decide +kernel
theorem dMo_field_230 : decode prog_13_method_28_code 230 = .ok (.aload_n 0, 1) := by decide +kernel
theorem dMo_field_231 : decode prog_13_method_28_code 231 = .ok (.getfield 21, 3) := by decide +kernel
theorem dMo_field_234 : decode prog_13_method_28_code 234 = .ok (.iload_n 1, 1) := by decide +kernel
theorem dMo_field_235 : decode prog_13_method_28_code 235 = .ok (.iload_n 3, 1) := by decide +kernel
theorem dMo_field_236 : decode prog_13_method_28_code 236 = .ok (.ldc2_w 128, 3) := by decide +kernel
theorem dMo_field_239 : decode prog_13_method_28_code 239 = .ok (.invokestatic 116, 3) := by decide +kernel
theorem dMo_field_242 : decode prog_13_method_28_code 242 = .ok (.ifCond .eq 181, 3) := by decide +kernel
theorem dMo_field_245 : decode prog_13_method_28_code 245 = .ok (.aload_n 0, 1) := by decide +kernel
theorem dMo_field_246 : decode prog_13_method_28_code 246 = .ok (.getfield 21, 3) := by decide +kernel
theorem dMo_field_249 : decode prog_13_method_28_code 249 = .ok (.iload_n 3, 1) := by decide +kernel
theorem dMo_field_250 : decode prog_13_method_28_code 250 = .ok (.iconst 1, 1) := by decide +kernel
theorem dMo_field_251 : decode prog_13_method_28_code 251 = .ok (.iadd, 1) := by decide +kernel
theorem dMo_field_252 : decode prog_13_method_28_code 252 = .ok (.iload_n 2, 1) := by decide +kernel
theorem dMo_field_253 : decode prog_13_method_28_code 253 = .ok (.invokestatic 87, 3) := by decide +kernel
theorem dMo_field_256 : decode prog_13_method_28_code 256 = .ok (.istore 5, 2) := by decide +kernel
theorem dMo_field_258 : decode prog_13_method_28_code 258 = .ok (.iload 5, 2) := by decide +kernel
theorem dMo_field_260 : decode prog_13_method_28_code 260 = .ok (.iload_n 3, 1) := by decide +kernel
theorem dMo_field_261 : decode prog_13_method_28_code 261 = .ok (.iconst 1, 1) := by decide +kernel
theorem dMo_field_262 : decode prog_13_method_28_code 262 = .ok (.iadd, 1) := by decide +kernel
theorem dMo_field_263 : decode prog_13_method_28_code 263 = .ok (.if_icmp .eq 28, 3) := by decide +kernel
theorem dMo_field_266 : decode prog_13_method_28_code 266 = .ok (.iload 5, 2) := by decide +kernel
theorem dMo_field_268 : decode prog_13_method_28_code 268 = .ok (.iload_n 2, 1) := by decide +kernel
theorem dMo_field_269 : decode prog_13_method_28_code 269 = .ok (.if_icmp .ge 22, 3) := by decide +kernel
theorem dMo_field_272 : decode prog_13_method_28_code 272 = .ok (.aload_n 0, 1) := by decide +kernel
theorem dMo_field_273 : decode prog_13_method_28_code 273 = .ok (.getfield 21, 3) := by decide +kernel
theorem dMo_field_276 : decode prog_13_method_28_code 276 = .ok (.iload 5, 2) := by decide +kernel
theorem dMo_field_278 : decode prog_13_method_28_code 278 = .ok (.baload, 1) := by decide +kernel
theorem dMo_field_279 : decode prog_13_method_28_code 279 = .ok (.bipush 58, 2) := by decide +kernel
theorem dMo_field_281 : decode prog_13_method_28_code 281 = .ok (.if_icmp .ne 10, 3) := by decide +kernel
theorem dMo_field_284 : decode prog_13_method_28_code 284 = .ok (.aload_n 0, 1) := by decide +kernel
theorem dMo_field_285 : decode prog_13_method_28_code 285 = .ok (.getfield 130, 3) := by decide +kernel
theorem dMo_field_288 : decode prog_13_method_28_code 288 = .ok (.ifCond .le 5, 3) := by decide +kernel
theorem dMo_field_291 : decode prog_13_method_28_code 291 = .ok (.iconst 0, 1) := by decide +kernel
theorem dMo_field_292 : decode prog_13_method_28_code 292 = .ok (.ireturn, 1) := by decide +kernel
theorem dMo_field_293 : decode prog_13_method_28_code 293 = .ok (.aload_n 0, 1) := by decide +kernel
theorem dMo_field_294 : decode prog_13_method_28_code 294 = .ok (.getfield 21, 3) := by decide +kernel
theorem dMo_field_297 : decode prog_13_method_28_code 297 = .ok (.iload 5, 2) := by decide +kernel
theorem dMo_field_299 : decode prog_13_method_28_code 299 = .ok (.iconst 1, 1) := by decide +kernel
theorem dMo_field_300 : decode prog_13_method_28_code 300 = .ok (.iadd, 1) := by decide +kernel
theorem dMo_field_301 : decode prog_13_method_28_code 301 = .ok (.iload_n 2, 1) := by decide +kernel
theorem dMo_field_302 : decode prog_13_method_28_code 302 = .ok (.invokestatic 87, 3) := by decide +kernel
theorem dMo_field_305 : decode prog_13_method_28_code 305 = .ok (.istore 6, 2) := by decide +kernel
theorem dMo_field_307 : decode prog_13_method_28_code 307 = .ok (.iload 6, 2) := by decide +kernel
theorem dMo_field_309 : decode prog_13_method_28_code 309 = .ok (.iload 5, 2) := by decide +kernel
theorem dMo_field_311 : decode prog_13_method_28_code 311 = .ok (.iconst 1, 1) := by decide +kernel
theorem dMo_field_312 : decode prog_13_method_28_code 312 = .ok (.iadd, 1) := by decide +kernel
theorem dMo_field_313 : decode prog_13_method_28_code 313 = .ok (.if_icmp .eq 9, 3) := by decide +kernel
theorem dMo_field_316 : decode prog_13_method_28_code 316 = .ok (.iload 6, 2) := by decide +kernel
theorem dMo_field_318 : decode prog_13_method_28_code 318 = .ok (.iload_n 2, 1) := by decide +kernel
theorem dMo_field_319 : decode prog_13_method_28_code 319 = .ok (.if_icmp .eq 5, 3) := by decide +kernel
theorem dMo_field_322 : decode prog_13_method_28_code 322 = .ok (.iconst 0, 1) := by decide +kernel
theorem dMo_field_323 : decode prog_13_method_28_code 323 = .ok (.ireturn, 1) := by decide +kernel
theorem dMo_field_324 : decode prog_13_method_28_code 324 = .ok (.aload_n 0, 1) := by decide +kernel
theorem dMo_field_325 : decode prog_13_method_28_code 325 = .ok (.iload 5, 2) := by decide +kernel
theorem dMo_field_327 : decode prog_13_method_28_code 327 = .ok (.iload_n 3, 1) := by decide +kernel
theorem dMo_field_328 : decode prog_13_method_28_code 328 = .ok (.isub, 1) := by decide +kernel
theorem dMo_field_329 : decode prog_13_method_28_code 329 = .ok (.iconst 1, 1) := by decide +kernel
theorem dMo_field_330 : decode prog_13_method_28_code 330 = .ok (.isub, 1) := by decide +kernel
theorem dMo_field_331 : decode prog_13_method_28_code 331 = .ok (.putfield 130, 3) := by decide +kernel
theorem dMo_field_334 : decode prog_13_method_28_code 334 = .ok (.aload_n 0, 1) := by decide +kernel
theorem dMo_field_335 : decode prog_13_method_28_code 335 = .ok (.iload 6, 2) := by decide +kernel
theorem dMo_field_337 : decode prog_13_method_28_code 337 = .ok (.iload 5, 2) := by decide +kernel
theorem dMo_field_339 : decode prog_13_method_28_code 339 = .ok (.isub, 1) := by decide +kernel
theorem dMo_field_340 : decode prog_13_method_28_code 340 = .ok (.iconst 1, 1) := by decide +kernel
theorem dMo_field_341 : decode prog_13_method_28_code 341 = .ok (.isub, 1) := by decide +kernel
theorem dMo_field_342 : decode prog_13_method_28_code 342 = .ok (.putfield 133, 3) := by decide +kernel
theorem dMo_field_345 : decode prog_13_method_28_code 345 = .ok (.iconst 0, 1) := by decide +kernel
theorem dMo_field_346 : decode prog_13_method_28_code 346 = .ok (.istore 7, 2) := by decide +kernel
theorem dMo_field_348 : decode prog_13_method_28_code 348 = .ok (.iload 7, 2) := by decide +kernel
theorem dMo_field_350 : decode prog_13_method_28_code 350 = .ok (.aload_n 0, 1) := by decide +kernel
theorem dMo_field_351 : decode prog_13_method_28_code 351 = .ok (.getfield 130, 3) := by decide +kernel
theorem dMo_field_354 : decode prog_13_method_28_code 354 = .ok (.if_icmp .ge 27, 3) := by decide +kernel
theorem dMo_field_357 : decode prog_13_method_28_code 357 = .ok (.aload_n 0, 1) := by decide +kernel
theorem dMo_field_358 : decode prog_13_method_28_code 358 = .ok (.getfield 136, 3) := by decide +kernel
theorem dMo_field_361 : decode prog_13_method_28_code 361 = .ok (.iload 7, 2) := by decide +kernel
theorem dMo_field_363 : decode prog_13_method_28_code 363 = .ok (.aload_n 0, 1) := by decide +kernel
theorem dMo_field_364 : decode prog_13_method_28_code 364 = .ok (.getfield 21, 3) := by decide +kernel
theorem dMo_field_367 : decode prog_13_method_28_code 367 = .ok (.iload_n 3, 1) := by decide +kernel
theorem dMo_field_368 : decode prog_13_method_28_code 368 = .ok (.iconst 1, 1) := by decide +kernel
theorem dMo_field_369 : decode prog_13_method_28_code 369 = .ok (.iadd, 1) := by decide +kernel
theorem dMo_field_370 : decode prog_13_method_28_code 370 = .ok (.iload 7, 2) := by decide +kernel
theorem dMo_field_372 : decode prog_13_method_28_code 372 = .ok (.iadd, 1) := by decide +kernel
theorem dMo_field_373 : decode prog_13_method_28_code 373 = .ok (.baload, 1) := by decide +kernel
theorem dMo_field_374 : decode prog_13_method_28_code 374 = .ok (.bastore, 1) := by decide +kernel
theorem dMo_field_375 : decode prog_13_method_28_code 375 = .ok (.iinc 7 1, 3) := by decide +kernel
theorem dMo_field_378 : decode prog_13_method_28_code 378 = .ok (.goto (-30), 3) := by decide +kernel
theorem dMo_field_381 : decode prog_13_method_28_code 381 = .ok (.iconst 0, 1) := by decide +kernel
theorem dMo_field_382 : decode prog_13_method_28_code 382 = .ok (.istore 7, 2) := by decide +kernel
theorem dMo_field_384 : decode prog_13_method_28_code 384 = .ok (.iload 7, 2) := by decide +kernel
theorem dMo_field_386 : decode prog_13_method_28_code 386 = .ok (.aload_n 0, 1) := by decide +kernel
theorem dMo_field_387 : decode prog_13_method_28_code 387 = .ok (.getfield 133, 3) := by decide +kernel
theorem dMo_field_390 : decode prog_13_method_28_code 390 = .ok (.if_icmp .ge 31, 3) := by decide +kernel
theorem dMo_field_393 : decode prog_13_method_28_code 393 = .ok (.aload_n 0, 1) := by decide +kernel
theorem dMo_field_394 : decode prog_13_method_28_code 394 = .ok (.getfield 136, 3) := by decide +kernel
theorem dMo_field_397 : decode prog_13_method_28_code 397 = .ok (.bipush 8, 2) := by decide +kernel
theorem dMo_field_399 : decode prog_13_method_28_code 399 = .ok (.iload 7, 2) := by decide +kernel
theorem dMo_field_401 : decode prog_13_method_28_code 401 = .ok (.iadd, 1) := by decide +kernel
theorem dMo_field_402 : decode prog_13_method_28_code 402 = .ok (.aload_n 0, 1) := by decide +kernel
theorem dMo_field_403 : decode prog_13_method_28_code 403 = .ok (.getfield 21, 3) := by decide +kernel
theorem dMo_field_406 : decode prog_13_method_28_code 406 = .ok (.iload 5, 2) := by decide +kernel
theorem dMo_field_408 : decode prog_13_method_28_code 408 = .ok (.iconst 1, 1) := by decide +kernel
theorem dMo_field_409 : decode prog_13_method_28_code 409 = .ok (.iadd, 1) := by decide +kernel
theorem dMo_field_410 : decode prog_13_method_28_code 410 = .ok (.iload 7, 2) := by decide +kernel
theorem dMo_field_412 : decode prog_13_method_28_code 412 = .ok (.iadd, 1) := by decide +kernel
theorem dMo_field_413 : decode prog_13_method_28_code 413 = .ok (.baload, 1) := by decide +kernel
theorem dMo_field_414 : decode prog_13_method_28_code 414 = .ok (.bastore, 1) := by decide +kernel
theorem dMo_field_415 : decode prog_13_method_28_code 415 = .ok (.iinc 7 1, 3) := by decide +kernel
theorem dMo_field_418 : decode prog_13_method_28_code 418 = .ok (.goto (-34), 3) := by decide +kernel
theorem dMo_field_421 : decode prog_13_method_28_code 421 = .ok (.iconst 1, 1) := by decide +kernel
theorem dMo_field_422 : decode prog_13_method_28_code 422 = .ok (.ireturn, 1) := by decide +kernel
theorem dMo_field_423 : decode prog_13_method_28_code 423 = .ok (.iload 4, 2) := by decide +kernel
theorem dMo_field_425 : decode prog_13_method_28_code 425 = .ok (.iconst 2, 1) := by decide +kernel
theorem dMo_field_426 : decode prog_13_method_28_code 426 = .ok (.if_icmp .ne 63, 3) := by decide +kernel
theorem dMo_field_429 : decode prog_13_method_28_code 429 = .ok (.aload_n 0, 1) := by decide +kernel
theorem dMo_field_430 : decode prog_13_method_28_code 430 = .ok (.getfield 21, 3) := by decide +kernel
theorem dMo_field_433 : decode prog_13_method_28_code 433 = .ok (.iload_n 1, 1) := by decide +kernel
theorem dMo_field_434 : decode prog_13_method_28_code 434 = .ok (.iload_n 3, 1) := by decide +kernel
theorem dMo_field_435 : decode prog_13_method_28_code 435 = .ok (.ldc2_w 139, 3) := by decide +kernel
theorem dMo_field_438 : decode prog_13_method_28_code 438 = .ok (.invokestatic 116, 3) := by decide +kernel
theorem dMo_field_441 : decode prog_13_method_28_code 441 = .ok (.ifCond .eq 48, 3) := by decide +kernel
theorem dMo_field_444 : decode prog_13_method_28_code 444 = .ok (.aload_n 0, 1) := by decide +kernel
theorem dMo_field_445 : decode prog_13_method_28_code 445 = .ok (.getfield 141, 3) := by decide +kernel
theorem dMo_field_448 : decode prog_13_method_28_code 448 = .ok (.ifCond .gt 19, 3) := by decide +kernel
theorem dMo_field_451 : decode prog_13_method_28_code 451 = .ok (.aload_n 0, 1) := by decide +kernel
theorem dMo_field_452 : decode prog_13_method_28_code 452 = .ok (.aload_n 0, 1) := by decide +kernel
theorem dMo_field_453 : decode prog_13_method_28_code 453 = .ok (.getfield 21, 3) := by decide +kernel
theorem dMo_field_456 : decode prog_13_method_28_code 456 = .ok (.iload_n 3, 1) := by decide +kernel
theorem dMo_field_457 : decode prog_13_method_28_code 457 = .ok (.iconst 1, 1) := by decide +kernel
theorem dMo_field_458 : decode prog_13_method_28_code 458 = .ok (.iadd, 1) := by decide +kernel
theorem dMo_field_459 : decode prog_13_method_28_code 459 = .ok (.iload_n 2, 1) := by decide +kernel
theorem dMo_field_460 : decode prog_13_method_28_code 460 = .ok (.iconst 3, 1) := by decide +kernel
theorem dMo_field_461 : decode prog_13_method_28_code 461 = .ok (.invokevirtual 144, 3) := by decide +kernel
theorem dMo_field_464 : decode prog_13_method_28_code 464 = .ok (.ifCond .ne 5, 3) := by decide +kernel
theorem dMo_field_467 : decode prog_13_method_28_code 467 = .ok (.iconst 0, 1) := by decide +kernel
theorem dMo_field_468 : decode prog_13_method_28_code 468 = .ok (.ireturn, 1) := by decide +kernel
theorem dMo_field_469 : decode prog_13_method_28_code 469 = .ok (.aload_n 0, 1) := by decide +kernel
theorem dMo_field_470 : decode prog_13_method_28_code 470 = .ok (.iconst 1, 1) := by decide +kernel
theorem dMo_field_471 : decode prog_13_method_28_code 471 = .ok (.putfield 141, 3) := by decide +kernel
theorem dMo_field_474 : decode prog_13_method_28_code 474 = .ok (.aload_n 0, 1) := by decide +kernel
theorem dMo_field_475 : decode prog_13_method_28_code 475 = .ok (.iconst 4, 1) := by decide +kernel
theorem dMo_field_476 : decode prog_13_method_28_code 476 = .ok (.iconst 0, 1) := by decide +kernel
theorem dMo_field_477 : decode prog_13_method_28_code 477 = .ok (.invokevirtual 148, 3) := by decide +kernel
theorem dMo_field_480 : decode prog_13_method_28_code 480 = .ok (.aload_n 0, 1) := by decide +kernel
theorem dMo_field_481 : decode prog_13_method_28_code 481 = .ok (.getfield 43, 3) := by decide +kernel
theorem dMo_field_484 : decode prog_13_method_28_code 484 = .ok (.iconst 4, 1) := by decide +kernel
theorem dMo_field_485 : decode prog_13_method_28_code 485 = .ok (.iconst 0, 1) := by decide +kernel
theorem dMo_field_486 : decode prog_13_method_28_code 486 = .ok (.iastore, 1) := by decide +kernel
theorem dMo_field_487 : decode prog_13_method_28_code 487 = .ok (.iconst 1, 1) := by decide +kernel
theorem dMo_field_488 : decode prog_13_method_28_code 488 = .ok (.ireturn, 1) := by decide +kernel
theorem dMo_field_489 : decode prog_13_method_28_code 489 = .ok (.iconst 0, 1) := by decide +kernel
theorem dMo_field_490 : decode prog_13_method_28_code 490 = .ok (.ireturn, 1) := by decide +kernel
theorem dMo_isWord_0 : decode prog_13_method_10_code 0 = .ok (.iload_n 1, 1) := by decide +kernel
theorem dMo_isWord_1 : decode prog_13_method_10_code 1 = .ok (.istore 5, 2) := by decide +kernel
theorem dMo_isWord_3 : decode prog_13_method_10_code 3 = .ok (.lload_n 3, 1) := by decide +kernel
theorem dMo_isWord_4 : decode prog_13_method_10_code 4 = .ok (.lstore 6, 2) := by decide +kernel
theorem dMo_isWord_6 : decode prog_13_method_10_code 6 = .ok (.lload 6, 2) := by decide +kernel
theorem dMo_isWord_8 : decode prog_13_method_10_code 8 = .ok (.lconst 0, 1) := by decide +kernel
theorem dMo_isWord_9 : decode prog_13_method_10_code 9 = .ok (.lcmp, 1) := by decide +kernel
theorem dMo_isWord_10 : decode prog_13_method_10_code 10 = .ok (.ifCond .le 40, 3) := by decide +kernel
theorem dMo_isWord_13 : decode prog_13_method_10_code 13 = .ok (.iload 5, 2) := by decide +kernel
theorem dMo_isWord_15 : decode prog_13_method_10_code 15 = .ok (.iload_n 2, 1) := by decide +kernel
theorem dMo_isWord_16 : decode prog_13_method_10_code 16 = .ok (.if_icmp .ge 20, 3) := by decide +kernel
theorem dMo_isWord_19 : decode prog_13_method_10_code 19 = .ok (.aload_n 0, 1) := by decide +kernel
theorem dMo_isWord_20 : decode prog_13_method_10_code 20 = .ok (.iload 5, 2) := by decide +kernel
theorem dMo_isWord_22 : decode prog_13_method_10_code 22 = .ok (.baload, 1) := by decide +kernel
theorem dMo_isWord_23 : decode prog_13_method_10_code 23 = .ok (.bipush 96, 2) := by decide +kernel
theorem dMo_isWord_25 : decode prog_13_method_10_code 25 = .ok (.lload 6, 2) := by decide +kernel
theorem dMo_isWord_27 : decode prog_13_method_10_code 27 = .ok (.ldc2_w 34, 3) := by decide +kernel
theorem dMo_isWord_30 : decode prog_13_method_10_code 30 = .ok (.land, 1) := by decide +kernel
theorem dMo_isWord_31 : decode prog_13_method_10_code 31 = .ok (.l2i, 1) := by decide +kernel
theorem dMo_isWord_32 : decode prog_13_method_10_code 32 = .ok (.iadd, 1) := by decide +kernel
theorem dMo_isWord_33 : decode prog_13_method_10_code 33 = .ok (.if_icmp .eq 5, 3) := by decide +kernel
theorem dMo_isWord_36 : decode prog_13_method_10_code 36 = .ok (.iconst 0, 1) := by decide +kernel
theorem dMo_isWord_37 : decode prog_13_method_10_code 37 = .ok (.ireturn, 1) := by decide +kernel
theorem dMo_isWord_38 : decode prog_13_method_10_code 38 = .ok (.iinc 5 1, 3) := by decide +kernel
theorem dMo_isWord_41 : decode prog_13_method_10_code 41 = .ok (.lload 6, 2) := by decide +kernel
theorem dMo_isWord_43 : decode prog_13_method_10_code 43 = .ok (.iconst 5, 1) := by decide +kernel
theorem dMo_isWord_44 : decode prog_13_method_10_code 44 = .ok (.lshr, 1) := by decide +kernel
theorem dMo_isWord_45 : decode prog_13_method_10_code 45 = .ok (.lstore 6, 2) := by decide +kernel
theorem dMo_isWord_47 : decode prog_13_method_10_code 47 = .ok (.goto (-41), 3) := by decide +kernel
theorem dMo_isWord_50 : decode prog_13_method_10_code 50 = .ok (.iconst 1, 1) := by decide +kernel
theorem dMo_isWord_51 : decode prog_13_method_10_code 51 = .ok (.ireturn, 1) := by decide +kernel
theorem dMo_alike_0 : decode prog_13_method_13_code 0 = .ok (.aload_n 0, 1) := by decide +kernel
theorem dMo_alike_1 : decode prog_13_method_13_code 1 = .ok (.getfield 39, 3) := by decide +kernel
theorem dMo_alike_4 : decode prog_13_method_13_code 4 = .ok (.iload_n 1, 1) := by decide +kernel
theorem dMo_alike_5 : decode prog_13_method_13_code 5 = .ok (.iaload, 1) := by decide +kernel
theorem dMo_alike_6 : decode prog_13_method_13_code 6 = .ok (.aload_n 0, 1) := by decide +kernel
theorem dMo_alike_7 : decode prog_13_method_13_code 7 = .ok (.getfield 39, 3) := by decide +kernel
theorem dMo_alike_10 : decode prog_13_method_13_code 10 = .ok (.iload_n 2, 1) := by decide +kernel
theorem dMo_alike_11 : decode prog_13_method_13_code 11 = .ok (.iaload, 1) := by decide +kernel
theorem dMo_alike_12 : decode prog_13_method_13_code 12 = .ok (.if_icmp .ne 37, 3) := by decide +kernel
theorem dMo_alike_15 : decode prog_13_method_13_code 15 = .ok (.aload_n 0, 1) := by decide +kernel
theorem dMo_alike_16 : decode prog_13_method_13_code 16 = .ok (.getfield 36, 3) := by decide +kernel
theorem dMo_alike_19 : decode prog_13_method_13_code 19 = .ok (.iload_n 1, 1) := by decide +kernel
theorem dMo_alike_20 : decode prog_13_method_13_code 20 = .ok (.sipush 150, 3) := by decide +kernel
theorem dMo_alike_23 : decode prog_13_method_13_code 23 = .ok (.imul, 1) := by decide +kernel
theorem dMo_alike_24 : decode prog_13_method_13_code 24 = .ok (.aload_n 0, 1) := by decide +kernel
theorem dMo_alike_25 : decode prog_13_method_13_code 25 = .ok (.getfield 36, 3) := by decide +kernel
theorem dMo_alike_28 : decode prog_13_method_13_code 28 = .ok (.iload_n 2, 1) := by decide +kernel
theorem dMo_alike_29 : decode prog_13_method_13_code 29 = .ok (.sipush 150, 3) := by decide +kernel
theorem dMo_alike_32 : decode prog_13_method_13_code 32 = .ok (.imul, 1) := by decide +kernel
theorem dMo_alike_33 : decode prog_13_method_13_code 33 = .ok (.aload_n 0, 1) := by decide +kernel
theorem dMo_alike_34 : decode prog_13_method_13_code 34 = .ok (.getfield 39, 3) := by decide +kernel
theorem dMo_alike_37 : decode prog_13_method_13_code 37 = .ok (.iload_n 1, 1) := by decide +kernel
theorem dMo_alike_38 : decode prog_13_method_13_code 38 = .ok (.iaload, 1) := by decide +kernel
theorem dMo_alike_39 : decode prog_13_method_13_code 39 = .ok (.invokestatic 46, 3) := by decide +kernel
theorem dMo_alike_42 : decode prog_13_method_13_code 42 = .ok (.ifCond .eq 7, 3) := by decide +kernel
theorem dMo_alike_45 : decode prog_13_method_13_code 45 = .ok (.iconst 1, 1) := by decide +kernel
theorem dMo_alike_46 : decode prog_13_method_13_code 46 = .ok (.goto 4, 3) := by decide +kernel
theorem dMo_alike_49 : decode prog_13_method_13_code 49 = .ok (.iconst 0, 1) := by decide +kernel
theorem dMo_alike_50 : decode prog_13_method_13_code 50 = .ok (.ireturn, 1) := by decide +kernel
theorem dMo_same_0 : decode prog_13_method_9_code 0 = .ok (.iconst 0, 1) := by decide +kernel
theorem dMo_same_1 : decode prog_13_method_9_code 1 = .ok (.istore 5, 2) := by decide +kernel
theorem dMo_same_3 : decode prog_13_method_9_code 3 = .ok (.iload 5, 2) := by decide +kernel
theorem dMo_same_5 : decode prog_13_method_9_code 5 = .ok (.iload 4, 2) := by decide +kernel
theorem dMo_same_7 : decode prog_13_method_9_code 7 = .ok (.if_icmp .ge 26, 3) := by decide +kernel
theorem dMo_same_10 : decode prog_13_method_9_code 10 = .ok (.aload_n 0, 1) := by decide +kernel
theorem dMo_same_11 : decode prog_13_method_9_code 11 = .ok (.iload_n 1, 1) := by decide +kernel
theorem dMo_same_12 : decode prog_13_method_9_code 12 = .ok (.iload 5, 2) := by decide +kernel
theorem dMo_same_14 : decode prog_13_method_9_code 14 = .ok (.iadd, 1) := by decide +kernel
theorem dMo_same_15 : decode prog_13_method_9_code 15 = .ok (.baload, 1) := by decide +kernel
theorem dMo_same_16 : decode prog_13_method_9_code 16 = .ok (.aload_n 2, 1) := by decide +kernel
theorem dMo_same_17 : decode prog_13_method_9_code 17 = .ok (.iload_n 3, 1) := by decide +kernel
theorem dMo_same_18 : decode prog_13_method_9_code 18 = .ok (.iload 5, 2) := by decide +kernel
theorem dMo_same_20 : decode prog_13_method_9_code 20 = .ok (.iadd, 1) := by decide +kernel
theorem dMo_same_21 : decode prog_13_method_9_code 21 = .ok (.baload, 1) := by decide +kernel
theorem dMo_same_22 : decode prog_13_method_9_code 22 = .ok (.if_icmp .eq 5, 3) := by decide +kernel
theorem dMo_same_25 : decode prog_13_method_9_code 25 = .ok (.iconst 0, 1) := by decide +kernel
theorem dMo_same_26 : decode prog_13_method_9_code 26 = .ok (.ireturn, 1) := by decide +kernel
theorem dMo_same_27 : decode prog_13_method_9_code 27 = .ok (.iinc 5 1, 3) := by decide +kernel
theorem dMo_same_30 : decode prog_13_method_9_code 30 = .ok (.goto (-27), 3) := by decide +kernel
theorem dMo_same_33 : decode prog_13_method_9_code 33 = .ok (.iconst 1, 1) := by decide +kernel
theorem dMo_same_34 : decode prog_13_method_9_code 34 = .ok (.ireturn, 1) := by decide +kernel
theorem dMo_init_0 : decode prog_13_method_36_code 0 = .ok (.aload_n 0, 1) := by decide +kernel
theorem dMo_init_1 : decode prog_13_method_36_code 1 = .ok (.invokespecial 260, 3) := by decide +kernel
theorem dMo_init_4 : decode prog_13_method_36_code 4 = .ok (.aload_n 0, 1) := by decide +kernel
theorem dMo_init_5 : decode prog_13_method_36_code 5 = .ok (.sipush 2000, 3) := by decide +kernel
theorem dMo_init_8 : decode prog_13_method_36_code 8 = .ok (.newarray .byte, 2) := by decide +kernel
theorem dMo_init_10 : decode prog_13_method_36_code 10 = .ok (.putfield 24, 3) := by decide +kernel
theorem dMo_init_13 : decode prog_13_method_36_code 13 = .ok (.aload_n 0, 1) := by decide +kernel
theorem dMo_init_14 : decode prog_13_method_36_code 14 = .ok (.sipush 2000, 3) := by decide +kernel
theorem dMo_init_17 : decode prog_13_method_36_code 17 = .ok (.newarray .byte, 2) := by decide +kernel
theorem dMo_init_19 : decode prog_13_method_36_code 19 = .ok (.putfield 21, 3) := by decide +kernel
theorem dMo_init_22 : decode prog_13_method_36_code 22 = .ok (.aload_n 0, 1) := by decide +kernel
theorem dMo_init_23 : decode prog_13_method_36_code 23 = .ok (.sipush 8000, 3) := by decide +kernel
theorem dMo_init_26 : decode prog_13_method_36_code 26 = .ok (.newarray .byte, 2) := by decide +kernel
theorem dMo_init_28 : decode prog_13_method_36_code 28 = .ok (.putfield 7, 3) := by decide +kernel
theorem dMo_init_31 : decode prog_13_method_36_code 31 = .ok (.aload_n 0, 1) := by decide +kernel
theorem dMo_init_32 : decode prog_13_method_36_code 32 = .ok (.sipush 9900, 3) := by decide +kernel
theorem dMo_init_35 : decode prog_13_method_36_code 35 = .ok (.newarray .byte, 2) := by decide +kernel
theorem dMo_init_37 : decode prog_13_method_36_code 37 = .ok (.putfield 36, 3) := by decide +kernel
theorem dMo_init_40 : decode prog_13_method_36_code 40 = .ok (.aload_n 0, 1) := by decide +kernel
theorem dMo_init_41 : decode prog_13_method_36_code 41 = .ok (.bipush 66, 2) := by decide +kernel
theorem dMo_init_43 : decode prog_13_method_36_code 43 = .ok (.newarray .int, 2) := by decide +kernel
theorem dMo_init_45 : decode prog_13_method_36_code 45 = .ok (.putfield 39, 3) := by decide +kernel
theorem dMo_init_48 : decode prog_13_method_36_code 48 = .ok (.aload_n 0, 1) := by decide +kernel
theorem dMo_init_49 : decode prog_13_method_36_code 49 = .ok (.bipush 66, 2) := by decide +kernel
theorem dMo_init_51 : decode prog_13_method_36_code 51 = .ok (.newarray .int, 2) := by decide +kernel
theorem dMo_init_53 : decode prog_13_method_36_code 53 = .ok (.putfield 43, 3) := by decide +kernel
theorem dMo_init_56 : decode prog_13_method_36_code 56 = .ok (.aload_n 0, 1) := by decide +kernel
theorem dMo_init_57 : decode prog_13_method_36_code 57 = .ok (.sipush 2200, 3) := by decide +kernel
theorem dMo_init_60 : decode prog_13_method_36_code 60 = .ok (.newarray .byte, 2) := by decide +kernel
theorem dMo_init_62 : decode prog_13_method_36_code 62 = .ok (.putfield 70, 3) := by decide +kernel
theorem dMo_init_65 : decode prog_13_method_36_code 65 = .ok (.aload_n 0, 1) := by decide +kernel
theorem dMo_init_66 : decode prog_13_method_36_code 66 = .ok (.sipush 2100, 3) := by decide +kernel
theorem dMo_init_69 : decode prog_13_method_36_code 69 = .ok (.newarray .int, 2) := by decide +kernel
theorem dMo_init_71 : decode prog_13_method_36_code 71 = .ok (.putfield 64, 3) := by decide +kernel
theorem dMo_init_74 : decode prog_13_method_36_code 74 = .ok (.aload_n 0, 1) := by decide +kernel
theorem dMo_init_75 : decode prog_13_method_36_code 75 = .ok (.sipush 2100, 3) := by decide +kernel
theorem dMo_init_78 : decode prog_13_method_36_code 78 = .ok (.newarray .int, 2) := by decide +kernel
theorem dMo_init_80 : decode prog_13_method_36_code 80 = .ok (.putfield 67, 3) := by decide +kernel
theorem dMo_init_83 : decode prog_13_method_36_code 83 = .ok (.aload_n 0, 1) := by decide +kernel
theorem dMo_init_84 : decode prog_13_method_36_code 84 = .ok (.sipush 30000, 3) := by decide +kernel
theorem dMo_init_87 : decode prog_13_method_36_code 87 = .ok (.newarray .byte, 2) := by decide +kernel
theorem dMo_init_89 : decode prog_13_method_36_code 89 = .ok (.putfield 174, 3) := by decide +kernel
theorem dMo_init_92 : decode prog_13_method_36_code 92 = .ok (.aload_n 0, 1) := by decide +kernel
theorem dMo_init_93 : decode prog_13_method_36_code 93 = .ok (.bipush 20, 2) := by decide +kernel
theorem dMo_init_95 : decode prog_13_method_36_code 95 = .ok (.newarray .int, 2) := by decide +kernel
theorem dMo_init_97 : decode prog_13_method_36_code 97 = .ok (.putfield 171, 3) := by decide +kernel
theorem dMo_init_100 : decode prog_13_method_36_code 100 = .ok (.aload_n 0, 1) := by decide +kernel
theorem dMo_init_101 : decode prog_13_method_36_code 101 = .ok (.bipush 12, 2) := by decide +kernel
theorem dMo_init_103 : decode prog_13_method_36_code 103 = .ok (.newarray .int, 2) := by decide +kernel
theorem dMo_init_105 : decode prog_13_method_36_code 105 = .ok (.putfield 177, 3) := by decide +kernel
theorem dMo_init_108 : decode prog_13_method_36_code 108 = .ok (.aload_n 0, 1) := by decide +kernel
theorem dMo_init_109 : decode prog_13_method_36_code 109 = .ok (.sipush 192, 3) := by decide +kernel
theorem dMo_init_112 : decode prog_13_method_36_code 112 = .ok (.newarray .byte, 2) := by decide +kernel
theorem dMo_init_114 : decode prog_13_method_36_code 114 = .ok (.putfield 186, 3) := by decide +kernel
theorem dMo_init_117 : decode prog_13_method_36_code 117 = .ok (.aload_n 0, 1) := by decide +kernel
theorem dMo_init_118 : decode prog_13_method_36_code 118 = .ok (.bipush 12, 2) := by decide +kernel
theorem dMo_init_120 : decode prog_13_method_36_code 120 = .ok (.newarray .int, 2) := by decide +kernel
theorem dMo_init_122 : decode prog_13_method_36_code 122 = .ok (.putfield 180, 3) := by decide +kernel
theorem dMo_init_125 : decode prog_13_method_36_code 125 = .ok (.aload_n 0, 1) := by decide +kernel
theorem dMo_init_126 : decode prog_13_method_36_code 126 = .ok (.bipush 12, 2) := by decide +kernel
theorem dMo_init_128 : decode prog_13_method_36_code 128 = .ok (.newarray .int, 2) := by decide +kernel
theorem dMo_init_130 : decode prog_13_method_36_code 130 = .ok (.putfield 183, 3) := by decide +kernel
theorem dMo_init_133 : decode prog_13_method_36_code 133 = .ok (.aload_n 0, 1) := by decide +kernel
theorem dMo_init_134 : decode prog_13_method_36_code 134 = .ok (.bipush 20, 2) := by decide +kernel
theorem dMo_init_136 : decode prog_13_method_36_code 136 = .ok (.newarray .boolean, 2) := by decide +kernel
theorem dMo_init_138 : decode prog_13_method_36_code 138 = .ok (.putfield 189, 3) := by decide +kernel
theorem dMo_init_141 : decode prog_13_method_36_code 141 = .ok (.aload_n 0, 1) := by decide +kernel
theorem dMo_init_142 : decode prog_13_method_36_code 142 = .ok (.bipush 20, 2) := by decide +kernel
theorem dMo_init_144 : decode prog_13_method_36_code 144 = .ok (.newarray .boolean, 2) := by decide +kernel
theorem dMo_init_146 : decode prog_13_method_36_code 146 = .ok (.putfield 193, 3) := by decide +kernel
theorem dMo_init_149 : decode prog_13_method_36_code 149 = .ok (.aload_n 0, 1) := by decide +kernel
theorem dMo_init_150 : decode prog_13_method_36_code 150 = .ok (.bipush 8, 2) := by decide +kernel
theorem dMo_init_152 : decode prog_13_method_36_code 152 = .ok (.newarray .int, 2) := by decide +kernel
theorem dMo_init_154 : decode prog_13_method_36_code 154 = .ok (.putfield 226, 3) := by decide +kernel
theorem dMo_init_157 : decode prog_13_method_36_code 157 = .ok (.aload_n 0, 1) := by decide +kernel
theorem dMo_init_158 : decode prog_13_method_36_code 158 = .ok (.bipush 8, 2) := by decide +kernel
theorem dMo_init_160 : decode prog_13_method_36_code 160 = .ok (.newarray .int, 2) := by decide +kernel
theorem dMo_init_162 : decode prog_13_method_36_code 162 = .ok (.putfield 223, 3) := by decide +kernel
theorem dMo_init_165 : decode prog_13_method_36_code 165 = .ok (.aload_n 0, 1) := by decide +kernel
theorem dMo_init_166 : decode prog_13_method_36_code 166 = .ok (.sipush 480, 3) := by decide +kernel
theorem dMo_init_169 : decode prog_13_method_36_code 169 = .ok (.newarray .byte, 2) := by decide +kernel
theorem dMo_init_171 : decode prog_13_method_36_code 171 = .ok (.putfield 202, 3) := by decide +kernel
theorem dMo_init_174 : decode prog_13_method_36_code 174 = .ok (.aload_n 0, 1) := by decide +kernel
theorem dMo_init_175 : decode prog_13_method_36_code 175 = .ok (.bipush 20, 2) := by decide +kernel
theorem dMo_init_177 : decode prog_13_method_36_code 177 = .ok (.newarray .int, 2) := by decide +kernel
theorem dMo_init_179 : decode prog_13_method_36_code 179 = .ok (.putfield 199, 3) := by decide +kernel
theorem dMo_init_182 : decode prog_13_method_36_code 182 = .ok (.aload_n 0, 1) := by decide +kernel
theorem dMo_init_183 : decode prog_13_method_36_code 183 = .ok (.bipush 20, 2) := by decide +kernel
theorem dMo_init_185 : decode prog_13_method_36_code 185 = .ok (.newarray .int, 2) := by decide +kernel
theorem dMo_init_187 : decode prog_13_method_36_code 187 = .ok (.putfield 205, 3) := by decide +kernel
theorem dMo_init_190 : decode prog_13_method_36_code 190 = .ok (.aload_n 0, 1) := by decide +kernel
theorem dMo_init_191 : decode prog_13_method_36_code 191 = .ok (.bipush 20, 2) := by decide +kernel
theorem dMo_init_193 : decode prog_13_method_36_code 193 = .ok (.newarray .int, 2) := by decide +kernel
theorem dMo_init_195 : decode prog_13_method_36_code 195 = .ok (.putfield 208, 3) := by decide +kernel
theorem dMo_init_198 : decode prog_13_method_36_code 198 = .ok (.aload_n 0, 1) := by decide +kernel
theorem dMo_init_199 : decode prog_13_method_36_code 199 = .ok (.sipush 400, 3) := by decide +kernel
theorem dMo_init_202 : decode prog_13_method_36_code 202 = .ok (.newarray .byte, 2) := by decide +kernel
theorem dMo_init_204 : decode prog_13_method_36_code 204 = .ok (.putfield 211, 3) := by decide +kernel
theorem dMo_init_207 : decode prog_13_method_36_code 207 = .ok (.aload_n 0, 1) := by decide +kernel
theorem dMo_init_208 : decode prog_13_method_36_code 208 = .ok (.bipush 16, 2) := by decide +kernel
theorem dMo_init_210 : decode prog_13_method_36_code 210 = .ok (.newarray .byte, 2) := by decide +kernel
theorem dMo_init_212 : decode prog_13_method_36_code 212 = .ok (.putfield 136, 3) := by decide +kernel
theorem dMo_init_215 : decode prog_13_method_36_code 215 = .ok (.aload_n 0, 1) := by decide +kernel
theorem dMo_init_216 : decode prog_13_method_36_code 216 = .ok (.sipush 1500, 3) := by decide +kernel
theorem dMo_init_219 : decode prog_13_method_36_code 219 = .ok (.newarray .byte, 2) := by decide +kernel
theorem dMo_init_221 : decode prog_13_method_36_code 221 = .ok (.putfield 265, 3) := by decide +kernel
theorem dMo_init_224 : decode prog_13_method_36_code 224 = .ok (.aload_n 0, 1) := by decide +kernel
theorem dMo_init_225 : decode prog_13_method_36_code 225 = .ok (.getfield 39, 3) := by decide +kernel
theorem dMo_init_228 : decode prog_13_method_36_code 228 = .ok (.iconst 5, 1) := by decide +kernel
theorem dMo_init_229 : decode prog_13_method_36_code 229 = .ok (.bipush 7, 2) := by decide +kernel
theorem dMo_init_231 : decode prog_13_method_36_code 231 = .ok (.iastore, 1) := by decide +kernel
theorem dMo_init_232 : decode prog_13_method_36_code 232 = .ok (.aload_n 0, 1) := by decide +kernel
theorem dMo_init_233 : decode prog_13_method_36_code 233 = .ok (.getfield 36, 3) := by decide +kernel
theorem dMo_init_236 : decode prog_13_method_36_code 236 = .ok (.sipush 750, 3) := by decide +kernel
theorem dMo_init_239 : decode prog_13_method_36_code 239 = .ok (.bipush 47, 2) := by decide +kernel
theorem dMo_init_241 : decode prog_13_method_36_code 241 = .ok (.bastore, 1) := by decide +kernel
theorem dMo_init_242 : decode prog_13_method_36_code 242 = .ok (.aload_n 0, 1) := by decide +kernel
theorem dMo_init_243 : decode prog_13_method_36_code 243 = .ok (.getfield 36, 3) := by decide +kernel
theorem dMo_init_246 : decode prog_13_method_36_code 246 = .ok (.sipush 751, 3) := by decide +kernel
theorem dMo_init_249 : decode prog_13_method_36_code 249 = .ok (.bipush 47, 2) := by decide +kernel
theorem dMo_init_251 : decode prog_13_method_36_code 251 = .ok (.bastore, 1) := by decide +kernel
theorem dMo_init_252 : decode prog_13_method_36_code 252 = .ok (.aload_n 0, 1) := by decide +kernel
theorem dMo_init_253 : decode prog_13_method_36_code 253 = .ok (.getfield 36, 3) := by decide +kernel
theorem dMo_init_256 : decode prog_13_method_36_code 256 = .ok (.sipush 752, 3) := by decide +kernel
theorem dMo_init_259 : decode prog_13_method_36_code 259 = .ok (.bipush 104, 2) := by decide +kernel
theorem dMo_init_261 : decode prog_13_method_36_code 261 = .ok (.bastore, 1) := by decide +kernel
theorem dMo_init_262 : decode prog_13_method_36_code 262 = .ok (.aload_n 0, 1) := by decide +kernel
theorem dMo_init_263 : decode prog_13_method_36_code 263 = .ok (.getfield 36, 3) := by decide +kernel
theorem dMo_init_266 : decode prog_13_method_36_code 266 = .ok (.sipush 753, 3) := by decide +kernel
theorem dMo_init_269 : decode prog_13_method_36_code 269 = .ok (.bipush 111, 2) := by decide +kernel
theorem dMo_init_271 : decode prog_13_method_36_code 271 = .ok (.bastore, 1) := by decide +kernel
theorem dMo_init_272 : decode prog_13_method_36_code 272 = .ok (.aload_n 0, 1) := by decide +kernel
theorem dMo_init_273 : decode prog_13_method_36_code 273 = .ok (.getfield 36, 3) := by decide +kernel
theorem dMo_init_276 : decode prog_13_method_36_code 276 = .ok (.sipush 754, 3) := by decide +kernel
theorem dMo_init_279 : decode prog_13_method_36_code 279 = .ok (.bipush 109, 2) := by decide +kernel
theorem dMo_init_281 : decode prog_13_method_36_code 281 = .ok (.bastore, 1) := by decide +kernel
theorem dMo_init_282 : decode prog_13_method_36_code 282 = .ok (.aload_n 0, 1) := by decide +kernel
theorem dMo_init_283 : decode prog_13_method_36_code 283 = .ok (.getfield 36, 3) := by decide +kernel
theorem dMo_init_286 : decode prog_13_method_36_code 286 = .ok (.sipush 755, 3) := by decide +kernel
theorem dMo_init_289 : decode prog_13_method_36_code 289 = .ok (.bipush 101, 2) := by decide +kernel
theorem dMo_init_291 : decode prog_13_method_36_code 291 = .ok (.bastore, 1) := by decide +kernel
theorem dMo_init_292 : decode prog_13_method_36_code 292 = .ok (.aload_n 0, 1) := by decide +kernel
theorem dMo_init_293 : decode prog_13_method_36_code 293 = .ok (.getfield 36, 3) := by decide +kernel
theorem dMo_init_296 : decode prog_13_method_36_code 296 = .ok (.sipush 756, 3) := by decide +kernel
theorem dMo_init_299 : decode prog_13_method_36_code 299 = .ok (.bipush 47, 2) := by decide +kernel
theorem dMo_init_301 : decode prog_13_method_36_code 301 = .ok (.bastore, 1) := by decide +kernel
theorem dMo_init_302 : decode prog_13_method_36_code 302 = .ok (.aload_n 0, 1) := by decide +kernel
theorem dMo_init_303 : decode prog_13_method_36_code 303 = .ok (.iconst 1, 1) := by decide +kernel
theorem dMo_init_304 : decode prog_13_method_36_code 304 = .ok (.iconst 5, 1) := by decide +kernel
theorem dMo_init_305 : decode prog_13_method_36_code 305 = .ok (.invokevirtual 148, 3) := by decide +kernel
theorem dMo_init_308 : decode prog_13_method_36_code 308 = .ok (.return_, 1) := by decide +kernel
theorem dMo_feed_0 : decode prog_13_method_38_code 0 = .ok (.aload_n 0, 1) := by decide +kernel
theorem dMo_feed_1 : decode prog_13_method_38_code 1 = .ok (.getfield 15, 3) := by decide +kernel
theorem dMo_feed_4 : decode prog_13_method_38_code 4 = .ok (.bipush 20, 2) := by decide +kernel
theorem dMo_feed_6 : decode prog_13_method_38_code 6 = .ok (.iadd, 1) := by decide +kernel
theorem dMo_feed_7 : decode prog_13_method_38_code 7 = .ok (.sipush 2000, 3) := by decide +kernel
theorem dMo_feed_10 : decode prog_13_method_38_code 10 = .ok (.if_icmp .le 5, 3) := by decide +kernel
theorem dMo_feed_13 : decode prog_13_method_38_code 13 = .ok (.iconst (-1), 1) := by decide +kernel
theorem dMo_feed_14 : decode prog_13_method_38_code 14 = .ok (.ireturn, 1) := by decide +kernel
theorem dMo_feed_15 : decode prog_13_method_38_code 15 = .ok (.aload_n 0, 1) := by decide +kernel
theorem dMo_feed_16 : decode prog_13_method_38_code 16 = .ok (.iload_n 1, 1) := by decide +kernel
theorem dMo_feed_17 : decode prog_13_method_38_code 17 = .ok (.invokevirtual 268, 3) := by decide +kernel
theorem dMo_feed_20 : decode prog_13_method_38_code 20 = .ok (.aload_n 0, 1) := by decide +kernel
theorem dMo_feed_21 : decode prog_13_method_38_code 21 = .ok (.iload_n 2, 1) := by decide +kernel
theorem dMo_feed_22 : decode prog_13_method_38_code 22 = .ok (.invokevirtual 268, 3) := by decide +kernel
theorem dMo_feed_25 : decode prog_13_method_38_code 25 = .ok (.aload_n 0, 1) := by decide +kernel
theorem dMo_feed_26 : decode prog_13_method_38_code 26 = .ok (.iload_n 3, 1) := by decide +kernel
theorem dMo_feed_27 : decode prog_13_method_38_code 27 = .ok (.invokevirtual 268, 3) := by decide +kernel
theorem dMo_feed_30 : decode prog_13_method_38_code 30 = .ok (.aload_n 0, 1) := by decide +kernel
theorem dMo_feed_31 : decode prog_13_method_38_code 31 = .ok (.iload 4, 2) := by decide +kernel
theorem dMo_feed_33 : decode prog_13_method_38_code 33 = .ok (.invokevirtual 268, 3) := by decide +kernel
theorem dMo_feed_36 : decode prog_13_method_38_code 36 = .ok (.aload_n 0, 1) := by decide +kernel
theorem dMo_feed_37 : decode prog_13_method_38_code 37 = .ok (.iload 5, 2) := by decide +kernel
theorem dMo_feed_39 : decode prog_13_method_38_code 39 = .ok (.invokevirtual 268, 3) := by decide +kernel
theorem dMo_feed_42 : decode prog_13_method_38_code 42 = .ok (.aload_n 0, 1) := by decide +kernel
theorem dMo_feed_43 : decode prog_13_method_38_code 43 = .ok (.getfield 15, 3) := by decide +kernel
theorem dMo_feed_46 : decode prog_13_method_38_code 46 = .ok (.ireturn, 1) := by decide +kernel
theorem dMo_putFour_0 : decode prog_13_method_37_code 0 = .ok (.bipush 24, 2) := by decide +kernel
theorem dMo_putFour_2 : decode prog_13_method_37_code 2 = .ok (.istore_n 2, 1) := by decide +kernel
theorem dMo_putFour_3 : decode prog_13_method_37_code 3 = .ok (.iload_n 2, 1) := by decide +kernel
theorem dMo_putFour_4 : decode prog_13_method_37_code 4 = .ok (.ifCond .lt 32, 3) := by decide +kernel
theorem dMo_putFour_7 : decode prog_13_method_37_code 7 = .ok (.aload_n 0, 1) := by decide +kernel
theorem dMo_putFour_8 : decode prog_13_method_37_code 8 = .ok (.getfield 24, 3) := by decide +kernel
theorem dMo_putFour_11 : decode prog_13_method_37_code 11 = .ok (.aload_n 0, 1) := by decide +kernel
theorem dMo_putFour_12 : decode prog_13_method_37_code 12 = .ok (.getfield 15, 3) := by decide +kernel
theorem dMo_putFour_15 : decode prog_13_method_37_code 15 = .ok (.iload_n 1, 1) := by decide +kernel
theorem dMo_putFour_16 : decode prog_13_method_37_code 16 = .ok (.iload_n 2, 1) := by decide +kernel
theorem dMo_putFour_17 : decode prog_13_method_37_code 17 = .ok (.ishr, 1) := by decide +kernel
theorem dMo_putFour_18 : decode prog_13_method_37_code 18 = .ok (.i2b, 1) := by decide +kernel
theorem dMo_putFour_19 : decode prog_13_method_37_code 19 = .ok (.bastore, 1) := by decide +kernel
theorem dMo_putFour_20 : decode prog_13_method_37_code 20 = .ok (.aload_n 0, 1) := by decide +kernel
theorem dMo_putFour_21 : decode prog_13_method_37_code 21 = .ok (.dup, 1) := by decide +kernel
theorem dMo_putFour_22 : decode prog_13_method_37_code 22 = .ok (.getfield 15, 3) := by decide +kernel
theorem dMo_putFour_25 : decode prog_13_method_37_code 25 = .ok (.iconst 1, 1) := by decide +kernel
theorem dMo_putFour_26 : decode prog_13_method_37_code 26 = .ok (.iadd, 1) := by decide +kernel
theorem dMo_putFour_27 : decode prog_13_method_37_code 27 = .ok (.putfield 15, 3) := by decide +kernel
theorem dMo_putFour_30 : decode prog_13_method_37_code 30 = .ok (.iinc 2 (-8), 3) := by decide +kernel
theorem dMo_putFour_33 : decode prog_13_method_37_code 33 = .ok (.goto (-30), 3) := by decide +kernel
theorem dMo_putFour_36 : decode prog_13_method_37_code 36 = .ok (.return_, 1) := by decide +kernel
theorem dMo_end_0 : decode prog_13_method_39_code 0 = .ok (.iload_n 1, 1) := by decide +kernel
theorem dMo_end_1 : decode prog_13_method_39_code 1 = .ok (.ifCond .lt 11, 3) := by decide +kernel
theorem dMo_end_4 : decode prog_13_method_39_code 4 = .ok (.iload_n 1, 1) := by decide +kernel
theorem dMo_end_5 : decode prog_13_method_39_code 5 = .ok (.aload_n 0, 1) := by decide +kernel
theorem dMo_end_6 : decode prog_13_method_39_code 6 = .ok (.getfield 15, 3) := by decide +kernel
theorem dMo_end_9 : decode prog_13_method_39_code 9 = .ok (.if_icmp .le 5, 3) := by decide +kernel
theorem dMo_end_12 : decode prog_13_method_39_code 12 = .ok (.iconst (-1), 1) := by decide +kernel
theorem dMo_end_13 : decode prog_13_method_39_code 13 = .ok (.ireturn, 1) := by decide +kernel
theorem dMo_end_14 : decode prog_13_method_39_code 14 = .ok (.aload_n 0, 1) := by decide +kernel
theorem dMo_end_15 : decode prog_13_method_39_code 15 = .ok (.iload_n 1, 1) := by decide +kernel
theorem dMo_end_16 : decode prog_13_method_39_code 16 = .ok (.putfield 15, 3) := by decide +kernel
theorem dMo_end_19 : decode prog_13_method_39_code 19 = .ok (.iload_n 1, 1) := by decide +kernel
theorem dMo_end_20 : decode prog_13_method_39_code 20 = .ok (.ireturn, 1) := by decide +kernel
theorem dMo_out_0 : decode prog_13_method_40_code 0 = .ok (.iload_n 1, 1) := by decide +kernel
theorem dMo_out_1 : decode prog_13_method_40_code 1 = .ok (.ifCond .lt 11, 3) := by decide +kernel
theorem dMo_out_4 : decode prog_13_method_40_code 4 = .ok (.iload_n 1, 1) := by decide +kernel
theorem dMo_out_5 : decode prog_13_method_40_code 5 = .ok (.aload_n 0, 1) := by decide +kernel
theorem dMo_out_6 : decode prog_13_method_40_code 6 = .ok (.getfield 1, 3) := by decide +kernel
theorem dMo_out_9 : decode prog_13_method_40_code 9 = .ok (.if_icmp .lt 7, 3) := by decide +kernel
theorem dMo_out_12 : decode prog_13_method_40_code 12 = .ok (.iconst (-1), 1) := by decide +kernel
theorem dMo_out_13 : decode prog_13_method_40_code 13 = .ok (.goto 13, 3) := by decide +kernel
theorem dMo_out_16 : decode prog_13_method_40_code 16 = .ok (.aload_n 0, 1) := by decide +kernel
theorem dMo_out_17 : decode prog_13_method_40_code 17 = .ok (.getfield 7, 3) := by decide +kernel
theorem dMo_out_20 : decode prog_13_method_40_code 20 = .ok (.iload_n 1, 1) := by decide +kernel
theorem dMo_out_21 : decode prog_13_method_40_code 21 = .ok (.baload, 1) := by decide +kernel
theorem dMo_out_22 : decode prog_13_method_40_code 22 = .ok (.sipush 255, 3) := by decide +kernel
theorem dMo_out_25 : decode prog_13_method_40_code 25 = .ok (.iand, 1) := by decide +kernel
theorem dMo_out_26 : decode prog_13_method_40_code 26 = .ok (.ireturn, 1) := by decide +kernel
theorem dMo_resolve_0 : decode prog_13_method_41_code 0 = .ok (.aload_n 0, 1) := by decide +kernel
theorem dMo_resolve_1 : decode prog_13_method_41_code 1 = .ok (.invokevirtual 151, 3) := by decide +kernel
theorem dMo_resolve_4 : decode prog_13_method_41_code 4 = .ok (.istore_n 1, 1) := by decide +kernel
theorem dMo_resolve_5 : decode prog_13_method_41_code 5 = .ok (.iload_n 1, 1) := by decide +kernel
theorem dMo_resolve_6 : decode prog_13_method_41_code 6 = .ok (.ifCond .lt 8, 3) := by decide +kernel
theorem dMo_resolve_9 : decode prog_13_method_41_code 9 = .ok (.iload_n 1, 1) := by decide +kernel
theorem dMo_resolve_10 : decode prog_13_method_41_code 10 = .ok (.invokestatic 155, 3) := by decide +kernel
theorem dMo_resolve_13 : decode prog_13_method_41_code 13 = .ok (.ireturn, 1) := by decide +kernel
theorem dMo_resolve_14 : decode prog_13_method_41_code 14 = .ok (.aload_n 0, 1) := by decide +kernel
theorem dMo_resolve_15 : decode prog_13_method_41_code 15 = .ok (.aload_n 0, 1) := by decide +kernel
theorem dMo_resolve_16 : decode prog_13_method_41_code 16 = .ok (.getfield 21, 3) := by decide +kernel
theorem dMo_resolve_19 : decode prog_13_method_41_code 19 = .ok (.iconst 0, 1) := by decide +kernel
theorem dMo_resolve_20 : decode prog_13_method_41_code 20 = .ok (.aload_n 0, 1) := by decide +kernel
theorem dMo_resolve_21 : decode prog_13_method_41_code 21 = .ok (.getfield 18, 3) := by decide +kernel
theorem dMo_resolve_24 : decode prog_13_method_41_code 24 = .ok (.iconst 1, 1) := by decide +kernel
theorem dMo_resolve_25 : decode prog_13_method_41_code 25 = .ok (.invokevirtual 144, 3) := by decide +kernel
theorem dMo_resolve_28 : decode prog_13_method_41_code 28 = .ok (.ifCond .ne 5, 3) := by decide +kernel
theorem dMo_resolve_31 : decode prog_13_method_41_code 31 = .ok (.iconst (-1), 1) := by decide +kernel
theorem dMo_resolve_32 : decode prog_13_method_41_code 32 = .ok (.ireturn, 1) := by decide +kernel
theorem dMo_resolve_33 : decode prog_13_method_41_code 33 = .ok (.aload_n 0, 1) := by decide +kernel
theorem dMo_resolve_34 : decode prog_13_method_41_code 34 = .ok (.iconst 0, 1) := by decide +kernel
theorem dMo_resolve_35 : decode prog_13_method_41_code 35 = .ok (.putfield 1, 3) := by decide +kernel
theorem dMo_resolve_38 : decode prog_13_method_41_code 38 = .ok (.aload_n 0, 1) := by decide +kernel
theorem dMo_resolve_39 : decode prog_13_method_41_code 39 = .ok (.iconst 0, 1) := by decide +kernel
theorem dMo_resolve_40 : decode prog_13_method_41_code 40 = .ok (.invokevirtual 271, 3) := by decide +kernel
theorem dMo_resolve_43 : decode prog_13_method_41_code 43 = .ok (.aload_n 0, 1) := by decide +kernel
theorem dMo_resolve_44 : decode prog_13_method_41_code 44 = .ok (.getfield 1, 3) := by decide +kernel
theorem dMo_resolve_47 : decode prog_13_method_41_code 47 = .ok (.ireturn, 1) := by decide +kernel
theorem dMo_sayRow_0 : decode prog_13_method_26_code 0 = .ok (.aload_n 0, 1) := by decide +kernel
theorem dMo_sayRow_1 : decode prog_13_method_26_code 1 = .ok (.aload_n 0, 1) := by decide +kernel
theorem dMo_sayRow_2 : decode prog_13_method_26_code 2 = .ok (.getfield 36, 3) := by decide +kernel
theorem dMo_sayRow_5 : decode prog_13_method_26_code 5 = .ok (.iload_n 1, 1) := by decide +kernel
theorem dMo_sayRow_6 : decode prog_13_method_26_code 6 = .ok (.sipush 150, 3) := by decide +kernel
theorem dMo_sayRow_9 : decode prog_13_method_26_code 9 = .ok (.imul, 1) := by decide +kernel
theorem dMo_sayRow_10 : decode prog_13_method_26_code 10 = .ok (.aload_n 0, 1) := by decide +kernel
theorem dMo_sayRow_11 : decode prog_13_method_26_code 11 = .ok (.getfield 39, 3) := by decide +kernel
theorem dMo_sayRow_14 : decode prog_13_method_26_code 14 = .ok (.iload_n 1, 1) := by decide +kernel
theorem dMo_sayRow_15 : decode prog_13_method_26_code 15 = .ok (.iaload, 1) := by decide +kernel
theorem dMo_sayRow_16 : decode prog_13_method_26_code 16 = .ok (.invokevirtual 108, 3) := by decide +kernel
theorem dMo_sayRow_19 : decode prog_13_method_26_code 19 = .ok (.aload_n 0, 1) := by decide +kernel
theorem dMo_sayRow_20 : decode prog_13_method_26_code 20 = .ok (.getfield 43, 3) := by decide +kernel
theorem dMo_sayRow_23 : decode prog_13_method_26_code 23 = .ok (.iload_n 1, 1) := by decide +kernel
theorem dMo_sayRow_24 : decode prog_13_method_26_code 24 = .ok (.iaload, 1) := by decide +kernel
theorem dMo_sayRow_25 : decode prog_13_method_26_code 25 = .ok (.ifCond .le 32, 3) := by decide +kernel
theorem dMo_sayRow_28 : decode prog_13_method_26_code 28 = .ok (.aload_n 0, 1) := by decide +kernel
theorem dMo_sayRow_29 : decode prog_13_method_26_code 29 = .ok (.bipush 35, 2) := by decide +kernel
theorem dMo_sayRow_31 : decode prog_13_method_26_code 31 = .ok (.invokevirtual 11, 3) := by decide +kernel
theorem dMo_sayRow_34 : decode prog_13_method_26_code 34 = .ok (.aload_n 0, 1) := by decide +kernel
theorem dMo_sayRow_35 : decode prog_13_method_26_code 35 = .ok (.aload_n 0, 1) := by decide +kernel
theorem dMo_sayRow_36 : decode prog_13_method_26_code 36 = .ok (.getfield 36, 3) := by decide +kernel
theorem dMo_sayRow_39 : decode prog_13_method_26_code 39 = .ok (.iload_n 1, 1) := by decide +kernel
theorem dMo_sayRow_40 : decode prog_13_method_26_code 40 = .ok (.sipush 150, 3) := by decide +kernel
theorem dMo_sayRow_43 : decode prog_13_method_26_code 43 = .ok (.imul, 1) := by decide +kernel
theorem dMo_sayRow_44 : decode prog_13_method_26_code 44 = .ok (.sipush 135, 3) := by decide +kernel
theorem dMo_sayRow_47 : decode prog_13_method_26_code 47 = .ok (.iadd, 1) := by decide +kernel
theorem dMo_sayRow_48 : decode prog_13_method_26_code 48 = .ok (.aload_n 0, 1) := by decide +kernel
theorem dMo_sayRow_49 : decode prog_13_method_26_code 49 = .ok (.getfield 43, 3) := by decide +kernel
theorem dMo_sayRow_52 : decode prog_13_method_26_code 52 = .ok (.iload_n 1, 1) := by decide +kernel
theorem dMo_sayRow_53 : decode prog_13_method_26_code 53 = .ok (.iaload, 1) := by decide +kernel
theorem dMo_sayRow_54 : decode prog_13_method_26_code 54 = .ok (.invokevirtual 108, 3) := by decide +kernel
theorem dMo_sayRow_57 : decode prog_13_method_26_code 57 = .ok (.return_, 1) := by decide +kernel
theorem dMo_sayAll_0 : decode prog_13_method_2_code 0 = .ok (.iconst 0, 1) := by decide +kernel
theorem dMo_sayAll_1 : decode prog_13_method_2_code 1 = .ok (.istore 4, 2) := by decide +kernel
theorem dMo_sayAll_3 : decode prog_13_method_2_code 3 = .ok (.iload 4, 2) := by decide +kernel
theorem dMo_sayAll_5 : decode prog_13_method_2_code 5 = .ok (.iload_n 3, 1) := by decide +kernel
theorem dMo_sayAll_6 : decode prog_13_method_2_code 6 = .ok (.if_icmp .ge 19, 3) := by decide +kernel
theorem dMo_sayAll_9 : decode prog_13_method_2_code 9 = .ok (.aload_n 0, 1) := by decide +kernel
theorem dMo_sayAll_10 : decode prog_13_method_2_code 10 = .ok (.aload_n 1, 1) := by decide +kernel
theorem dMo_sayAll_11 : decode prog_13_method_2_code 11 = .ok (.iload_n 2, 1) := by decide +kernel
theorem dMo_sayAll_12 : decode prog_13_method_2_code 12 = .ok (.iload 4, 2) := by decide +kernel
theorem dMo_sayAll_14 : decode prog_13_method_2_code 14 = .ok (.iadd, 1) := by decide +kernel
theorem dMo_sayAll_15 : decode prog_13_method_2_code 15 = .ok (.baload, 1) := by decide +kernel
theorem dMo_sayAll_16 : decode prog_13_method_2_code 16 = .ok (.invokevirtual 11, 3) := by decide +kernel
theorem dMo_sayAll_19 : decode prog_13_method_2_code 19 = .ok (.iinc 4 1, 3) := by decide +kernel
theorem dMo_sayAll_22 : decode prog_13_method_2_code 22 = .ok (.goto (-19), 3) := by decide +kernel
theorem dMo_sayAll_25 : decode prog_13_method_2_code 25 = .ok (.return_, 1) := by decide +kernel
theorem dMo_say_0 : decode prog_13_method_1_code 0 = .ok (.aload_n 0, 1) := by decide +kernel
theorem dMo_say_1 : decode prog_13_method_1_code 1 = .ok (.getfield 1, 3) := by decide +kernel
theorem dMo_say_4 : decode prog_13_method_1_code 4 = .ok (.sipush 8000, 3) := by decide +kernel
theorem dMo_say_7 : decode prog_13_method_1_code 7 = .ok (.if_icmp .ge 24, 3) := by decide +kernel
theorem dMo_say_10 : decode prog_13_method_1_code 10 = .ok (.aload_n 0, 1) := by decide +kernel
theorem dMo_say_11 : decode prog_13_method_1_code 11 = .ok (.getfield 7, 3) := by decide +kernel
theorem dMo_say_14 : decode prog_13_method_1_code 14 = .ok (.aload_n 0, 1) := by decide +kernel
theorem dMo_say_15 : decode prog_13_method_1_code 15 = .ok (.getfield 1, 3) := by decide +kernel
theorem dMo_say_18 : decode prog_13_method_1_code 18 = .ok (.iload_n 1, 1) := by decide +kernel
theorem dMo_say_19 : decode prog_13_method_1_code 19 = .ok (.i2b, 1) := by decide +kernel
theorem dMo_say_20 : decode prog_13_method_1_code 20 = .ok (.bastore, 1) := by decide +kernel
theorem dMo_say_21 : decode prog_13_method_1_code 21 = .ok (.aload_n 0, 1) := by decide +kernel
theorem dMo_say_22 : decode prog_13_method_1_code 22 = .ok (.dup, 1) := by decide +kernel
theorem dMo_say_23 : decode prog_13_method_1_code 23 = .ok (.getfield 1, 3) := by decide +kernel
theorem dMo_say_26 : decode prog_13_method_1_code 26 = .ok (.iconst 1, 1) := by decide +kernel
theorem dMo_say_27 : decode prog_13_method_1_code 27 = .ok (.iadd, 1) := by decide +kernel
theorem dMo_say_28 : decode prog_13_method_1_code 28 = .ok (.putfield 1, 3) := by decide +kernel
theorem dMo_say_31 : decode prog_13_method_1_code 31 = .ok (.return_, 1) := by decide +kernel
theorem dMo_base_0 : decode prog_13_method_42_code 0 = .ok (.aload_n 0, 1) := by decide +kernel
theorem dMo_base_1 : decode prog_13_method_42_code 1 = .ok (.invokevirtual 151, 3) := by decide +kernel
theorem dMo_base_4 : decode prog_13_method_42_code 4 = .ok (.istore_n 1, 1) := by decide +kernel
theorem dMo_base_5 : decode prog_13_method_42_code 5 = .ok (.iload_n 1, 1) := by decide +kernel
theorem dMo_base_6 : decode prog_13_method_42_code 6 = .ok (.ifCond .lt 8, 3) := by decide +kernel
theorem dMo_base_9 : decode prog_13_method_42_code 9 = .ok (.iload_n 1, 1) := by decide +kernel
theorem dMo_base_10 : decode prog_13_method_42_code 10 = .ok (.invokestatic 155, 3) := by decide +kernel
theorem dMo_base_13 : decode prog_13_method_42_code 13 = .ok (.ireturn, 1) := by decide +kernel
theorem dMo_base_14 : decode prog_13_method_42_code 14 = .ok (.aload_n 0, 1) := by decide +kernel
theorem dMo_base_15 : decode prog_13_method_42_code 15 = .ok (.aload_n 0, 1) := by decide +kernel
theorem dMo_base_16 : decode prog_13_method_42_code 16 = .ok (.getfield 21, 3) := by decide +kernel
theorem dMo_base_19 : decode prog_13_method_42_code 19 = .ok (.iconst 0, 1) := by decide +kernel
theorem dMo_base_20 : decode prog_13_method_42_code 20 = .ok (.aload_n 0, 1) := by decide +kernel
theorem dMo_base_21 : decode prog_13_method_42_code 21 = .ok (.getfield 18, 3) := by decide +kernel
theorem dMo_base_24 : decode prog_13_method_42_code 24 = .ok (.iconst 1, 1) := by decide +kernel
theorem dMo_base_25 : decode prog_13_method_42_code 25 = .ok (.invokevirtual 144, 3) := by decide +kernel
theorem dMo_base_28 : decode prog_13_method_42_code 28 = .ok (.ifCond .ne 5, 3) := by decide +kernel
theorem dMo_base_31 : decode prog_13_method_42_code 31 = .ok (.iconst (-1), 1) := by decide +kernel
theorem dMo_base_32 : decode prog_13_method_42_code 32 = .ok (.ireturn, 1) := by decide +kernel
theorem dMo_base_33 : decode prog_13_method_42_code 33 = .ok (.aload_n 0, 1) := by decide +kernel
theorem dMo_base_34 : decode prog_13_method_42_code 34 = .ok (.iconst 1, 1) := by decide +kernel
theorem dMo_base_35 : decode prog_13_method_42_code 35 = .ok (.iconst 0, 1) := by decide +kernel
theorem dMo_base_36 : decode prog_13_method_42_code 36 = .ok (.invokevirtual 148, 3) := by decide +kernel
theorem dMo_base_39 : decode prog_13_method_42_code 39 = .ok (.aload_n 0, 1) := by decide +kernel
theorem dMo_base_40 : decode prog_13_method_42_code 40 = .ok (.getfield 61, 3) := by decide +kernel
theorem dMo_base_43 : decode prog_13_method_42_code 43 = .ok (.ireturn, 1) := by decide +kernel
theorem dMo_fetch_0 : decode prog_13_method_43_code 0 = .ok (.aload_n 0, 1) := by decide +kernel
theorem dMo_fetch_1 : decode prog_13_method_43_code 1 = .ok (.invokevirtual 151, 3) := by decide +kernel
theorem dMo_fetch_4 : decode prog_13_method_43_code 4 = .ok (.istore_n 1, 1) := by decide +kernel
theorem dMo_fetch_5 : decode prog_13_method_43_code 5 = .ok (.iload_n 1, 1) := by decide +kernel
theorem dMo_fetch_6 : decode prog_13_method_43_code 6 = .ok (.ifCond .lt 8, 3) := by decide +kernel
theorem dMo_fetch_9 : decode prog_13_method_43_code 9 = .ok (.iload_n 1, 1) := by decide +kernel
theorem dMo_fetch_10 : decode prog_13_method_43_code 10 = .ok (.invokestatic 155, 3) := by decide +kernel
theorem dMo_fetch_13 : decode prog_13_method_43_code 13 = .ok (.ireturn, 1) := by decide +kernel
theorem dMo_fetch_14 : decode prog_13_method_43_code 14 = .ok (.aload_n 0, 1) := by decide +kernel
theorem dMo_fetch_15 : decode prog_13_method_43_code 15 = .ok (.aload_n 0, 1) := by decide +kernel
theorem dMo_fetch_16 : decode prog_13_method_43_code 16 = .ok (.getfield 21, 3) := by decide +kernel
theorem dMo_fetch_19 : decode prog_13_method_43_code 19 = .ok (.iconst 0, 1) := by decide +kernel
theorem dMo_fetch_20 : decode prog_13_method_43_code 20 = .ok (.aload_n 0, 1) := by decide +kernel
theorem dMo_fetch_21 : decode prog_13_method_43_code 21 = .ok (.getfield 18, 3) := by decide +kernel
theorem dMo_fetch_24 : decode prog_13_method_43_code 24 = .ok (.iconst 1, 1) := by decide +kernel
theorem dMo_fetch_25 : decode prog_13_method_43_code 25 = .ok (.invokevirtual 144, 3) := by decide +kernel
theorem dMo_fetch_28 : decode prog_13_method_43_code 28 = .ok (.ifCond .ne 5, 3) := by decide +kernel
theorem dMo_fetch_31 : decode prog_13_method_43_code 31 = .ok (.iconst (-1), 1) := by decide +kernel
theorem dMo_fetch_32 : decode prog_13_method_43_code 32 = .ok (.ireturn, 1) := by decide +kernel
theorem dMo_fetch_33 : decode prog_13_method_43_code 33 = .ok (.aload_n 0, 1) := by decide +kernel
theorem dMo_fetch_34 : decode prog_13_method_43_code 34 = .ok (.iconst 3, 1) := by decide +kernel
theorem dMo_fetch_35 : decode prog_13_method_43_code 35 = .ok (.iconst 0, 1) := by decide +kernel
theorem dMo_fetch_36 : decode prog_13_method_43_code 36 = .ok (.invokevirtual 148, 3) := by decide +kernel
theorem dMo_fetch_39 : decode prog_13_method_43_code 39 = .ok (.aload_n 0, 1) := by decide +kernel
theorem dMo_fetch_40 : decode prog_13_method_43_code 40 = .ok (.invokevirtual 274, 3) := by decide +kernel
theorem dMo_fetch_43 : decode prog_13_method_43_code 43 = .ok (.aload_n 0, 1) := by decide +kernel
theorem dMo_fetch_44 : decode prog_13_method_43_code 44 = .ok (.iconst 1, 1) := by decide +kernel
theorem dMo_fetch_45 : decode prog_13_method_43_code 45 = .ok (.putfield 277, 3) := by decide +kernel
theorem dMo_fetch_48 : decode prog_13_method_43_code 48 = .ok (.aload_n 0, 1) := by decide +kernel
theorem dMo_fetch_49 : decode prog_13_method_43_code 49 = .ok (.bipush 26, 2) := by decide +kernel
theorem dMo_fetch_51 : decode prog_13_method_43_code 51 = .ok (.iconst 4, 1) := by decide +kernel
theorem dMo_fetch_52 : decode prog_13_method_43_code 52 = .ok (.invokevirtual 148, 3) := by decide +kernel
theorem dMo_fetch_55 : decode prog_13_method_43_code 55 = .ok (.aload_n 0, 1) := by decide +kernel
theorem dMo_fetch_56 : decode prog_13_method_43_code 56 = .ok (.getfield 43, 3) := by decide +kernel
theorem dMo_fetch_59 : decode prog_13_method_43_code 59 = .ok (.bipush 26, 2) := by decide +kernel
theorem dMo_fetch_61 : decode prog_13_method_43_code 61 = .ok (.aload_n 0, 1) := by decide +kernel
theorem dMo_fetch_62 : decode prog_13_method_43_code 62 = .ok (.getfield 43, 3) := by decide +kernel
theorem dMo_fetch_65 : decode prog_13_method_43_code 65 = .ok (.iconst 3, 1) := by decide +kernel
theorem dMo_fetch_66 : decode prog_13_method_43_code 66 = .ok (.iaload, 1) := by decide +kernel
theorem dMo_fetch_67 : decode prog_13_method_43_code 67 = .ok (.iastore, 1) := by decide +kernel
theorem dMo_fetch_68 : decode prog_13_method_43_code 68 = .ok (.iconst 0, 1) := by decide +kernel
theorem dMo_fetch_69 : decode prog_13_method_43_code 69 = .ok (.istore_n 2, 1) := by decide +kernel
theorem dMo_fetch_70 : decode prog_13_method_43_code 70 = .ok (.iload_n 2, 1) := by decide +kernel
theorem dMo_fetch_71 : decode prog_13_method_43_code 71 = .ok (.aload_n 0, 1) := by decide +kernel
theorem dMo_fetch_72 : decode prog_13_method_43_code 72 = .ok (.getfield 43, 3) := by decide +kernel
theorem dMo_fetch_75 : decode prog_13_method_43_code 75 = .ok (.iconst 3, 1) := by decide +kernel
theorem dMo_fetch_76 : decode prog_13_method_43_code 76 = .ok (.iaload, 1) := by decide +kernel
theorem dMo_fetch_77 : decode prog_13_method_43_code 77 = .ok (.if_icmp .ge 29, 3) := by decide +kernel
theorem dMo_fetch_80 : decode prog_13_method_43_code 80 = .ok (.aload_n 0, 1) := by decide +kernel
theorem dMo_fetch_81 : decode prog_13_method_43_code 81 = .ok (.getfield 36, 3) := by decide +kernel
theorem dMo_fetch_84 : decode prog_13_method_43_code 84 = .ok (.sipush 4035, 3) := by decide +kernel
theorem dMo_fetch_87 : decode prog_13_method_43_code 87 = .ok (.iload_n 2, 1) := by decide +kernel
theorem dMo_fetch_88 : decode prog_13_method_43_code 88 = .ok (.iadd, 1) := by decide +kernel
theorem dMo_fetch_89 : decode prog_13_method_43_code 89 = .ok (.aload_n 0, 1) := by decide +kernel
theorem dMo_fetch_90 : decode prog_13_method_43_code 90 = .ok (.getfield 36, 3) := by decide +kernel
theorem dMo_fetch_93 : decode prog_13_method_43_code 93 = .ok (.sipush 585, 3) := by decide +kernel
theorem dMo_fetch_96 : decode prog_13_method_43_code 96 = .ok (.iload_n 2, 1) := by decide +kernel
theorem dMo_fetch_97 : decode prog_13_method_43_code 97 = .ok (.iadd, 1) := by decide +kernel
theorem dMo_fetch_98 : decode prog_13_method_43_code 98 = .ok (.baload, 1) := by decide +kernel
theorem dMo_fetch_99 : decode prog_13_method_43_code 99 = .ok (.bastore, 1) := by decide +kernel
theorem dMo_fetch_100 : decode prog_13_method_43_code 100 = .ok (.iinc 2 1, 3) := by decide +kernel
theorem dMo_fetch_103 : decode prog_13_method_43_code 103 = .ok (.goto (-33), 3) := by decide +kernel
theorem dMo_fetch_106 : decode prog_13_method_43_code 106 = .ok (.aload_n 0, 1) := by decide +kernel
theorem dMo_fetch_107 : decode prog_13_method_43_code 107 = .ok (.aload_n 0, 1) := by decide +kernel
theorem dMo_fetch_108 : decode prog_13_method_43_code 108 = .ok (.getfield 238, 3) := by decide +kernel
theorem dMo_fetch_111 : decode prog_13_method_43_code 111 = .ok (.ifCond .ge 7, 3) := by decide +kernel
theorem dMo_fetch_114 : decode prog_13_method_43_code 114 = .ok (.iconst 0, 1) := by decide +kernel
theorem dMo_fetch_115 : decode prog_13_method_43_code 115 = .ok (.goto 12, 3) := by decide +kernel
theorem dMo_fetch_118 : decode prog_13_method_43_code 118 = .ok (.aload_n 0, 1) := by decide +kernel
theorem dMo_fetch_119 : decode prog_13_method_43_code 119 = .ok (.getfield 171, 3) := by decide +kernel
theorem dMo_fetch_122 : decode prog_13_method_43_code 122 = .ok (.aload_n 0, 1) := by decide +kernel
theorem dMo_fetch_123 : decode prog_13_method_43_code 123 = .ok (.getfield 238, 3) := by decide +kernel
theorem dMo_fetch_126 : decode prog_13_method_43_code 126 = .ok (.iaload, 1) := by decide +kernel
theorem dMo_fetch_127 : decode prog_13_method_43_code 127 = .ok (.putfield 280, 3) := by decide +kernel
theorem dMo_fetch_130 : decode prog_13_method_43_code 130 = .ok (.iconst 0, 1) := by decide +kernel
theorem dMo_fetch_131 : decode prog_13_method_43_code 131 = .ok (.istore_n 2, 1) := by decide +kernel
theorem dMo_fetch_132 : decode prog_13_method_43_code 132 = .ok (.iload_n 2, 1) := by decide +kernel
theorem dMo_fetch_133 : decode prog_13_method_43_code 133 = .ok (.aload_n 0, 1) := by decide +kernel
theorem dMo_fetch_134 : decode prog_13_method_43_code 134 = .ok (.getfield 280, 3) := by decide +kernel
theorem dMo_fetch_137 : decode prog_13_method_43_code 137 = .ok (.if_icmp .ge 30, 3) := by decide +kernel
theorem dMo_fetch_140 : decode prog_13_method_43_code 140 = .ok (.aload_n 0, 1) := by decide +kernel
theorem dMo_fetch_141 : decode prog_13_method_43_code 141 = .ok (.getfield 265, 3) := by decide +kernel
theorem dMo_fetch_144 : decode prog_13_method_43_code 144 = .ok (.iload_n 2, 1) := by decide +kernel
theorem dMo_fetch_145 : decode prog_13_method_43_code 145 = .ok (.aload_n 0, 1) := by decide +kernel
theorem dMo_fetch_146 : decode prog_13_method_43_code 146 = .ok (.getfield 174, 3) := by decide +kernel
theorem dMo_fetch_149 : decode prog_13_method_43_code 149 = .ok (.aload_n 0, 1) := by decide +kernel
theorem dMo_fetch_150 : decode prog_13_method_43_code 150 = .ok (.getfield 238, 3) := by decide +kernel
theorem dMo_fetch_153 : decode prog_13_method_43_code 153 = .ok (.sipush 1500, 3) := by decide +kernel
theorem dMo_fetch_156 : decode prog_13_method_43_code 156 = .ok (.imul, 1) := by decide +kernel
theorem dMo_fetch_157 : decode prog_13_method_43_code 157 = .ok (.iload_n 2, 1) := by decide +kernel
theorem dMo_fetch_158 : decode prog_13_method_43_code 158 = .ok (.iadd, 1) := by decide +kernel
theorem dMo_fetch_159 : decode prog_13_method_43_code 159 = .ok (.baload, 1) := by decide +kernel
theorem dMo_fetch_160 : decode prog_13_method_43_code 160 = .ok (.bastore, 1) := by decide +kernel
theorem dMo_fetch_161 : decode prog_13_method_43_code 161 = .ok (.iinc 2 1, 3) := by decide +kernel
theorem dMo_fetch_164 : decode prog_13_method_43_code 164 = .ok (.goto (-32), 3) := by decide +kernel
theorem dMo_fetch_167 : decode prog_13_method_43_code 167 = .ok (.aload_n 0, 1) := by decide +kernel
theorem dMo_fetch_168 : decode prog_13_method_43_code 168 = .ok (.aload_n 0, 1) := by decide +kernel
theorem dMo_fetch_169 : decode prog_13_method_43_code 169 = .ok (.getfield 238, 3) := by decide +kernel
theorem dMo_fetch_172 : decode prog_13_method_43_code 172 = .ok (.ifCond .lt 19, 3) := by decide +kernel
theorem dMo_fetch_175 : decode prog_13_method_43_code 175 = .ok (.aload_n 0, 1) := by decide +kernel
theorem dMo_fetch_176 : decode prog_13_method_43_code 176 = .ok (.getfield 193, 3) := by decide +kernel
theorem dMo_fetch_179 : decode prog_13_method_43_code 179 = .ok (.aload_n 0, 1) := by decide +kernel
theorem dMo_fetch_180 : decode prog_13_method_43_code 180 = .ok (.getfield 238, 3) := by decide +kernel
theorem dMo_fetch_183 : decode prog_13_method_43_code 183 = .ok (.baload, 1) := by decide +kernel
theorem dMo_fetch_184 : decode prog_13_method_43_code 184 = .ok (.ifCond .eq 7, 3) := by decide +kernel
theorem dMo_fetch_187 : decode prog_13_method_43_code 187 = .ok (.iconst 1, 1) := by decide +kernel
theorem dMo_fetch_188 : decode prog_13_method_43_code 188 = .ok (.goto 4, 3) := by decide +kernel
theorem dMo_fetch_191 : decode prog_13_method_43_code 191 = .ok (.iconst 0, 1) := by decide +kernel
theorem dMo_fetch_192 : decode prog_13_method_43_code 192 = .ok (.putfield 283, 3) := by decide +kernel
theorem dMo_fetch_195 : decode prog_13_method_43_code 195 = .ok (.aload_n 0, 1) := by decide +kernel
theorem dMo_fetch_196 : decode prog_13_method_43_code 196 = .ok (.getfield 280, 3) := by decide +kernel
theorem dMo_fetch_199 : decode prog_13_method_43_code 199 = .ok (.ireturn, 1) := by decide +kernel
theorem dMo_fetchIt_0 : decode prog_13_method_34_code 0 = .ok (.aload_n 0, 1) := by decide +kernel
theorem dMo_fetchIt_1 : decode prog_13_method_34_code 1 = .ok (.iconst 4, 1) := by decide +kernel
theorem dMo_fetchIt_2 : decode prog_13_method_34_code 2 = .ok (.iconst 0, 1) := by decide +kernel
theorem dMo_fetchIt_3 : decode prog_13_method_34_code 3 = .ok (.invokevirtual 148, 3) := by decide +kernel
theorem dMo_fetchIt_6 : decode prog_13_method_34_code 6 = .ok (.aload_n 0, 1) := by decide +kernel
theorem dMo_fetchIt_7 : decode prog_13_method_34_code 7 = .ok (.getfield 43, 3) := by decide +kernel
theorem dMo_fetchIt_10 : decode prog_13_method_34_code 10 = .ok (.iconst 4, 1) := by decide +kernel
theorem dMo_fetchIt_11 : decode prog_13_method_34_code 11 = .ok (.iconst 0, 1) := by decide +kernel
theorem dMo_fetchIt_12 : decode prog_13_method_34_code 12 = .ok (.iastore, 1) := by decide +kernel
theorem dMo_fetchIt_13 : decode prog_13_method_34_code 13 = .ok (.iconst 1, 1) := by decide +kernel
theorem dMo_fetchIt_14 : decode prog_13_method_34_code 14 = .ok (.istore_n 1, 1) := by decide +kernel
theorem dMo_fetchIt_15 : decode prog_13_method_34_code 15 = .ok (.aload_n 0, 1) := by decide +kernel
theorem dMo_fetchIt_16 : decode prog_13_method_34_code 16 = .ok (.iconst (-1), 1) := by decide +kernel
theorem dMo_fetchIt_17 : decode prog_13_method_34_code 17 = .ok (.putfield 235, 3) := by decide +kernel
theorem dMo_fetchIt_20 : decode prog_13_method_34_code 20 = .ok (.iconst 0, 1) := by decide +kernel
theorem dMo_fetchIt_21 : decode prog_13_method_34_code 21 = .ok (.istore_n 2, 1) := by decide +kernel
theorem dMo_fetchIt_22 : decode prog_13_method_34_code 22 = .ok (.iload_n 1, 1) := by decide +kernel
theorem dMo_fetchIt_23 : decode prog_13_method_34_code 23 = .ok (.ifCond .eq 179, 3) := by decide +kernel
theorem dMo_fetchIt_26 : decode prog_13_method_34_code 26 = .ok (.aload_n 0, 1) := by decide +kernel
theorem dMo_fetchIt_27 : decode prog_13_method_34_code 27 = .ok (.dup, 1) := by decide +kernel
theorem dMo_fetchIt_28 : decode prog_13_method_34_code 28 = .ok (.getfield 235, 3) := by decide +kernel
theorem dMo_fetchIt_31 : decode prog_13_method_34_code 31 = .ok (.iconst 1, 1) := by decide +kernel
theorem dMo_fetchIt_32 : decode prog_13_method_34_code 32 = .ok (.iadd, 1) := by decide +kernel
theorem dMo_fetchIt_33 : decode prog_13_method_34_code 33 = .ok (.putfield 235, 3) := by decide +kernel
theorem dMo_fetchIt_36 : decode prog_13_method_34_code 36 = .ok (.aload_n 0, 1) := by decide +kernel
theorem dMo_fetchIt_37 : decode prog_13_method_34_code 37 = .ok (.iconst (-1), 1) := by decide +kernel
theorem dMo_fetchIt_38 : decode prog_13_method_34_code 38 = .ok (.putfield 238, 3) := by decide +kernel
theorem dMo_fetchIt_41 : decode prog_13_method_34_code 41 = .ok (.iconst 0, 1) := by decide +kernel
theorem dMo_fetchIt_42 : decode prog_13_method_34_code 42 = .ok (.istore_n 3, 1) := by decide +kernel
theorem dMo_fetchIt_43 : decode prog_13_method_34_code 43 = .ok (.iload_n 3, 1) := by decide +kernel
theorem dMo_fetchIt_44 : decode prog_13_method_34_code 44 = .ok (.aload_n 0, 1) := by decide +kernel
theorem dMo_fetchIt_45 : decode prog_13_method_34_code 45 = .ok (.getfield 220, 3) := by decide +kernel
theorem dMo_fetchIt_48 : decode prog_13_method_34_code 48 = .ok (.if_icmp .ge 42, 3) := by decide +kernel
theorem dMo_fetchIt_51 : decode prog_13_method_34_code 51 = .ok (.aload_n 0, 1) := by decide +kernel
theorem dMo_fetchIt_52 : decode prog_13_method_34_code 52 = .ok (.bipush 18, 2) := by decide +kernel
theorem dMo_fetchIt_54 : decode prog_13_method_34_code 54 = .ok (.iload_n 3, 1) := by decide +kernel
theorem dMo_fetchIt_55 : decode prog_13_method_34_code 55 = .ok (.iadd, 1) := by decide +kernel
theorem dMo_fetchIt_56 : decode prog_13_method_34_code 56 = .ok (.iconst 4, 1) := by decide +kernel
theorem dMo_fetchIt_57 : decode prog_13_method_34_code 57 = .ok (.invokevirtual 168, 3) := by decide +kernel
theorem dMo_fetchIt_60 : decode prog_13_method_34_code 60 = .ok (.ifCond .eq 24, 3) := by decide +kernel
theorem dMo_fetchIt_63 : decode prog_13_method_34_code 63 = .ok (.aload_n 0, 1) := by decide +kernel
theorem dMo_fetchIt_64 : decode prog_13_method_34_code 64 = .ok (.getfield 226, 3) := by decide +kernel
theorem dMo_fetchIt_67 : decode prog_13_method_34_code 67 = .ok (.iload_n 3, 1) := by decide +kernel
theorem dMo_fetchIt_68 : decode prog_13_method_34_code 68 = .ok (.iaload, 1) := by decide +kernel
theorem dMo_fetchIt_69 : decode prog_13_method_34_code 69 = .ok (.aload_n 0, 1) := by decide +kernel
theorem dMo_fetchIt_70 : decode prog_13_method_34_code 70 = .ok (.getfield 229, 3) := by decide +kernel
theorem dMo_fetchIt_73 : decode prog_13_method_34_code 73 = .ok (.if_icmp .le 11, 3) := by decide +kernel
theorem dMo_fetchIt_76 : decode prog_13_method_34_code 76 = .ok (.aload_n 0, 1) := by decide +kernel
theorem dMo_fetchIt_77 : decode prog_13_method_34_code 77 = .ok (.bipush 12, 2) := by decide +kernel
theorem dMo_fetchIt_79 : decode prog_13_method_34_code 79 = .ok (.iload_n 3, 1) := by decide +kernel
theorem dMo_fetchIt_80 : decode prog_13_method_34_code 80 = .ok (.iadd, 1) := by decide +kernel
theorem dMo_fetchIt_81 : decode prog_13_method_34_code 81 = .ok (.putfield 238, 3) := by decide +kernel
theorem dMo_fetchIt_84 : decode prog_13_method_34_code 84 = .ok (.iinc 3 1, 3) := by decide +kernel
theorem dMo_fetchIt_87 : decode prog_13_method_34_code 87 = .ok (.goto (-44), 3) := by decide +kernel
theorem dMo_fetchIt_90 : decode prog_13_method_34_code 90 = .ok (.aload_n 0, 1) := by decide +kernel
theorem dMo_fetchIt_91 : decode prog_13_method_34_code 91 = .ok (.aload_n 0, 1) := by decide +kernel
theorem dMo_fetchIt_92 : decode prog_13_method_34_code 92 = .ok (.getfield 238, 3) := by decide +kernel
theorem dMo_fetchIt_95 : decode prog_13_method_34_code 95 = .ok (.ifCond .lt 7, 3) := by decide +kernel
theorem dMo_fetchIt_98 : decode prog_13_method_34_code 98 = .ok (.iconst 1, 1) := by decide +kernel
theorem dMo_fetchIt_99 : decode prog_13_method_34_code 99 = .ok (.goto 4, 3) := by decide +kernel
theorem dMo_fetchIt_102 : decode prog_13_method_34_code 102 = .ok (.iconst 0, 1) := by decide +kernel
theorem dMo_fetchIt_103 : decode prog_13_method_34_code 103 = .ok (.putfield 241, 3) := by decide +kernel
theorem dMo_fetchIt_106 : decode prog_13_method_34_code 106 = .ok (.aload_n 0, 1) := by decide +kernel
theorem dMo_fetchIt_107 : decode prog_13_method_34_code 107 = .ok (.getfield 238, 3) := by decide +kernel
theorem dMo_fetchIt_110 : decode prog_13_method_34_code 110 = .ok (.ifCond .ge 7, 3) := by decide +kernel
theorem dMo_fetchIt_113 : decode prog_13_method_34_code 113 = .ok (.aload_n 0, 1) := by decide +kernel
theorem dMo_fetchIt_114 : decode prog_13_method_34_code 114 = .ok (.invokevirtual 244, 3) := by decide +kernel
theorem dMo_fetchIt_117 : decode prog_13_method_34_code 117 = .ok (.aload_n 0, 1) := by decide +kernel
theorem dMo_fetchIt_118 : decode prog_13_method_34_code 118 = .ok (.getfield 238, 3) := by decide +kernel
theorem dMo_fetchIt_121 : decode prog_13_method_34_code 121 = .ok (.ifCond .lt 19, 3) := by decide +kernel
theorem dMo_fetchIt_124 : decode prog_13_method_34_code 124 = .ok (.aload_n 0, 1) := by decide +kernel
theorem dMo_fetchIt_125 : decode prog_13_method_34_code 125 = .ok (.getfield 189, 3) := by decide +kernel
theorem dMo_fetchIt_128 : decode prog_13_method_34_code 128 = .ok (.aload_n 0, 1) := by decide +kernel
theorem dMo_fetchIt_129 : decode prog_13_method_34_code 129 = .ok (.getfield 238, 3) := by decide +kernel
theorem dMo_fetchIt_132 : decode prog_13_method_34_code 132 = .ok (.baload, 1) := by decide +kernel
theorem dMo_fetchIt_133 : decode prog_13_method_34_code 133 = .ok (.ifCond .eq 7, 3) := by decide +kernel
theorem dMo_fetchIt_136 : decode prog_13_method_34_code 136 = .ok (.iconst 1, 1) := by decide +kernel
theorem dMo_fetchIt_137 : decode prog_13_method_34_code 137 = .ok (.goto 4, 3) := by decide +kernel
theorem dMo_fetchIt_140 : decode prog_13_method_34_code 140 = .ok (.iconst 0, 1) := by decide +kernel
theorem dMo_fetchIt_141 : decode prog_13_method_34_code 141 = .ok (.istore_n 1, 1) := by decide +kernel
theorem dMo_fetchIt_142 : decode prog_13_method_34_code 142 = .ok (.iload_n 1, 1) := by decide +kernel
theorem dMo_fetchIt_143 : decode prog_13_method_34_code 143 = .ok (.ifCond .eq 15, 3) := by decide +kernel
theorem dMo_fetchIt_146 : decode prog_13_method_34_code 146 = .ok (.iload_n 2, 1) := by decide +kernel
theorem dMo_fetchIt_147 : decode prog_13_method_34_code 147 = .ok (.iconst 5, 1) := by decide +kernel
theorem dMo_fetchIt_148 : decode prog_13_method_34_code 148 = .ok (.if_icmp .ne 10, 3) := by decide +kernel
theorem dMo_fetchIt_151 : decode prog_13_method_34_code 151 = .ok (.aload_n 0, 1) := by decide +kernel
theorem dMo_fetchIt_152 : decode prog_13_method_34_code 152 = .ok (.iconst (-1), 1) := by decide +kernel
theorem dMo_fetchIt_153 : decode prog_13_method_34_code 153 = .ok (.putfield 238, 3) := by decide +kernel
theorem dMo_fetchIt_156 : decode prog_13_method_34_code 156 = .ok (.iconst 0, 1) := by decide +kernel
theorem dMo_fetchIt_157 : decode prog_13_method_34_code 157 = .ok (.istore_n 1, 1) := by decide +kernel
theorem dMo_fetchIt_158 : decode prog_13_method_34_code 158 = .ok (.iload_n 1, 1) := by decide +kernel
theorem dMo_fetchIt_159 : decode prog_13_method_34_code 159 = .ok (.ifCond .eq 37, 3) := by decide +kernel
theorem dMo_fetchIt_162 : decode prog_13_method_34_code 162 = .ok (.aload_n 0, 1) := by decide +kernel
theorem dMo_fetchIt_163 : decode prog_13_method_34_code 163 = .ok (.iconst 4, 1) := by decide +kernel
theorem dMo_fetchIt_164 : decode prog_13_method_34_code 164 = .ok (.aload_n 0, 1) := by decide +kernel
theorem dMo_fetchIt_165 : decode prog_13_method_34_code 165 = .ok (.getfield 238, 3) := by decide +kernel
theorem dMo_fetchIt_168 : decode prog_13_method_34_code 168 = .ok (.bipush 12, 2) := by decide +kernel
theorem dMo_fetchIt_170 : decode prog_13_method_34_code 170 = .ok (.if_icmp .ge 13, 3) := by decide +kernel
theorem dMo_fetchIt_173 : decode prog_13_method_34_code 173 = .ok (.bipush 46, 2) := by decide +kernel
theorem dMo_fetchIt_175 : decode prog_13_method_34_code 175 = .ok (.aload_n 0, 1) := by decide +kernel
theorem dMo_fetchIt_176 : decode prog_13_method_34_code 176 = .ok (.getfield 238, 3) := by decide +kernel
theorem dMo_fetchIt_179 : decode prog_13_method_34_code 179 = .ok (.iadd, 1) := by decide +kernel
theorem dMo_fetchIt_180 : decode prog_13_method_34_code 180 = .ok (.goto 13, 3) := by decide +kernel
theorem dMo_fetchIt_183 : decode prog_13_method_34_code 183 = .ok (.bipush 58, 2) := by decide +kernel
theorem dMo_fetchIt_185 : decode prog_13_method_34_code 185 = .ok (.aload_n 0, 1) := by decide +kernel
theorem dMo_fetchIt_186 : decode prog_13_method_34_code 186 = .ok (.getfield 238, 3) := by decide +kernel
theorem dMo_fetchIt_189 : decode prog_13_method_34_code 189 = .ok (.iadd, 1) := by decide +kernel
theorem dMo_fetchIt_190 : decode prog_13_method_34_code 190 = .ok (.bipush 12, 2) := by decide +kernel
theorem dMo_fetchIt_192 : decode prog_13_method_34_code 192 = .ok (.isub, 1) := by decide +kernel
theorem dMo_fetchIt_193 : decode prog_13_method_34_code 193 = .ok (.invokevirtual 148, 3) := by decide +kernel
theorem dMo_fetchIt_196 : decode prog_13_method_34_code 196 = .ok (.iinc 2 1, 3) := by decide +kernel
theorem dMo_fetchIt_199 : decode prog_13_method_34_code 199 = .ok (.goto (-177), 3) := by decide +kernel
theorem dMo_fetchIt_202 : decode prog_13_method_34_code 202 = .ok (.return_, 1) := by decide +kernel
theorem dMo_ask_0 : decode prog_13_method_35_code 0 = .ok (.aload_n 0, 1) := by decide +kernel
theorem dMo_ask_1 : decode prog_13_method_35_code 1 = .ok (.dup, 1) := by decide +kernel
theorem dMo_ask_2 : decode prog_13_method_35_code 2 = .ok (.getfield 248, 3) := by decide +kernel
theorem dMo_ask_5 : decode prog_13_method_35_code 5 = .ok (.iconst 1, 1) := by decide +kernel
theorem dMo_ask_6 : decode prog_13_method_35_code 6 = .ok (.iadd, 1) := by decide +kernel
theorem dMo_ask_7 : decode prog_13_method_35_code 7 = .ok (.putfield 248, 3) := by decide +kernel
theorem dMo_ask_10 : decode prog_13_method_35_code 10 = .ok (.aload_n 0, 1) := by decide +kernel
theorem dMo_ask_11 : decode prog_13_method_35_code 11 = .ok (.iconst 2, 1) := by decide +kernel
theorem dMo_ask_12 : decode prog_13_method_35_code 12 = .ok (.iconst 4, 1) := by decide +kernel
theorem dMo_ask_13 : decode prog_13_method_35_code 13 = .ok (.invokevirtual 148, 3) := by decide +kernel
theorem dMo_ask_16 : decode prog_13_method_35_code 16 = .ok (.aload_n 0, 1) := by decide +kernel
theorem dMo_ask_17 : decode prog_13_method_35_code 17 = .ok (.invokevirtual 251, 3) := by decide +kernel
theorem dMo_ask_20 : decode prog_13_method_35_code 20 = .ok (.iconst 0, 1) := by decide +kernel
theorem dMo_ask_21 : decode prog_13_method_35_code 21 = .ok (.istore_n 1, 1) := by decide +kernel
theorem dMo_ask_22 : decode prog_13_method_35_code 22 = .ok (.iload_n 1, 1) := by decide +kernel
theorem dMo_ask_23 : decode prog_13_method_35_code 23 = .ok (.aload_n 0, 1) := by decide +kernel
theorem dMo_ask_24 : decode prog_13_method_35_code 24 = .ok (.getfield 165, 3) := by decide +kernel
theorem dMo_ask_27 : decode prog_13_method_35_code 27 = .ok (.if_icmp .ge 26, 3) := by decide +kernel
theorem dMo_ask_30 : decode prog_13_method_35_code 30 = .ok (.aload_n 0, 1) := by decide +kernel
theorem dMo_ask_31 : decode prog_13_method_35_code 31 = .ok (.bipush 6, 2) := by decide +kernel
theorem dMo_ask_33 : decode prog_13_method_35_code 33 = .ok (.iload_n 1, 1) := by decide +kernel
theorem dMo_ask_34 : decode prog_13_method_35_code 34 = .ok (.iadd, 1) := by decide +kernel
theorem dMo_ask_35 : decode prog_13_method_35_code 35 = .ok (.iconst 4, 1) := by decide +kernel
theorem dMo_ask_36 : decode prog_13_method_35_code 36 = .ok (.invokevirtual 168, 3) := by decide +kernel
theorem dMo_ask_39 : decode prog_13_method_35_code 39 = .ok (.ifCond .eq 8, 3) := by decide +kernel
theorem dMo_ask_42 : decode prog_13_method_35_code 42 = .ok (.aload_n 0, 1) := by decide +kernel
theorem dMo_ask_43 : decode prog_13_method_35_code 43 = .ok (.iload_n 1, 1) := by decide +kernel
theorem dMo_ask_44 : decode prog_13_method_35_code 44 = .ok (.putfield 238, 3) := by decide +kernel
theorem dMo_ask_47 : decode prog_13_method_35_code 47 = .ok (.iinc 1 1, 3) := by decide +kernel
theorem dMo_ask_50 : decode prog_13_method_35_code 50 = .ok (.goto (-28), 3) := by decide +kernel
theorem dMo_ask_53 : decode prog_13_method_35_code 53 = .ok (.aload_n 0, 1) := by decide +kernel
theorem dMo_ask_54 : decode prog_13_method_35_code 54 = .ok (.getfield 238, 3) := by decide +kernel
theorem dMo_ask_57 : decode prog_13_method_35_code 57 = .ok (.ifCond .ge 4, 3) := by decide +kernel
theorem dMo_ask_60 : decode prog_13_method_35_code 60 = .ok (.return_, 1) := by decide +kernel
theorem dMo_ask_61 : decode prog_13_method_35_code 61 = .ok (.aload_n 0, 1) := by decide +kernel
theorem dMo_ask_62 : decode prog_13_method_35_code 62 = .ok (.getfield 180, 3) := by decide +kernel
theorem dMo_ask_65 : decode prog_13_method_35_code 65 = .ok (.aload_n 0, 1) := by decide +kernel
theorem dMo_ask_66 : decode prog_13_method_35_code 66 = .ok (.getfield 238, 3) := by decide +kernel
theorem dMo_ask_69 : decode prog_13_method_35_code 69 = .ok (.iaload, 1) := by decide +kernel
theorem dMo_ask_70 : decode prog_13_method_35_code 70 = .ok (.ifCond .le 11, 3) := by decide +kernel
theorem dMo_ask_73 : decode prog_13_method_35_code 73 = .ok (.aload_n 0, 1) := by decide +kernel
theorem dMo_ask_74 : decode prog_13_method_35_code 74 = .ok (.aload_n 0, 1) := by decide +kernel
theorem dMo_ask_75 : decode prog_13_method_35_code 75 = .ok (.getfield 238, 3) := by decide +kernel
theorem dMo_ask_78 : decode prog_13_method_35_code 78 = .ok (.invokevirtual 254, 3) := by decide +kernel
theorem dMo_ask_81 : decode prog_13_method_35_code 81 = .ok (.aload_n 0, 1) := by decide +kernel
theorem dMo_ask_82 : decode prog_13_method_35_code 82 = .ok (.getfield 177, 3) := by decide +kernel
theorem dMo_ask_85 : decode prog_13_method_35_code 85 = .ok (.aload_n 0, 1) := by decide +kernel
theorem dMo_ask_86 : decode prog_13_method_35_code 86 = .ok (.getfield 238, 3) := by decide +kernel
theorem dMo_ask_89 : decode prog_13_method_35_code 89 = .ok (.iaload, 1) := by decide +kernel
theorem dMo_ask_90 : decode prog_13_method_35_code 90 = .ok (.ifCond .le 11, 3) := by decide +kernel
theorem dMo_ask_93 : decode prog_13_method_35_code 93 = .ok (.aload_n 0, 1) := by decide +kernel
theorem dMo_ask_94 : decode prog_13_method_35_code 94 = .ok (.aload_n 0, 1) := by decide +kernel
theorem dMo_ask_95 : decode prog_13_method_35_code 95 = .ok (.getfield 238, 3) := by decide +kernel
theorem dMo_ask_98 : decode prog_13_method_35_code 98 = .ok (.invokevirtual 257, 3) := by decide +kernel
theorem dMo_ask_101 : decode prog_13_method_35_code 101 = .ok (.return_, 1) := by decide +kernel
theorem dMo_tellCookies_0 : decode prog_13_method_32_code 0 = .ok (.aload_n 0, 1) := by decide +kernel
theorem dMo_tellCookies_1 : decode prog_13_method_32_code 1 = .ok (.iconst 0, 1) := by decide +kernel
theorem dMo_tellCookies_2 : decode prog_13_method_32_code 2 = .ok (.putfield 214, 3) := by decide +kernel
theorem dMo_tellCookies_5 : decode prog_13_method_32_code 5 = .ok (.aload_n 0, 1) := by decide +kernel
theorem dMo_tellCookies_6 : decode prog_13_method_32_code 6 = .ok (.iconst 4, 1) := by decide +kernel
theorem dMo_tellCookies_7 : decode prog_13_method_32_code 7 = .ok (.invokevirtual 50, 3) := by decide +kernel
theorem dMo_tellCookies_10 : decode prog_13_method_32_code 10 = .ok (.iconst 2, 1) := by decide +kernel
theorem dMo_tellCookies_11 : decode prog_13_method_32_code 11 = .ok (.isub, 1) := by decide +kernel
theorem dMo_tellCookies_12 : decode prog_13_method_32_code 12 = .ok (.istore_n 1, 1) := by decide +kernel
theorem dMo_tellCookies_13 : decode prog_13_method_32_code 13 = .ok (.iconst 0, 1) := by decide +kernel
theorem dMo_tellCookies_14 : decode prog_13_method_32_code 14 = .ok (.istore_n 2, 1) := by decide +kernel
theorem dMo_tellCookies_15 : decode prog_13_method_32_code 15 = .ok (.iload_n 2, 1) := by decide +kernel
theorem dMo_tellCookies_16 : decode prog_13_method_32_code 16 = .ok (.aload_n 0, 1) := by decide +kernel
theorem dMo_tellCookies_17 : decode prog_13_method_32_code 17 = .ok (.getfield 196, 3) := by decide +kernel
theorem dMo_tellCookies_20 : decode prog_13_method_32_code 20 = .ok (.if_icmp .ge 135, 3) := by decide +kernel
theorem dMo_tellCookies_23 : decode prog_13_method_32_code 23 = .ok (.aload_n 0, 1) := by decide +kernel
theorem dMo_tellCookies_24 : decode prog_13_method_32_code 24 = .ok (.getfield 199, 3) := by decide +kernel
theorem dMo_tellCookies_27 : decode prog_13_method_32_code 27 = .ok (.iload_n 2, 1) := by decide +kernel
theorem dMo_tellCookies_28 : decode prog_13_method_32_code 28 = .ok (.iaload, 1) := by decide +kernel
theorem dMo_tellCookies_29 : decode prog_13_method_32_code 29 = .ok (.iload_n 1, 1) := by decide +kernel
theorem dMo_tellCookies_30 : decode prog_13_method_32_code 30 = .ok (.if_icmp .ne 119, 3) := by decide +kernel
theorem dMo_tellCookies_33 : decode prog_13_method_32_code 33 = .ok (.aload_n 0, 1) := by decide +kernel
theorem dMo_tellCookies_34 : decode prog_13_method_32_code 34 = .ok (.getfield 202, 3) := by decide +kernel
theorem dMo_tellCookies_37 : decode prog_13_method_32_code 37 = .ok (.bipush 24, 2) := by decide +kernel
theorem dMo_tellCookies_39 : decode prog_13_method_32_code 39 = .ok (.iload_n 2, 1) := by decide +kernel
theorem dMo_tellCookies_40 : decode prog_13_method_32_code 40 = .ok (.imul, 1) := by decide +kernel
theorem dMo_tellCookies_41 : decode prog_13_method_32_code 41 = .ok (.aload_n 0, 1) := by decide +kernel
theorem dMo_tellCookies_42 : decode prog_13_method_32_code 42 = .ok (.getfield 36, 3) := by decide +kernel
theorem dMo_tellCookies_45 : decode prog_13_method_32_code 45 = .ok (.sipush 602, 3) := by decide +kernel
theorem dMo_tellCookies_48 : decode prog_13_method_32_code 48 = .ok (.iload_n 1, 1) := by decide +kernel
theorem dMo_tellCookies_49 : decode prog_13_method_32_code 49 = .ok (.invokestatic 46, 3) := by decide +kernel
theorem dMo_tellCookies_52 : decode prog_13_method_32_code 52 = .ok (.ifCond .ne 6, 3) := by decide +kernel
theorem dMo_tellCookies_55 : decode prog_13_method_32_code 55 = .ok (.goto 94, 3) := by decide +kernel
theorem dMo_tellCookies_58 : decode prog_13_method_32_code 58 = .ok (.aload_n 0, 1) := by decide +kernel
theorem dMo_tellCookies_59 : decode prog_13_method_32_code 59 = .ok (.getfield 214, 3) := by decide +kernel
theorem dMo_tellCookies_62 : decode prog_13_method_32_code 62 = .ok (.ifCond .le 9, 3) := by decide +kernel
theorem dMo_tellCookies_65 : decode prog_13_method_32_code 65 = .ok (.aload_n 0, 1) := by decide +kernel
theorem dMo_tellCookies_66 : decode prog_13_method_32_code 66 = .ok (.bipush 59, 2) := by decide +kernel
theorem dMo_tellCookies_68 : decode prog_13_method_32_code 68 = .ok (.invokevirtual 217, 3) := by decide +kernel
theorem dMo_tellCookies_71 : decode prog_13_method_32_code 71 = .ok (.iconst 0, 1) := by decide +kernel
theorem dMo_tellCookies_72 : decode prog_13_method_32_code 72 = .ok (.istore_n 3, 1) := by decide +kernel
theorem dMo_tellCookies_73 : decode prog_13_method_32_code 73 = .ok (.iload_n 3, 1) := by decide +kernel
theorem dMo_tellCookies_74 : decode prog_13_method_32_code 74 = .ok (.aload_n 0, 1) := by decide +kernel
theorem dMo_tellCookies_75 : decode prog_13_method_32_code 75 = .ok (.getfield 205, 3) := by decide +kernel
theorem dMo_tellCookies_78 : decode prog_13_method_32_code 78 = .ok (.iload_n 2, 1) := by decide +kernel
theorem dMo_tellCookies_79 : decode prog_13_method_32_code 79 = .ok (.iaload, 1) := by decide +kernel
theorem dMo_tellCookies_80 : decode prog_13_method_32_code 80 = .ok (.if_icmp .ge 27, 3) := by decide +kernel
theorem dMo_tellCookies_83 : decode prog_13_method_32_code 83 = .ok (.aload_n 0, 1) := by decide +kernel
theorem dMo_tellCookies_84 : decode prog_13_method_32_code 84 = .ok (.aload_n 0, 1) := by decide +kernel
theorem dMo_tellCookies_85 : decode prog_13_method_32_code 85 = .ok (.getfield 202, 3) := by decide +kernel
theorem dMo_tellCookies_88 : decode prog_13_method_32_code 88 = .ok (.bipush 24, 2) := by decide +kernel
theorem dMo_tellCookies_90 : decode prog_13_method_32_code 90 = .ok (.iload_n 2, 1) := by decide +kernel
theorem dMo_tellCookies_91 : decode prog_13_method_32_code 91 = .ok (.imul, 1) := by decide +kernel
theorem dMo_tellCookies_92 : decode prog_13_method_32_code 92 = .ok (.bipush 8, 2) := by decide +kernel
theorem dMo_tellCookies_94 : decode prog_13_method_32_code 94 = .ok (.iadd, 1) := by decide +kernel
theorem dMo_tellCookies_95 : decode prog_13_method_32_code 95 = .ok (.iload_n 3, 1) := by decide +kernel
theorem dMo_tellCookies_96 : decode prog_13_method_32_code 96 = .ok (.iadd, 1) := by decide +kernel
theorem dMo_tellCookies_97 : decode prog_13_method_32_code 97 = .ok (.baload, 1) := by decide +kernel
theorem dMo_tellCookies_98 : decode prog_13_method_32_code 98 = .ok (.invokevirtual 217, 3) := by decide +kernel
theorem dMo_tellCookies_101 : decode prog_13_method_32_code 101 = .ok (.iinc 3 1, 3) := by decide +kernel
theorem dMo_tellCookies_104 : decode prog_13_method_32_code 104 = .ok (.goto (-31), 3) := by decide +kernel
theorem dMo_tellCookies_107 : decode prog_13_method_32_code 107 = .ok (.aload_n 0, 1) := by decide +kernel
theorem dMo_tellCookies_108 : decode prog_13_method_32_code 108 = .ok (.bipush 61, 2) := by decide +kernel
theorem dMo_tellCookies_110 : decode prog_13_method_32_code 110 = .ok (.invokevirtual 217, 3) := by decide +kernel
theorem dMo_tellCookies_113 : decode prog_13_method_32_code 113 = .ok (.iconst 0, 1) := by decide +kernel
theorem dMo_tellCookies_114 : decode prog_13_method_32_code 114 = .ok (.istore_n 3, 1) := by decide +kernel
theorem dMo_tellCookies_115 : decode prog_13_method_32_code 115 = .ok (.iload_n 3, 1) := by decide +kernel
theorem dMo_tellCookies_116 : decode prog_13_method_32_code 116 = .ok (.aload_n 0, 1) := by decide +kernel
theorem dMo_tellCookies_117 : decode prog_13_method_32_code 117 = .ok (.getfield 208, 3) := by decide +kernel
theorem dMo_tellCookies_120 : decode prog_13_method_32_code 120 = .ok (.iload_n 2, 1) := by decide +kernel
theorem dMo_tellCookies_121 : decode prog_13_method_32_code 121 = .ok (.iaload, 1) := by decide +kernel
theorem dMo_tellCookies_122 : decode prog_13_method_32_code 122 = .ok (.if_icmp .ge 27, 3) := by decide +kernel
theorem dMo_tellCookies_125 : decode prog_13_method_32_code 125 = .ok (.aload_n 0, 1) := by decide +kernel
theorem dMo_tellCookies_126 : decode prog_13_method_32_code 126 = .ok (.aload_n 0, 1) := by decide +kernel
theorem dMo_tellCookies_127 : decode prog_13_method_32_code 127 = .ok (.getfield 202, 3) := by decide +kernel
theorem dMo_tellCookies_130 : decode prog_13_method_32_code 130 = .ok (.bipush 24, 2) := by decide +kernel
theorem dMo_tellCookies_132 : decode prog_13_method_32_code 132 = .ok (.iload_n 2, 1) := by decide +kernel
theorem dMo_tellCookies_133 : decode prog_13_method_32_code 133 = .ok (.imul, 1) := by decide +kernel
theorem dMo_tellCookies_134 : decode prog_13_method_32_code 134 = .ok (.bipush 16, 2) := by decide +kernel
theorem dMo_tellCookies_136 : decode prog_13_method_32_code 136 = .ok (.iadd, 1) := by decide +kernel
theorem dMo_tellCookies_137 : decode prog_13_method_32_code 137 = .ok (.iload_n 3, 1) := by decide +kernel
theorem dMo_tellCookies_138 : decode prog_13_method_32_code 138 = .ok (.iadd, 1) := by decide +kernel
theorem dMo_tellCookies_139 : decode prog_13_method_32_code 139 = .ok (.baload, 1) := by decide +kernel
theorem dMo_tellCookies_140 : decode prog_13_method_32_code 140 = .ok (.invokevirtual 217, 3) := by decide +kernel
theorem dMo_tellCookies_143 : decode prog_13_method_32_code 143 = .ok (.iinc 3 1, 3) := by decide +kernel
theorem dMo_tellCookies_146 : decode prog_13_method_32_code 146 = .ok (.goto (-31), 3) := by decide +kernel
theorem dMo_tellCookies_149 : decode prog_13_method_32_code 149 = .ok (.iinc 2 1, 3) := by decide +kernel
theorem dMo_tellCookies_152 : decode prog_13_method_32_code 152 = .ok (.goto (-137), 3) := by decide +kernel
theorem dMo_tellCookies_155 : decode prog_13_method_32_code 155 = .ok (.return_, 1) := by decide +kernel
theorem dMo_send_0 : decode prog_13_method_31_code 0 = .ok (.aload_n 0, 1) := by decide +kernel
theorem dMo_send_1 : decode prog_13_method_31_code 1 = .ok (.getfield 211, 3) := by decide +kernel
theorem dMo_send_4 : decode prog_13_method_31_code 4 = .ok (.aload_n 0, 1) := by decide +kernel
theorem dMo_send_5 : decode prog_13_method_31_code 5 = .ok (.getfield 214, 3) := by decide +kernel
theorem dMo_send_8 : decode prog_13_method_31_code 8 = .ok (.iload_n 1, 1) := by decide +kernel
theorem dMo_send_9 : decode prog_13_method_31_code 9 = .ok (.i2b, 1) := by decide +kernel
theorem dMo_send_10 : decode prog_13_method_31_code 10 = .ok (.bastore, 1) := by decide +kernel
theorem dMo_send_11 : decode prog_13_method_31_code 11 = .ok (.aload_n 0, 1) := by decide +kernel
theorem dMo_send_12 : decode prog_13_method_31_code 12 = .ok (.dup, 1) := by decide +kernel
theorem dMo_send_13 : decode prog_13_method_31_code 13 = .ok (.getfield 214, 3) := by decide +kernel
theorem dMo_send_16 : decode prog_13_method_31_code 16 = .ok (.iconst 1, 1) := by decide +kernel
theorem dMo_send_17 : decode prog_13_method_31_code 17 = .ok (.iadd, 1) := by decide +kernel
theorem dMo_send_18 : decode prog_13_method_31_code 18 = .ok (.putfield 214, 3) := by decide +kernel
theorem dMo_send_21 : decode prog_13_method_31_code 21 = .ok (.return_, 1) := by decide +kernel
theorem dMo_dropCookie_0 : decode prog_13_method_30_code 0 = .ok (.aload_n 0, 1) := by decide +kernel
theorem dMo_dropCookie_1 : decode prog_13_method_30_code 1 = .ok (.iconst 4, 1) := by decide +kernel
theorem dMo_dropCookie_2 : decode prog_13_method_30_code 2 = .ok (.invokevirtual 50, 3) := by decide +kernel
theorem dMo_dropCookie_5 : decode prog_13_method_30_code 5 = .ok (.iconst 2, 1) := by decide +kernel
theorem dMo_dropCookie_6 : decode prog_13_method_30_code 6 = .ok (.isub, 1) := by decide +kernel
theorem dMo_dropCookie_7 : decode prog_13_method_30_code 7 = .ok (.istore_n 2, 1) := by decide +kernel
theorem dMo_dropCookie_8 : decode prog_13_method_30_code 8 = .ok (.iconst 0, 1) := by decide +kernel
theorem dMo_dropCookie_9 : decode prog_13_method_30_code 9 = .ok (.istore_n 3, 1) := by decide +kernel
theorem dMo_dropCookie_10 : decode prog_13_method_30_code 10 = .ok (.iload_n 3, 1) := by decide +kernel
theorem dMo_dropCookie_11 : decode prog_13_method_30_code 11 = .ok (.aload_n 0, 1) := by decide +kernel
theorem dMo_dropCookie_12 : decode prog_13_method_30_code 12 = .ok (.getfield 196, 3) := by decide +kernel
theorem dMo_dropCookie_15 : decode prog_13_method_30_code 15 = .ok (.if_icmp .ge 87, 3) := by decide +kernel
theorem dMo_dropCookie_18 : decode prog_13_method_30_code 18 = .ok (.aload_n 0, 1) := by decide +kernel
theorem dMo_dropCookie_19 : decode prog_13_method_30_code 19 = .ok (.getfield 199, 3) := by decide +kernel
theorem dMo_dropCookie_22 : decode prog_13_method_30_code 22 = .ok (.iload_n 3, 1) := by decide +kernel
theorem dMo_dropCookie_23 : decode prog_13_method_30_code 23 = .ok (.iaload, 1) := by decide +kernel
theorem dMo_dropCookie_24 : decode prog_13_method_30_code 24 = .ok (.iload_n 2, 1) := by decide +kernel
theorem dMo_dropCookie_25 : decode prog_13_method_30_code 25 = .ok (.if_icmp .ne 71, 3) := by decide +kernel
theorem dMo_dropCookie_28 : decode prog_13_method_30_code 28 = .ok (.aload_n 0, 1) := by decide +kernel
theorem dMo_dropCookie_29 : decode prog_13_method_30_code 29 = .ok (.getfield 202, 3) := by decide +kernel
theorem dMo_dropCookie_32 : decode prog_13_method_30_code 32 = .ok (.bipush 24, 2) := by decide +kernel
theorem dMo_dropCookie_34 : decode prog_13_method_30_code 34 = .ok (.iload_n 3, 1) := by decide +kernel
theorem dMo_dropCookie_35 : decode prog_13_method_30_code 35 = .ok (.imul, 1) := by decide +kernel
theorem dMo_dropCookie_36 : decode prog_13_method_30_code 36 = .ok (.aload_n 0, 1) := by decide +kernel
theorem dMo_dropCookie_37 : decode prog_13_method_30_code 37 = .ok (.getfield 36, 3) := by decide +kernel
theorem dMo_dropCookie_40 : decode prog_13_method_30_code 40 = .ok (.sipush 602, 3) := by decide +kernel
theorem dMo_dropCookie_43 : decode prog_13_method_30_code 43 = .ok (.iload_n 2, 1) := by decide +kernel
theorem dMo_dropCookie_44 : decode prog_13_method_30_code 44 = .ok (.invokestatic 46, 3) := by decide +kernel
theorem dMo_dropCookie_47 : decode prog_13_method_30_code 47 = .ok (.ifCond .eq 49, 3) := by decide +kernel
theorem dMo_dropCookie_50 : decode prog_13_method_30_code 50 = .ok (.aload_n 0, 1) := by decide +kernel
theorem dMo_dropCookie_51 : decode prog_13_method_30_code 51 = .ok (.getfield 205, 3) := by decide +kernel
theorem dMo_dropCookie_54 : decode prog_13_method_30_code 54 = .ok (.iload_n 3, 1) := by decide +kernel
theorem dMo_dropCookie_55 : decode prog_13_method_30_code 55 = .ok (.iaload, 1) := by decide +kernel
theorem dMo_dropCookie_56 : decode prog_13_method_30_code 56 = .ok (.aload_n 0, 1) := by decide +kernel
theorem dMo_dropCookie_57 : decode prog_13_method_30_code 57 = .ok (.getfield 180, 3) := by decide +kernel
theorem dMo_dropCookie_60 : decode prog_13_method_30_code 60 = .ok (.iload_n 1, 1) := by decide +kernel
theorem dMo_dropCookie_61 : decode prog_13_method_30_code 61 = .ok (.iaload, 1) := by decide +kernel
theorem dMo_dropCookie_62 : decode prog_13_method_30_code 62 = .ok (.if_icmp .ne 34, 3) := by decide +kernel
theorem dMo_dropCookie_65 : decode prog_13_method_30_code 65 = .ok (.aload_n 0, 1) := by decide +kernel
theorem dMo_dropCookie_66 : decode prog_13_method_30_code 66 = .ok (.getfield 202, 3) := by decide +kernel
theorem dMo_dropCookie_69 : decode prog_13_method_30_code 69 = .ok (.bipush 24, 2) := by decide +kernel
theorem dMo_dropCookie_71 : decode prog_13_method_30_code 71 = .ok (.iload_n 3, 1) := by decide +kernel
theorem dMo_dropCookie_72 : decode prog_13_method_30_code 72 = .ok (.imul, 1) := by decide +kernel
theorem dMo_dropCookie_73 : decode prog_13_method_30_code 73 = .ok (.bipush 8, 2) := by decide +kernel
theorem dMo_dropCookie_75 : decode prog_13_method_30_code 75 = .ok (.iadd, 1) := by decide +kernel
theorem dMo_dropCookie_76 : decode prog_13_method_30_code 76 = .ok (.aload_n 0, 1) := by decide +kernel
theorem dMo_dropCookie_77 : decode prog_13_method_30_code 77 = .ok (.getfield 186, 3) := by decide +kernel
theorem dMo_dropCookie_80 : decode prog_13_method_30_code 80 = .ok (.bipush 16, 2) := by decide +kernel
theorem dMo_dropCookie_82 : decode prog_13_method_30_code 82 = .ok (.iload_n 1, 1) := by decide +kernel
theorem dMo_dropCookie_83 : decode prog_13_method_30_code 83 = .ok (.imul, 1) := by decide +kernel
theorem dMo_dropCookie_84 : decode prog_13_method_30_code 84 = .ok (.aload_n 0, 1) := by decide +kernel
theorem dMo_dropCookie_85 : decode prog_13_method_30_code 85 = .ok (.getfield 180, 3) := by decide +kernel
theorem dMo_dropCookie_88 : decode prog_13_method_30_code 88 = .ok (.iload_n 1, 1) := by decide +kernel
theorem dMo_dropCookie_89 : decode prog_13_method_30_code 89 = .ok (.iaload, 1) := by decide +kernel
theorem dMo_dropCookie_90 : decode prog_13_method_30_code 90 = .ok (.invokestatic 46, 3) := by decide +kernel
theorem dMo_dropCookie_93 : decode prog_13_method_30_code 93 = .ok (.ifCond .ne 9, 3) := by decide +kernel
theorem dMo_dropCookie_96 : decode prog_13_method_30_code 96 = .ok (.iinc 3 1, 3) := by decide +kernel
theorem dMo_dropCookie_99 : decode prog_13_method_30_code 99 = .ok (.goto (-89), 3) := by decide +kernel
theorem dMo_dropCookie_102 : decode prog_13_method_30_code 102 = .ok (.iload_n 3, 1) := by decide +kernel
theorem dMo_dropCookie_103 : decode prog_13_method_30_code 103 = .ok (.bipush 20, 2) := by decide +kernel
theorem dMo_dropCookie_105 : decode prog_13_method_30_code 105 = .ok (.if_icmp .ne 4, 3) := by decide +kernel
theorem dMo_dropCookie_108 : decode prog_13_method_30_code 108 = .ok (.return_, 1) := by decide +kernel
theorem dMo_dropCookie_109 : decode prog_13_method_30_code 109 = .ok (.aload_n 0, 1) := by decide +kernel
theorem dMo_dropCookie_110 : decode prog_13_method_30_code 110 = .ok (.iload_n 3, 1) := by decide +kernel
theorem dMo_dropCookie_111 : decode prog_13_method_30_code 111 = .ok (.aload_n 0, 1) := by decide +kernel
theorem dMo_dropCookie_112 : decode prog_13_method_30_code 112 = .ok (.getfield 196, 3) := by decide +kernel
theorem dMo_dropCookie_115 : decode prog_13_method_30_code 115 = .ok (.if_icmp .ne 12, 3) := by decide +kernel
theorem dMo_dropCookie_118 : decode prog_13_method_30_code 118 = .ok (.aload_n 0, 1) := by decide +kernel
theorem dMo_dropCookie_119 : decode prog_13_method_30_code 119 = .ok (.getfield 196, 3) := by decide +kernel
theorem dMo_dropCookie_122 : decode prog_13_method_30_code 122 = .ok (.iconst 1, 1) := by decide +kernel
theorem dMo_dropCookie_123 : decode prog_13_method_30_code 123 = .ok (.iadd, 1) := by decide +kernel
theorem dMo_dropCookie_124 : decode prog_13_method_30_code 124 = .ok (.goto 7, 3) := by decide +kernel
theorem dMo_dropCookie_127 : decode prog_13_method_30_code 127 = .ok (.aload_n 0, 1) := by decide +kernel
theorem dMo_dropCookie_128 : decode prog_13_method_30_code 128 = .ok (.getfield 196, 3) := by decide +kernel
theorem dMo_dropCookie_131 : decode prog_13_method_30_code 131 = .ok (.putfield 196, 3) := by decide +kernel
theorem dMo_dropCookie_134 : decode prog_13_method_30_code 134 = .ok (.aload_n 0, 1) := by decide +kernel
theorem dMo_dropCookie_135 : decode prog_13_method_30_code 135 = .ok (.getfield 199, 3) := by decide +kernel
theorem dMo_dropCookie_138 : decode prog_13_method_30_code 138 = .ok (.iload_n 3, 1) := by decide +kernel
theorem dMo_dropCookie_139 : decode prog_13_method_30_code 139 = .ok (.iload_n 2, 1) := by decide +kernel
theorem dMo_dropCookie_140 : decode prog_13_method_30_code 140 = .ok (.iastore, 1) := by decide +kernel
theorem dMo_dropCookie_141 : decode prog_13_method_30_code 141 = .ok (.aload_n 0, 1) := by decide +kernel
theorem dMo_dropCookie_142 : decode prog_13_method_30_code 142 = .ok (.getfield 205, 3) := by decide +kernel
theorem dMo_dropCookie_145 : decode prog_13_method_30_code 145 = .ok (.iload_n 3, 1) := by decide +kernel
theorem dMo_dropCookie_146 : decode prog_13_method_30_code 146 = .ok (.aload_n 0, 1) := by decide +kernel
theorem dMo_dropCookie_147 : decode prog_13_method_30_code 147 = .ok (.getfield 180, 3) := by decide +kernel
theorem dMo_dropCookie_150 : decode prog_13_method_30_code 150 = .ok (.iload_n 1, 1) := by decide +kernel
theorem dMo_dropCookie_151 : decode prog_13_method_30_code 151 = .ok (.iaload, 1) := by decide +kernel
theorem dMo_dropCookie_152 : decode prog_13_method_30_code 152 = .ok (.iastore, 1) := by decide +kernel
theorem dMo_dropCookie_153 : decode prog_13_method_30_code 153 = .ok (.aload_n 0, 1) := by decide +kernel
theorem dMo_dropCookie_154 : decode prog_13_method_30_code 154 = .ok (.getfield 208, 3) := by decide +kernel
theorem dMo_dropCookie_157 : decode prog_13_method_30_code 157 = .ok (.iload_n 3, 1) := by decide +kernel
theorem dMo_dropCookie_158 : decode prog_13_method_30_code 158 = .ok (.aload_n 0, 1) := by decide +kernel
theorem dMo_dropCookie_159 : decode prog_13_method_30_code 159 = .ok (.getfield 183, 3) := by decide +kernel
theorem dMo_dropCookie_162 : decode prog_13_method_30_code 162 = .ok (.iload_n 1, 1) := by decide +kernel
theorem dMo_dropCookie_163 : decode prog_13_method_30_code 163 = .ok (.iaload, 1) := by decide +kernel
theorem dMo_dropCookie_164 : decode prog_13_method_30_code 164 = .ok (.iastore, 1) := by decide +kernel
theorem dMo_dropCookie_165 : decode prog_13_method_30_code 165 = .ok (.iconst 0, 1) := by decide +kernel
theorem dMo_dropCookie_166 : decode prog_13_method_30_code 166 = .ok (.istore 4, 2) := by decide +kernel
theorem dMo_dropCookie_168 : decode prog_13_method_30_code 168 = .ok (.iload 4, 2) := by decide +kernel
theorem dMo_dropCookie_170 : decode prog_13_method_30_code 170 = .ok (.iload_n 2, 1) := by decide +kernel
theorem dMo_dropCookie_171 : decode prog_13_method_30_code 171 = .ok (.if_icmp .ge 32, 3) := by decide +kernel
theorem dMo_dropCookie_174 : decode prog_13_method_30_code 174 = .ok (.aload_n 0, 1) := by decide +kernel
theorem dMo_dropCookie_175 : decode prog_13_method_30_code 175 = .ok (.getfield 202, 3) := by decide +kernel
theorem dMo_dropCookie_178 : decode prog_13_method_30_code 178 = .ok (.bipush 24, 2) := by decide +kernel
theorem dMo_dropCookie_180 : decode prog_13_method_30_code 180 = .ok (.iload_n 3, 1) := by decide +kernel
theorem dMo_dropCookie_181 : decode prog_13_method_30_code 181 = .ok (.imul, 1) := by decide +kernel
theorem dMo_dropCookie_182 : decode prog_13_method_30_code 182 = .ok (.iload 4, 2) := by decide +kernel
theorem dMo_dropCookie_184 : decode prog_13_method_30_code 184 = .ok (.iadd, 1) := by decide +kernel
theorem dMo_dropCookie_185 : decode prog_13_method_30_code 185 = .ok (.aload_n 0, 1) := by decide +kernel
theorem dMo_dropCookie_186 : decode prog_13_method_30_code 186 = .ok (.getfield 36, 3) := by decide +kernel
theorem dMo_dropCookie_189 : decode prog_13_method_30_code 189 = .ok (.sipush 602, 3) := by decide +kernel
theorem dMo_dropCookie_192 : decode prog_13_method_30_code 192 = .ok (.iload 4, 2) := by decide +kernel
theorem dMo_dropCookie_194 : decode prog_13_method_30_code 194 = .ok (.iadd, 1) := by decide +kernel
theorem dMo_dropCookie_195 : decode prog_13_method_30_code 195 = .ok (.baload, 1) := by decide +kernel
theorem dMo_dropCookie_196 : decode prog_13_method_30_code 196 = .ok (.bastore, 1) := by decide +kernel
theorem dMo_dropCookie_197 : decode prog_13_method_30_code 197 = .ok (.iinc 4 1, 3) := by decide +kernel
theorem dMo_dropCookie_200 : decode prog_13_method_30_code 200 = .ok (.goto (-32), 3) := by decide +kernel
theorem dMo_dropCookie_203 : decode prog_13_method_30_code 203 = .ok (.iconst 0, 1) := by decide +kernel
theorem dMo_dropCookie_204 : decode prog_13_method_30_code 204 = .ok (.istore 4, 2) := by decide +kernel
theorem dMo_dropCookie_206 : decode prog_13_method_30_code 206 = .ok (.iload 4, 2) := by decide +kernel
theorem dMo_dropCookie_208 : decode prog_13_method_30_code 208 = .ok (.bipush 8, 2) := by decide +kernel
theorem dMo_dropCookie_210 : decode prog_13_method_30_code 210 = .ok (.if_icmp .ge 66, 3) := by decide +kernel
theorem dMo_dropCookie_213 : decode prog_13_method_30_code 213 = .ok (.aload_n 0, 1) := by decide +kernel
theorem dMo_dropCookie_214 : decode prog_13_method_30_code 214 = .ok (.getfield 202, 3) := by decide +kernel
theorem dMo_dropCookie_217 : decode prog_13_method_30_code 217 = .ok (.bipush 24, 2) := by decide +kernel
theorem dMo_dropCookie_219 : decode prog_13_method_30_code 219 = .ok (.iload_n 3, 1) := by decide +kernel
theorem dMo_dropCookie_220 : decode prog_13_method_30_code 220 = .ok (.imul, 1) := by decide +kernel
theorem dMo_dropCookie_221 : decode prog_13_method_30_code 221 = .ok (.bipush 8, 2) := by decide +kernel
theorem dMo_dropCookie_223 : decode prog_13_method_30_code 223 = .ok (.iadd, 1) := by decide +kernel
theorem dMo_dropCookie_224 : decode prog_13_method_30_code 224 = .ok (.iload 4, 2) := by decide +kernel
theorem dMo_dropCookie_226 : decode prog_13_method_30_code 226 = .ok (.iadd, 1) := by decide +kernel
theorem dMo_dropCookie_227 : decode prog_13_method_30_code 227 = .ok (.aload_n 0, 1) := by decide +kernel
theorem dMo_dropCookie_228 : decode prog_13_method_30_code 228 = .ok (.getfield 186, 3) := by decide +kernel
theorem dMo_dropCookie_231 : decode prog_13_method_30_code 231 = .ok (.bipush 16, 2) := by decide +kernel
theorem dMo_dropCookie_233 : decode prog_13_method_30_code 233 = .ok (.iload_n 1, 1) := by decide +kernel
theorem dMo_dropCookie_234 : decode prog_13_method_30_code 234 = .ok (.imul, 1) := by decide +kernel
theorem dMo_dropCookie_235 : decode prog_13_method_30_code 235 = .ok (.iload 4, 2) := by decide +kernel
theorem dMo_dropCookie_237 : decode prog_13_method_30_code 237 = .ok (.iadd, 1) := by decide +kernel
theorem dMo_dropCookie_238 : decode prog_13_method_30_code 238 = .ok (.baload, 1) := by decide +kernel
theorem dMo_dropCookie_239 : decode prog_13_method_30_code 239 = .ok (.bastore, 1) := by decide +kernel
theorem dMo_dropCookie_240 : decode prog_13_method_30_code 240 = .ok (.aload_n 0, 1) := by decide +kernel
theorem dMo_dropCookie_241 : decode prog_13_method_30_code 241 = .ok (.getfield 202, 3) := by decide +kernel
theorem dMo_dropCookie_244 : decode prog_13_method_30_code 244 = .ok (.bipush 24, 2) := by decide +kernel
theorem dMo_dropCookie_246 : decode prog_13_method_30_code 246 = .ok (.iload_n 3, 1) := by decide +kernel
theorem dMo_dropCookie_247 : decode prog_13_method_30_code 247 = .ok (.imul, 1) := by decide +kernel
theorem dMo_dropCookie_248 : decode prog_13_method_30_code 248 = .ok (.bipush 16, 2) := by decide +kernel
theorem dMo_dropCookie_250 : decode prog_13_method_30_code 250 = .ok (.iadd, 1) := by decide +kernel
theorem dMo_dropCookie_251 : decode prog_13_method_30_code 251 = .ok (.iload 4, 2) := by decide +kernel
theorem dMo_dropCookie_253 : decode prog_13_method_30_code 253 = .ok (.iadd, 1) := by decide +kernel
theorem dMo_dropCookie_254 : decode prog_13_method_30_code 254 = .ok (.aload_n 0, 1) := by decide +kernel
theorem dMo_dropCookie_255 : decode prog_13_method_30_code 255 = .ok (.getfield 186, 3) := by decide +kernel
theorem dMo_dropCookie_258 : decode prog_13_method_30_code 258 = .ok (.bipush 16, 2) := by decide +kernel
theorem dMo_dropCookie_260 : decode prog_13_method_30_code 260 = .ok (.iload_n 1, 1) := by decide +kernel
theorem dMo_dropCookie_261 : decode prog_13_method_30_code 261 = .ok (.imul, 1) := by decide +kernel
theorem dMo_dropCookie_262 : decode prog_13_method_30_code 262 = .ok (.bipush 8, 2) := by decide +kernel
theorem dMo_dropCookie_264 : decode prog_13_method_30_code 264 = .ok (.iadd, 1) := by decide +kernel
theorem dMo_dropCookie_265 : decode prog_13_method_30_code 265 = .ok (.iload 4, 2) := by decide +kernel
theorem dMo_dropCookie_267 : decode prog_13_method_30_code 267 = .ok (.iadd, 1) := by decide +kernel
theorem dMo_dropCookie_268 : decode prog_13_method_30_code 268 = .ok (.baload, 1) := by decide +kernel
theorem dMo_dropCookie_269 : decode prog_13_method_30_code 269 = .ok (.bastore, 1) := by decide +kernel
theorem dMo_dropCookie_270 : decode prog_13_method_30_code 270 = .ok (.iinc 4 1, 3) := by decide +kernel
theorem dMo_dropCookie_273 : decode prog_13_method_30_code 273 = .ok (.goto (-67), 3) := by decide +kernel
theorem dMo_dropCookie_276 : decode prog_13_method_30_code 276 = .ok (.return_, 1) := by decide +kernel
theorem dMo_keep_0 : decode prog_13_method_33_code 0 = .ok (.iconst 0, 1) := by decide +kernel
theorem dMo_keep_1 : decode prog_13_method_33_code 1 = .ok (.istore_n 2, 1) := by decide +kernel
theorem dMo_keep_2 : decode prog_13_method_33_code 2 = .ok (.iload_n 2, 1) := by decide +kernel
theorem dMo_keep_3 : decode prog_13_method_33_code 3 = .ok (.aload_n 0, 1) := by decide +kernel
theorem dMo_keep_4 : decode prog_13_method_33_code 4 = .ok (.getfield 220, 3) := by decide +kernel
theorem dMo_keep_7 : decode prog_13_method_33_code 7 = .ok (.if_icmp .ge 21, 3) := by decide +kernel
theorem dMo_keep_10 : decode prog_13_method_33_code 10 = .ok (.aload_n 0, 1) := by decide +kernel
theorem dMo_keep_11 : decode prog_13_method_33_code 11 = .ok (.bipush 18, 2) := by decide +kernel
theorem dMo_keep_13 : decode prog_13_method_33_code 13 = .ok (.iload_n 2, 1) := by decide +kernel
theorem dMo_keep_14 : decode prog_13_method_33_code 14 = .ok (.iadd, 1) := by decide +kernel
theorem dMo_keep_15 : decode prog_13_method_33_code 15 = .ok (.iconst 4, 1) := by decide +kernel
theorem dMo_keep_16 : decode prog_13_method_33_code 16 = .ok (.invokevirtual 168, 3) := by decide +kernel
theorem dMo_keep_19 : decode prog_13_method_33_code 19 = .ok (.ifCond .ne 9, 3) := by decide +kernel
theorem dMo_keep_22 : decode prog_13_method_33_code 22 = .ok (.iinc 2 1, 3) := by decide +kernel
theorem dMo_keep_25 : decode prog_13_method_33_code 25 = .ok (.goto (-23), 3) := by decide +kernel
theorem dMo_keep_28 : decode prog_13_method_33_code 28 = .ok (.iload_n 2, 1) := by decide +kernel
theorem dMo_keep_29 : decode prog_13_method_33_code 29 = .ok (.bipush 8, 2) := by decide +kernel
theorem dMo_keep_31 : decode prog_13_method_33_code 31 = .ok (.if_icmp .ne 40, 3) := by decide +kernel
theorem dMo_keep_34 : decode prog_13_method_33_code 34 = .ok (.iconst 0, 1) := by decide +kernel
theorem dMo_keep_35 : decode prog_13_method_33_code 35 = .ok (.istore_n 2, 1) := by decide +kernel
theorem dMo_keep_36 : decode prog_13_method_33_code 36 = .ok (.iconst 1, 1) := by decide +kernel
theorem dMo_keep_37 : decode prog_13_method_33_code 37 = .ok (.istore_n 3, 1) := by decide +kernel
theorem dMo_keep_38 : decode prog_13_method_33_code 38 = .ok (.iload_n 3, 1) := by decide +kernel
theorem dMo_keep_39 : decode prog_13_method_33_code 39 = .ok (.bipush 8, 2) := by decide +kernel
theorem dMo_keep_41 : decode prog_13_method_33_code 41 = .ok (.if_icmp .ge 30, 3) := by decide +kernel
theorem dMo_keep_44 : decode prog_13_method_33_code 44 = .ok (.aload_n 0, 1) := by decide +kernel
theorem dMo_keep_45 : decode prog_13_method_33_code 45 = .ok (.getfield 223, 3) := by decide +kernel
theorem dMo_keep_48 : decode prog_13_method_33_code 48 = .ok (.iload_n 3, 1) := by decide +kernel
theorem dMo_keep_49 : decode prog_13_method_33_code 49 = .ok (.iaload, 1) := by decide +kernel
theorem dMo_keep_50 : decode prog_13_method_33_code 50 = .ok (.aload_n 0, 1) := by decide +kernel
theorem dMo_keep_51 : decode prog_13_method_33_code 51 = .ok (.getfield 223, 3) := by decide +kernel
theorem dMo_keep_54 : decode prog_13_method_33_code 54 = .ok (.iload_n 2, 1) := by decide +kernel
theorem dMo_keep_55 : decode prog_13_method_33_code 55 = .ok (.iaload, 1) := by decide +kernel
theorem dMo_keep_56 : decode prog_13_method_33_code 56 = .ok (.if_icmp .ge 7, 3) := by decide +kernel
theorem dMo_keep_59 : decode prog_13_method_33_code 59 = .ok (.iload_n 3, 1) := by decide +kernel
theorem dMo_keep_60 : decode prog_13_method_33_code 60 = .ok (.goto 4, 3) := by decide +kernel
theorem dMo_keep_63 : decode prog_13_method_33_code 63 = .ok (.iload_n 2, 1) := by decide +kernel
theorem dMo_keep_64 : decode prog_13_method_33_code 64 = .ok (.istore_n 2, 1) := by decide +kernel
theorem dMo_keep_65 : decode prog_13_method_33_code 65 = .ok (.iinc 3 1, 3) := by decide +kernel
theorem dMo_keep_68 : decode prog_13_method_33_code 68 = .ok (.goto (-30), 3) := by decide +kernel
theorem dMo_keep_71 : decode prog_13_method_33_code 71 = .ok (.aload_n 0, 1) := by decide +kernel
theorem dMo_keep_72 : decode prog_13_method_33_code 72 = .ok (.iload_n 2, 1) := by decide +kernel
theorem dMo_keep_73 : decode prog_13_method_33_code 73 = .ok (.aload_n 0, 1) := by decide +kernel
theorem dMo_keep_74 : decode prog_13_method_33_code 74 = .ok (.getfield 220, 3) := by decide +kernel
theorem dMo_keep_77 : decode prog_13_method_33_code 77 = .ok (.if_icmp .ne 12, 3) := by decide +kernel
theorem dMo_keep_80 : decode prog_13_method_33_code 80 = .ok (.aload_n 0, 1) := by decide +kernel
theorem dMo_keep_81 : decode prog_13_method_33_code 81 = .ok (.getfield 220, 3) := by decide +kernel
theorem dMo_keep_84 : decode prog_13_method_33_code 84 = .ok (.iconst 1, 1) := by decide +kernel
theorem dMo_keep_85 : decode prog_13_method_33_code 85 = .ok (.iadd, 1) := by decide +kernel
theorem dMo_keep_86 : decode prog_13_method_33_code 86 = .ok (.goto 7, 3) := by decide +kernel
theorem dMo_keep_89 : decode prog_13_method_33_code 89 = .ok (.aload_n 0, 1) := by decide +kernel
theorem dMo_keep_90 : decode prog_13_method_33_code 90 = .ok (.getfield 220, 3) := by decide +kernel
theorem dMo_keep_93 : decode prog_13_method_33_code 93 = .ok (.putfield 220, 3) := by decide +kernel
theorem dMo_keep_96 : decode prog_13_method_33_code 96 = .ok (.aload_n 0, 1) := by decide +kernel
theorem dMo_keep_97 : decode prog_13_method_33_code 97 = .ok (.bipush 18, 2) := by decide +kernel
theorem dMo_keep_99 : decode prog_13_method_33_code 99 = .ok (.iload_n 2, 1) := by decide +kernel
theorem dMo_keep_100 : decode prog_13_method_33_code 100 = .ok (.iadd, 1) := by decide +kernel
theorem dMo_keep_101 : decode prog_13_method_33_code 101 = .ok (.iconst 4, 1) := by decide +kernel
theorem dMo_keep_102 : decode prog_13_method_33_code 102 = .ok (.invokevirtual 148, 3) := by decide +kernel
theorem dMo_keep_105 : decode prog_13_method_33_code 105 = .ok (.aload_n 0, 1) := by decide +kernel
theorem dMo_keep_106 : decode prog_13_method_33_code 106 = .ok (.getfield 226, 3) := by decide +kernel
theorem dMo_keep_109 : decode prog_13_method_33_code 109 = .ok (.iload_n 2, 1) := by decide +kernel
theorem dMo_keep_110 : decode prog_13_method_33_code 110 = .ok (.aload_n 0, 1) := by decide +kernel
theorem dMo_keep_111 : decode prog_13_method_33_code 111 = .ok (.getfield 229, 3) := by decide +kernel
theorem dMo_keep_114 : decode prog_13_method_33_code 114 = .ok (.aload_n 0, 1) := by decide +kernel
theorem dMo_keep_115 : decode prog_13_method_33_code 115 = .ok (.getfield 177, 3) := by decide +kernel
theorem dMo_keep_118 : decode prog_13_method_33_code 118 = .ok (.iload_n 1, 1) := by decide +kernel
theorem dMo_keep_119 : decode prog_13_method_33_code 119 = .ok (.iaload, 1) := by decide +kernel
theorem dMo_keep_120 : decode prog_13_method_33_code 120 = .ok (.iadd, 1) := by decide +kernel
theorem dMo_keep_121 : decode prog_13_method_33_code 121 = .ok (.iastore, 1) := by decide +kernel
theorem dMo_keep_122 : decode prog_13_method_33_code 122 = .ok (.aload_n 0, 1) := by decide +kernel
theorem dMo_keep_123 : decode prog_13_method_33_code 123 = .ok (.getfield 223, 3) := by decide +kernel
theorem dMo_keep_126 : decode prog_13_method_33_code 126 = .ok (.iload_n 2, 1) := by decide +kernel
theorem dMo_keep_127 : decode prog_13_method_33_code 127 = .ok (.aload_n 0, 1) := by decide +kernel
theorem dMo_keep_128 : decode prog_13_method_33_code 128 = .ok (.getfield 232, 3) := by decide +kernel
theorem dMo_keep_131 : decode prog_13_method_33_code 131 = .ok (.iastore, 1) := by decide +kernel
theorem dMo_keep_132 : decode prog_13_method_33_code 132 = .ok (.aload_n 0, 1) := by decide +kernel
theorem dMo_keep_133 : decode prog_13_method_33_code 133 = .ok (.dup, 1) := by decide +kernel
theorem dMo_keep_134 : decode prog_13_method_33_code 134 = .ok (.getfield 232, 3) := by decide +kernel
theorem dMo_keep_137 : decode prog_13_method_33_code 137 = .ok (.iconst 1, 1) := by decide +kernel
theorem dMo_keep_138 : decode prog_13_method_33_code 138 = .ok (.iadd, 1) := by decide +kernel
theorem dMo_keep_139 : decode prog_13_method_33_code 139 = .ok (.putfield 232, 3) := by decide +kernel
theorem dMo_keep_142 : decode prog_13_method_33_code 142 = .ok (.bipush 12, 2) := by decide +kernel
theorem dMo_keep_144 : decode prog_13_method_33_code 144 = .ok (.iload_n 2, 1) := by decide +kernel
theorem dMo_keep_145 : decode prog_13_method_33_code 145 = .ok (.iadd, 1) := by decide +kernel
theorem dMo_keep_146 : decode prog_13_method_33_code 146 = .ok (.istore_n 3, 1) := by decide +kernel
theorem dMo_keep_147 : decode prog_13_method_33_code 147 = .ok (.aload_n 0, 1) := by decide +kernel
theorem dMo_keep_148 : decode prog_13_method_33_code 148 = .ok (.getfield 171, 3) := by decide +kernel
theorem dMo_keep_151 : decode prog_13_method_33_code 151 = .ok (.iload_n 3, 1) := by decide +kernel
theorem dMo_keep_152 : decode prog_13_method_33_code 152 = .ok (.aload_n 0, 1) := by decide +kernel
theorem dMo_keep_153 : decode prog_13_method_33_code 153 = .ok (.getfield 171, 3) := by decide +kernel
theorem dMo_keep_156 : decode prog_13_method_33_code 156 = .ok (.iload_n 1, 1) := by decide +kernel
theorem dMo_keep_157 : decode prog_13_method_33_code 157 = .ok (.iaload, 1) := by decide +kernel
theorem dMo_keep_158 : decode prog_13_method_33_code 158 = .ok (.iastore, 1) := by decide +kernel
theorem dMo_keep_159 : decode prog_13_method_33_code 159 = .ok (.iconst 0, 1) := by decide +kernel
theorem dMo_keep_160 : decode prog_13_method_33_code 160 = .ok (.istore 4, 2) := by decide +kernel
theorem dMo_keep_162 : decode prog_13_method_33_code 162 = .ok (.iload 4, 2) := by decide +kernel
theorem dMo_keep_164 : decode prog_13_method_33_code 164 = .ok (.aload_n 0, 1) := by decide +kernel
theorem dMo_keep_165 : decode prog_13_method_33_code 165 = .ok (.getfield 171, 3) := by decide +kernel
theorem dMo_keep_168 : decode prog_13_method_33_code 168 = .ok (.iload_n 1, 1) := by decide +kernel
theorem dMo_keep_169 : decode prog_13_method_33_code 169 = .ok (.iaload, 1) := by decide +kernel
theorem dMo_keep_170 : decode prog_13_method_33_code 170 = .ok (.if_icmp .ge 35, 3) := by decide +kernel
theorem dMo_keep_173 : decode prog_13_method_33_code 173 = .ok (.aload_n 0, 1) := by decide +kernel
theorem dMo_keep_174 : decode prog_13_method_33_code 174 = .ok (.getfield 174, 3) := by decide +kernel
theorem dMo_keep_177 : decode prog_13_method_33_code 177 = .ok (.iload_n 3, 1) := by decide +kernel
theorem dMo_keep_178 : decode prog_13_method_33_code 178 = .ok (.sipush 1500, 3) := by decide +kernel
theorem dMo_keep_181 : decode prog_13_method_33_code 181 = .ok (.imul, 1) := by decide +kernel
theorem dMo_keep_182 : decode prog_13_method_33_code 182 = .ok (.iload 4, 2) := by decide +kernel
theorem dMo_keep_184 : decode prog_13_method_33_code 184 = .ok (.iadd, 1) := by decide +kernel
theorem dMo_keep_185 : decode prog_13_method_33_code 185 = .ok (.aload_n 0, 1) := by decide +kernel
theorem dMo_keep_186 : decode prog_13_method_33_code 186 = .ok (.getfield 174, 3) := by decide +kernel
theorem dMo_keep_189 : decode prog_13_method_33_code 189 = .ok (.iload_n 1, 1) := by decide +kernel
theorem dMo_keep_190 : decode prog_13_method_33_code 190 = .ok (.sipush 1500, 3) := by decide +kernel
theorem dMo_keep_193 : decode prog_13_method_33_code 193 = .ok (.imul, 1) := by decide +kernel
theorem dMo_keep_194 : decode prog_13_method_33_code 194 = .ok (.iload 4, 2) := by decide +kernel
theorem dMo_keep_196 : decode prog_13_method_33_code 196 = .ok (.iadd, 1) := by decide +kernel
theorem dMo_keep_197 : decode prog_13_method_33_code 197 = .ok (.baload, 1) := by decide +kernel
theorem dMo_keep_198 : decode prog_13_method_33_code 198 = .ok (.bastore, 1) := by decide +kernel
theorem dMo_keep_199 : decode prog_13_method_33_code 199 = .ok (.iinc 4 1, 3) := by decide +kernel
theorem dMo_keep_202 : decode prog_13_method_33_code 202 = .ok (.goto (-40), 3) := by decide +kernel
theorem dMo_keep_205 : decode prog_13_method_33_code 205 = .ok (.aload_n 0, 1) := by decide +kernel
theorem dMo_keep_206 : decode prog_13_method_33_code 206 = .ok (.getfield 189, 3) := by decide +kernel
theorem dMo_keep_209 : decode prog_13_method_33_code 209 = .ok (.iload_n 3, 1) := by decide +kernel
theorem dMo_keep_210 : decode prog_13_method_33_code 210 = .ok (.aload_n 0, 1) := by decide +kernel
theorem dMo_keep_211 : decode prog_13_method_33_code 211 = .ok (.getfield 189, 3) := by decide +kernel
theorem dMo_keep_214 : decode prog_13_method_33_code 214 = .ok (.iload_n 1, 1) := by decide +kernel
theorem dMo_keep_215 : decode prog_13_method_33_code 215 = .ok (.baload, 1) := by decide +kernel
theorem dMo_keep_216 : decode prog_13_method_33_code 216 = .ok (.bastore, 1) := by decide +kernel
theorem dMo_keep_217 : decode prog_13_method_33_code 217 = .ok (.aload_n 0, 1) := by decide +kernel
theorem dMo_keep_218 : decode prog_13_method_33_code 218 = .ok (.getfield 189, 3) := by decide +kernel
theorem dMo_keep_221 : decode prog_13_method_33_code 221 = .ok (.iload_n 1, 1) := by decide +kernel
theorem dMo_keep_222 : decode prog_13_method_33_code 222 = .ok (.baload, 1) := by decide +kernel
theorem dMo_keep_223 : decode prog_13_method_33_code 223 = .ok (.ifCond .eq 15, 3) := by decide +kernel
theorem dMo_keep_226 : decode prog_13_method_33_code 226 = .ok (.aload_n 0, 1) := by decide +kernel
theorem dMo_keep_227 : decode prog_13_method_33_code 227 = .ok (.bipush 58, 2) := by decide +kernel
theorem dMo_keep_229 : decode prog_13_method_33_code 229 = .ok (.iload_n 2, 1) := by decide +kernel
theorem dMo_keep_230 : decode prog_13_method_33_code 230 = .ok (.iadd, 1) := by decide +kernel
theorem dMo_keep_231 : decode prog_13_method_33_code 231 = .ok (.bipush 46, 2) := by decide +kernel
theorem dMo_keep_233 : decode prog_13_method_33_code 233 = .ok (.iload_n 1, 1) := by decide +kernel
theorem dMo_keep_234 : decode prog_13_method_33_code 234 = .ok (.iadd, 1) := by decide +kernel
theorem dMo_keep_235 : decode prog_13_method_33_code 235 = .ok (.invokevirtual 148, 3) := by decide +kernel
theorem dMo_keep_238 : decode prog_13_method_33_code 238 = .ok (.aload_n 0, 1) := by decide +kernel
theorem dMo_keep_239 : decode prog_13_method_33_code 239 = .ok (.getfield 193, 3) := by decide +kernel
theorem dMo_keep_242 : decode prog_13_method_33_code 242 = .ok (.iload_n 3, 1) := by decide +kernel
theorem dMo_keep_243 : decode prog_13_method_33_code 243 = .ok (.aload_n 0, 1) := by decide +kernel
theorem dMo_keep_244 : decode prog_13_method_33_code 244 = .ok (.getfield 193, 3) := by decide +kernel
theorem dMo_keep_247 : decode prog_13_method_33_code 247 = .ok (.iload_n 1, 1) := by decide +kernel
theorem dMo_keep_248 : decode prog_13_method_33_code 248 = .ok (.baload, 1) := by decide +kernel
theorem dMo_keep_249 : decode prog_13_method_33_code 249 = .ok (.bastore, 1) := by decide +kernel
theorem dMo_keep_250 : decode prog_13_method_33_code 250 = .ok (.return_, 1) := by decide +kernel
theorem dMo_body_0 : decode prog_13_method_44_code 0 = .ok (.iload_n 1, 1) := by decide +kernel
theorem dMo_body_1 : decode prog_13_method_44_code 1 = .ok (.ifCond .lt 11, 3) := by decide +kernel
theorem dMo_body_4 : decode prog_13_method_44_code 4 = .ok (.iload_n 1, 1) := by decide +kernel
theorem dMo_body_5 : decode prog_13_method_44_code 5 = .ok (.aload_n 0, 1) := by decide +kernel
theorem dMo_body_6 : decode prog_13_method_44_code 6 = .ok (.getfield 280, 3) := by decide +kernel
theorem dMo_body_9 : decode prog_13_method_44_code 9 = .ok (.if_icmp .lt 7, 3) := by decide +kernel
theorem dMo_body_12 : decode prog_13_method_44_code 12 = .ok (.iconst (-1), 1) := by decide +kernel
theorem dMo_body_13 : decode prog_13_method_44_code 13 = .ok (.goto 13, 3) := by decide +kernel
theorem dMo_body_16 : decode prog_13_method_44_code 16 = .ok (.aload_n 0, 1) := by decide +kernel
theorem dMo_body_17 : decode prog_13_method_44_code 17 = .ok (.getfield 265, 3) := by decide +kernel
theorem dMo_body_20 : decode prog_13_method_44_code 20 = .ok (.iload_n 1, 1) := by decide +kernel
theorem dMo_body_21 : decode prog_13_method_44_code 21 = .ok (.baload, 1) := by decide +kernel
theorem dMo_body_22 : decode prog_13_method_44_code 22 = .ok (.sipush 255, 3) := by decide +kernel
theorem dMo_body_25 : decode prog_13_method_44_code 25 = .ok (.iand, 1) := by decide +kernel
theorem dMo_body_26 : decode prog_13_method_44_code 26 = .ok (.ireturn, 1) := by decide +kernel
theorem dMo_tick_0 : decode prog_13_method_45_code 0 = .ok (.iload_n 1, 1) := by decide +kernel
theorem dMo_tick_1 : decode prog_13_method_45_code 1 = .ok (.ifCond .lt 10, 3) := by decide +kernel
theorem dMo_tick_4 : decode prog_13_method_45_code 4 = .ok (.iload_n 1, 1) := by decide +kernel
theorem dMo_tick_5 : decode prog_13_method_45_code 5 = .ok (.sipush 1000, 3) := by decide +kernel
theorem dMo_tick_8 : decode prog_13_method_45_code 8 = .ok (.if_icmp .le 5, 3) := by decide +kernel
theorem dMo_tick_11 : decode prog_13_method_45_code 11 = .ok (.iconst (-1), 1) := by decide +kernel
theorem dMo_tick_12 : decode prog_13_method_45_code 12 = .ok (.ireturn, 1) := by decide +kernel
theorem dMo_tick_13 : decode prog_13_method_45_code 13 = .ok (.aload_n 0, 1) := by decide +kernel
theorem dMo_tick_14 : decode prog_13_method_45_code 14 = .ok (.dup, 1) := by decide +kernel
theorem dMo_tick_15 : decode prog_13_method_45_code 15 = .ok (.getfield 229, 3) := by decide +kernel
theorem dMo_tick_18 : decode prog_13_method_45_code 18 = .ok (.iload_n 1, 1) := by decide +kernel
theorem dMo_tick_19 : decode prog_13_method_45_code 19 = .ok (.iadd, 1) := by decide +kernel
theorem dMo_tick_20 : decode prog_13_method_45_code 20 = .ok (.putfield 229, 3) := by decide +kernel
theorem dMo_tick_23 : decode prog_13_method_45_code 23 = .ok (.aload_n 0, 1) := by decide +kernel
theorem dMo_tick_24 : decode prog_13_method_45_code 24 = .ok (.getfield 229, 3) := by decide +kernel
theorem dMo_tick_27 : decode prog_13_method_45_code 27 = .ok (.ireturn, 1) := by decide +kernel
theorem dMo_forget_0 : decode prog_13_method_46_code 0 = .ok (.aload_n 0, 1) := by decide +kernel
theorem dMo_forget_1 : decode prog_13_method_46_code 1 = .ok (.invokevirtual 151, 3) := by decide +kernel
theorem dMo_forget_4 : decode prog_13_method_46_code 4 = .ok (.istore_n 1, 1) := by decide +kernel
theorem dMo_forget_5 : decode prog_13_method_46_code 5 = .ok (.iload_n 1, 1) := by decide +kernel
theorem dMo_forget_6 : decode prog_13_method_46_code 6 = .ok (.ifCond .lt 8, 3) := by decide +kernel
theorem dMo_forget_9 : decode prog_13_method_46_code 9 = .ok (.iload_n 1, 1) := by decide +kernel
theorem dMo_forget_10 : decode prog_13_method_46_code 10 = .ok (.invokestatic 155, 3) := by decide +kernel
theorem dMo_forget_13 : decode prog_13_method_46_code 13 = .ok (.ireturn, 1) := by decide +kernel
theorem dMo_forget_14 : decode prog_13_method_46_code 14 = .ok (.iconst 0, 1) := by decide +kernel
theorem dMo_forget_15 : decode prog_13_method_46_code 15 = .ok (.istore_n 2, 1) := by decide +kernel
theorem dMo_forget_16 : decode prog_13_method_46_code 16 = .ok (.iload_n 2, 1) := by decide +kernel
theorem dMo_forget_17 : decode prog_13_method_46_code 17 = .ok (.aload_n 0, 1) := by decide +kernel
theorem dMo_forget_18 : decode prog_13_method_46_code 18 = .ok (.getfield 18, 3) := by decide +kernel
theorem dMo_forget_21 : decode prog_13_method_46_code 21 = .ok (.if_icmp .ge 43, 3) := by decide +kernel
theorem dMo_forget_24 : decode prog_13_method_46_code 24 = .ok (.iload_n 2, 1) := by decide +kernel
theorem dMo_forget_25 : decode prog_13_method_46_code 25 = .ok (.bipush 8, 2) := by decide +kernel
theorem dMo_forget_27 : decode prog_13_method_46_code 27 = .ok (.if_icmp .ge 37, 3) := by decide +kernel
theorem dMo_forget_30 : decode prog_13_method_46_code 30 = .ok (.aload_n 0, 1) := by decide +kernel
theorem dMo_forget_31 : decode prog_13_method_46_code 31 = .ok (.getfield 21, 3) := by decide +kernel
theorem dMo_forget_34 : decode prog_13_method_46_code 34 = .ok (.iload_n 2, 1) := by decide +kernel
theorem dMo_forget_35 : decode prog_13_method_46_code 35 = .ok (.baload, 1) := by decide +kernel
theorem dMo_forget_36 : decode prog_13_method_46_code 36 = .ok (.invokestatic 27, 3) := by decide +kernel
theorem dMo_forget_39 : decode prog_13_method_46_code 39 = .ok (.ifCond .ne 19, 3) := by decide +kernel
theorem dMo_forget_42 : decode prog_13_method_46_code 42 = .ok (.iload_n 2, 1) := by decide +kernel
theorem dMo_forget_43 : decode prog_13_method_46_code 43 = .ok (.ifCond .le 21, 3) := by decide +kernel
theorem dMo_forget_46 : decode prog_13_method_46_code 46 = .ok (.aload_n 0, 1) := by decide +kernel
theorem dMo_forget_47 : decode prog_13_method_46_code 47 = .ok (.getfield 21, 3) := by decide +kernel
theorem dMo_forget_50 : decode prog_13_method_46_code 50 = .ok (.iload_n 2, 1) := by decide +kernel
theorem dMo_forget_51 : decode prog_13_method_46_code 51 = .ok (.baload, 1) := by decide +kernel
theorem dMo_forget_52 : decode prog_13_method_46_code 52 = .ok (.invokestatic 31, 3) := by decide +kernel
theorem dMo_forget_55 : decode prog_13_method_46_code 55 = .ok (.ifCond .eq 9, 3) := by decide +kernel
theorem dMo_forget_58 : decode prog_13_method_46_code 58 = .ok (.iinc 2 1, 3) := by decide +kernel
theorem dMo_forget_61 : decode prog_13_method_46_code 61 = .ok (.goto (-45), 3) := by decide +kernel
theorem dMo_forget_64 : decode prog_13_method_46_code 64 = .ok (.iload_n 2, 1) := by decide +kernel
theorem dMo_forget_65 : decode prog_13_method_46_code 65 = .ok (.aload_n 0, 1) := by decide +kernel
theorem dMo_forget_66 : decode prog_13_method_46_code 66 = .ok (.getfield 18, 3) := by decide +kernel
theorem dMo_forget_69 : decode prog_13_method_46_code 69 = .ok (.if_icmp .lt 10, 3) := by decide +kernel
theorem dMo_forget_72 : decode prog_13_method_46_code 72 = .ok (.aload_n 0, 1) := by decide +kernel
theorem dMo_forget_73 : decode prog_13_method_46_code 73 = .ok (.getfield 18, 3) := by decide +kernel
theorem dMo_forget_76 : decode prog_13_method_46_code 76 = .ok (.ifCond .ne 8, 3) := by decide +kernel
theorem dMo_forget_79 : decode prog_13_method_46_code 79 = .ok (.iload_n 2, 1) := by decide +kernel
theorem dMo_forget_80 : decode prog_13_method_46_code 80 = .ok (.invokestatic 155, 3) := by decide +kernel
theorem dMo_forget_83 : decode prog_13_method_46_code 83 = .ok (.ireturn, 1) := by decide +kernel
theorem dMo_forget_84 : decode prog_13_method_46_code 84 = .ok (.iconst (-1), 1) := by decide +kernel
theorem dMo_forget_85 : decode prog_13_method_46_code 85 = .ok (.istore_n 3, 1) := by decide +kernel
theorem dMo_forget_86 : decode prog_13_method_46_code 86 = .ok (.iconst 0, 1) := by decide +kernel
theorem dMo_forget_87 : decode prog_13_method_46_code 87 = .ok (.istore 4, 2) := by decide +kernel
theorem dMo_forget_89 : decode prog_13_method_46_code 89 = .ok (.iconst 0, 1) := by decide +kernel
theorem dMo_forget_90 : decode prog_13_method_46_code 90 = .ok (.istore 5, 2) := by decide +kernel
theorem dMo_forget_92 : decode prog_13_method_46_code 92 = .ok (.iload 5, 2) := by decide +kernel
theorem dMo_forget_94 : decode prog_13_method_46_code 94 = .ok (.aload_n 0, 1) := by decide +kernel
theorem dMo_forget_95 : decode prog_13_method_46_code 95 = .ok (.getfield 196, 3) := by decide +kernel
theorem dMo_forget_98 : decode prog_13_method_46_code 98 = .ok (.if_icmp .ge 56, 3) := by decide +kernel
theorem dMo_forget_101 : decode prog_13_method_46_code 101 = .ok (.aload_n 0, 1) := by decide +kernel
theorem dMo_forget_102 : decode prog_13_method_46_code 102 = .ok (.getfield 199, 3) := by decide +kernel
theorem dMo_forget_105 : decode prog_13_method_46_code 105 = .ok (.iload 5, 2) := by decide +kernel
theorem dMo_forget_107 : decode prog_13_method_46_code 107 = .ok (.iaload, 1) := by decide +kernel
theorem dMo_forget_108 : decode prog_13_method_46_code 108 = .ok (.aload_n 0, 1) := by decide +kernel
theorem dMo_forget_109 : decode prog_13_method_46_code 109 = .ok (.getfield 18, 3) := by decide +kernel
theorem dMo_forget_112 : decode prog_13_method_46_code 112 = .ok (.if_icmp .ne 36, 3) := by decide +kernel
theorem dMo_forget_115 : decode prog_13_method_46_code 115 = .ok (.aload_n 0, 1) := by decide +kernel
theorem dMo_forget_116 : decode prog_13_method_46_code 116 = .ok (.getfield 202, 3) := by decide +kernel
theorem dMo_forget_119 : decode prog_13_method_46_code 119 = .ok (.bipush 24, 2) := by decide +kernel
theorem dMo_forget_121 : decode prog_13_method_46_code 121 = .ok (.iload 5, 2) := by decide +kernel
theorem dMo_forget_123 : decode prog_13_method_46_code 123 = .ok (.imul, 1) := by decide +kernel
theorem dMo_forget_124 : decode prog_13_method_46_code 124 = .ok (.aload_n 0, 1) := by decide +kernel
theorem dMo_forget_125 : decode prog_13_method_46_code 125 = .ok (.getfield 21, 3) := by decide +kernel
theorem dMo_forget_128 : decode prog_13_method_46_code 128 = .ok (.iconst 0, 1) := by decide +kernel
theorem dMo_forget_129 : decode prog_13_method_46_code 129 = .ok (.aload_n 0, 1) := by decide +kernel
theorem dMo_forget_130 : decode prog_13_method_46_code 130 = .ok (.getfield 18, 3) := by decide +kernel
theorem dMo_forget_133 : decode prog_13_method_46_code 133 = .ok (.invokestatic 46, 3) := by decide +kernel
theorem dMo_forget_136 : decode prog_13_method_46_code 136 = .ok (.ifCond .ne 6, 3) := by decide +kernel
theorem dMo_forget_139 : decode prog_13_method_46_code 139 = .ok (.goto 9, 3) := by decide +kernel
theorem dMo_forget_142 : decode prog_13_method_46_code 142 = .ok (.iload 5, 2) := by decide +kernel
theorem dMo_forget_144 : decode prog_13_method_46_code 144 = .ok (.istore_n 3, 1) := by decide +kernel
theorem dMo_forget_145 : decode prog_13_method_46_code 145 = .ok (.iinc 4 1, 3) := by decide +kernel
theorem dMo_forget_148 : decode prog_13_method_46_code 148 = .ok (.iinc 5 1, 3) := by decide +kernel
theorem dMo_forget_151 : decode prog_13_method_46_code 151 = .ok (.goto (-59), 3) := by decide +kernel
theorem dMo_forget_154 : decode prog_13_method_46_code 154 = .ok (.iload_n 3, 1) := by decide +kernel
theorem dMo_forget_155 : decode prog_13_method_46_code 155 = .ok (.iconst (-1), 1) := by decide +kernel
theorem dMo_forget_156 : decode prog_13_method_46_code 156 = .ok (.if_icmp .ne 5, 3) := by decide +kernel
theorem dMo_forget_159 : decode prog_13_method_46_code 159 = .ok (.iconst (-1), 1) := by decide +kernel
theorem dMo_forget_160 : decode prog_13_method_46_code 160 = .ok (.ireturn, 1) := by decide +kernel
theorem dMo_forget_161 : decode prog_13_method_46_code 161 = .ok (.aload_n 0, 1) := by decide +kernel
theorem dMo_forget_162 : decode prog_13_method_46_code 162 = .ok (.dup, 1) := by decide +kernel
theorem dMo_forget_163 : decode prog_13_method_46_code 163 = .ok (.getfield 196, 3) := by decide +kernel
theorem dMo_forget_166 : decode prog_13_method_46_code 166 = .ok (.iconst 1, 1) := by decide +kernel
theorem dMo_forget_167 : decode prog_13_method_46_code 167 = .ok (.isub, 1) := by decide +kernel
theorem dMo_forget_168 : decode prog_13_method_46_code 168 = .ok (.putfield 196, 3) := by decide +kernel
theorem dMo_forget_171 : decode prog_13_method_46_code 171 = .ok (.iload_n 3, 1) := by decide +kernel
theorem dMo_forget_172 : decode prog_13_method_46_code 172 = .ok (.istore 5, 2) := by decide +kernel
theorem dMo_forget_174 : decode prog_13_method_46_code 174 = .ok (.iload 5, 2) := by decide +kernel
theorem dMo_forget_176 : decode prog_13_method_46_code 176 = .ok (.aload_n 0, 1) := by decide +kernel
theorem dMo_forget_177 : decode prog_13_method_46_code 177 = .ok (.getfield 196, 3) := by decide +kernel
theorem dMo_forget_180 : decode prog_13_method_46_code 180 = .ok (.if_icmp .ge 101, 3) := by decide +kernel
theorem dMo_forget_183 : decode prog_13_method_46_code 183 = .ok (.aload_n 0, 1) := by decide +kernel
theorem dMo_forget_184 : decode prog_13_method_46_code 184 = .ok (.getfield 199, 3) := by decide +kernel
theorem dMo_forget_187 : decode prog_13_method_46_code 187 = .ok (.iload 5, 2) := by decide +kernel
theorem dMo_forget_189 : decode prog_13_method_46_code 189 = .ok (.aload_n 0, 1) := by decide +kernel
theorem dMo_forget_190 : decode prog_13_method_46_code 190 = .ok (.getfield 199, 3) := by decide +kernel
theorem dMo_forget_193 : decode prog_13_method_46_code 193 = .ok (.iload 5, 2) := by decide +kernel
theorem dMo_forget_195 : decode prog_13_method_46_code 195 = .ok (.iconst 1, 1) := by decide +kernel
theorem dMo_forget_196 : decode prog_13_method_46_code 196 = .ok (.iadd, 1) := by decide +kernel
theorem dMo_forget_197 : decode prog_13_method_46_code 197 = .ok (.iaload, 1) := by decide +kernel
theorem dMo_forget_198 : decode prog_13_method_46_code 198 = .ok (.iastore, 1) := by decide +kernel
theorem dMo_forget_199 : decode prog_13_method_46_code 199 = .ok (.aload_n 0, 1) := by decide +kernel
theorem dMo_forget_200 : decode prog_13_method_46_code 200 = .ok (.getfield 205, 3) := by decide +kernel
theorem dMo_forget_203 : decode prog_13_method_46_code 203 = .ok (.iload 5, 2) := by decide +kernel
theorem dMo_forget_205 : decode prog_13_method_46_code 205 = .ok (.aload_n 0, 1) := by decide +kernel
theorem dMo_forget_206 : decode prog_13_method_46_code 206 = .ok (.getfield 205, 3) := by decide +kernel
theorem dMo_forget_209 : decode prog_13_method_46_code 209 = .ok (.iload 5, 2) := by decide +kernel
theorem dMo_forget_211 : decode prog_13_method_46_code 211 = .ok (.iconst 1, 1) := by decide +kernel
theorem dMo_forget_212 : decode prog_13_method_46_code 212 = .ok (.iadd, 1) := by decide +kernel
theorem dMo_forget_213 : decode prog_13_method_46_code 213 = .ok (.iaload, 1) := by decide +kernel
theorem dMo_forget_214 : decode prog_13_method_46_code 214 = .ok (.iastore, 1) := by decide +kernel
theorem dMo_forget_215 : decode prog_13_method_46_code 215 = .ok (.aload_n 0, 1) := by decide +kernel
theorem dMo_forget_216 : decode prog_13_method_46_code 216 = .ok (.getfield 208, 3) := by decide +kernel
theorem dMo_forget_219 : decode prog_13_method_46_code 219 = .ok (.iload 5, 2) := by decide +kernel
theorem dMo_forget_221 : decode prog_13_method_46_code 221 = .ok (.aload_n 0, 1) := by decide +kernel
theorem dMo_forget_222 : decode prog_13_method_46_code 222 = .ok (.getfield 208, 3) := by decide +kernel
theorem dMo_forget_225 : decode prog_13_method_46_code 225 = .ok (.iload 5, 2) := by decide +kernel
theorem dMo_forget_227 : decode prog_13_method_46_code 227 = .ok (.iconst 1, 1) := by decide +kernel
theorem dMo_forget_228 : decode prog_13_method_46_code 228 = .ok (.iadd, 1) := by decide +kernel
theorem dMo_forget_229 : decode prog_13_method_46_code 229 = .ok (.iaload, 1) := by decide +kernel
theorem dMo_forget_230 : decode prog_13_method_46_code 230 = .ok (.iastore, 1) := by decide +kernel
theorem dMo_forget_231 : decode prog_13_method_46_code 231 = .ok (.iconst 0, 1) := by decide +kernel
theorem dMo_forget_232 : decode prog_13_method_46_code 232 = .ok (.istore 6, 2) := by decide +kernel
theorem dMo_forget_234 : decode prog_13_method_46_code 234 = .ok (.iload 6, 2) := by decide +kernel
theorem dMo_forget_236 : decode prog_13_method_46_code 236 = .ok (.bipush 24, 2) := by decide +kernel
theorem dMo_forget_238 : decode prog_13_method_46_code 238 = .ok (.if_icmp .ge 37, 3) := by decide +kernel
theorem dMo_forget_241 : decode prog_13_method_46_code 241 = .ok (.aload_n 0, 1) := by decide +kernel
theorem dMo_forget_242 : decode prog_13_method_46_code 242 = .ok (.getfield 202, 3) := by decide +kernel
theorem dMo_forget_245 : decode prog_13_method_46_code 245 = .ok (.bipush 24, 2) := by decide +kernel
theorem dMo_forget_247 : decode prog_13_method_46_code 247 = .ok (.iload 5, 2) := by decide +kernel
theorem dMo_forget_249 : decode prog_13_method_46_code 249 = .ok (.imul, 1) := by decide +kernel
theorem dMo_forget_250 : decode prog_13_method_46_code 250 = .ok (.iload 6, 2) := by decide +kernel
theorem dMo_forget_252 : decode prog_13_method_46_code 252 = .ok (.iadd, 1) := by decide +kernel
theorem dMo_forget_253 : decode prog_13_method_46_code 253 = .ok (.aload_n 0, 1) := by decide +kernel
theorem dMo_forget_254 : decode prog_13_method_46_code 254 = .ok (.getfield 202, 3) := by decide +kernel
theorem dMo_forget_257 : decode prog_13_method_46_code 257 = .ok (.bipush 24, 2) := by decide +kernel
theorem dMo_forget_259 : decode prog_13_method_46_code 259 = .ok (.iload 5, 2) := by decide +kernel
theorem dMo_forget_261 : decode prog_13_method_46_code 261 = .ok (.iconst 1, 1) := by decide +kernel
theorem dMo_forget_262 : decode prog_13_method_46_code 262 = .ok (.iadd, 1) := by decide +kernel
theorem dMo_forget_263 : decode prog_13_method_46_code 263 = .ok (.imul, 1) := by decide +kernel
theorem dMo_forget_264 : decode prog_13_method_46_code 264 = .ok (.iload 6, 2) := by decide +kernel
theorem dMo_forget_266 : decode prog_13_method_46_code 266 = .ok (.iadd, 1) := by decide +kernel
theorem dMo_forget_267 : decode prog_13_method_46_code 267 = .ok (.baload, 1) := by decide +kernel
theorem dMo_forget_268 : decode prog_13_method_46_code 268 = .ok (.bastore, 1) := by decide +kernel
theorem dMo_forget_269 : decode prog_13_method_46_code 269 = .ok (.iinc 6 1, 3) := by decide +kernel
theorem dMo_forget_272 : decode prog_13_method_46_code 272 = .ok (.goto (-38), 3) := by decide +kernel
theorem dMo_forget_275 : decode prog_13_method_46_code 275 = .ok (.iinc 5 1, 3) := by decide +kernel
theorem dMo_forget_278 : decode prog_13_method_46_code 278 = .ok (.goto (-104), 3) := by decide +kernel
theorem dMo_forget_281 : decode prog_13_method_46_code 281 = .ok (.iload 4, 2) := by decide +kernel
theorem dMo_forget_283 : decode prog_13_method_46_code 283 = .ok (.iconst 1, 1) := by decide +kernel
theorem dMo_forget_284 : decode prog_13_method_46_code 284 = .ok (.isub, 1) := by decide +kernel
theorem dMo_forget_285 : decode prog_13_method_46_code 285 = .ok (.ireturn, 1) := by decide +kernel
theorem dMo_write_0 : decode prog_13_method_47_code 0 = .ok (.iload_n 1, 1) := by decide +kernel
theorem dMo_write_1 : decode prog_13_method_47_code 1 = .ok (.ifCond .lt 8, 3) := by decide +kernel
theorem dMo_write_4 : decode prog_13_method_47_code 4 = .ok (.iload_n 1, 1) := by decide +kernel
theorem dMo_write_5 : decode prog_13_method_47_code 5 = .ok (.iconst 3, 1) := by decide +kernel
theorem dMo_write_6 : decode prog_13_method_47_code 6 = .ok (.if_icmp .le 5, 3) := by decide +kernel
theorem dMo_write_9 : decode prog_13_method_47_code 9 = .ok (.iconst (-1), 1) := by decide +kernel
theorem dMo_write_10 : decode prog_13_method_47_code 10 = .ok (.ireturn, 1) := by decide +kernel
theorem dMo_write_11 : decode prog_13_method_47_code 11 = .ok (.aload_n 0, 1) := by decide +kernel
theorem dMo_write_12 : decode prog_13_method_47_code 12 = .ok (.iconst 0, 1) := by decide +kernel
theorem dMo_write_13 : decode prog_13_method_47_code 13 = .ok (.putfield 1, 3) := by decide +kernel
theorem dMo_write_16 : decode prog_13_method_47_code 16 = .ok (.iload_n 1, 1) := by decide +kernel
theorem dMo_write_17 : decode prog_13_method_47_code 17 = .ok (.iconst 2, 1) := by decide +kernel
theorem dMo_write_18 : decode prog_13_method_47_code 18 = .ok (.if_icmp .ne 19, 3) := by decide +kernel
theorem dMo_write_21 : decode prog_13_method_47_code 21 = .ok (.aload_n 0, 1) := by decide +kernel
theorem dMo_write_22 : decode prog_13_method_47_code 22 = .ok (.aload_n 0, 1) := by decide +kernel
theorem dMo_write_23 : decode prog_13_method_47_code 23 = .ok (.getfield 211, 3) := by decide +kernel
theorem dMo_write_26 : decode prog_13_method_47_code 26 = .ok (.iconst 0, 1) := by decide +kernel
theorem dMo_write_27 : decode prog_13_method_47_code 27 = .ok (.aload_n 0, 1) := by decide +kernel
theorem dMo_write_28 : decode prog_13_method_47_code 28 = .ok (.getfield 214, 3) := by decide +kernel
theorem dMo_write_31 : decode prog_13_method_47_code 31 = .ok (.invokevirtual 108, 3) := by decide +kernel
theorem dMo_write_34 : decode prog_13_method_47_code 34 = .ok (.goto 53, 3) := by decide +kernel
theorem dMo_write_37 : decode prog_13_method_47_code 37 = .ok (.iload_n 1, 1) := by decide +kernel
theorem dMo_write_38 : decode prog_13_method_47_code 38 = .ok (.ifCond .ne 11, 3) := by decide +kernel
theorem dMo_write_41 : decode prog_13_method_47_code 41 = .ok (.aload_n 0, 1) := by decide +kernel
theorem dMo_write_42 : decode prog_13_method_47_code 42 = .ok (.iconst 1, 1) := by decide +kernel
theorem dMo_write_43 : decode prog_13_method_47_code 43 = .ok (.invokevirtual 271, 3) := by decide +kernel
theorem dMo_write_46 : decode prog_13_method_47_code 46 = .ok (.goto 41, 3) := by decide +kernel
theorem dMo_write_49 : decode prog_13_method_47_code 49 = .ok (.iload_n 1, 1) := by decide +kernel
theorem dMo_write_50 : decode prog_13_method_47_code 50 = .ok (.iconst 1, 1) := by decide +kernel
theorem dMo_write_51 : decode prog_13_method_47_code 51 = .ok (.if_icmp .ne 18, 3) := by decide +kernel
theorem dMo_write_54 : decode prog_13_method_47_code 54 = .ok (.aload_n 0, 1) := by decide +kernel
theorem dMo_write_55 : decode prog_13_method_47_code 55 = .ok (.getfield 248, 3) := by decide +kernel
theorem dMo_write_58 : decode prog_13_method_47_code 58 = .ok (.ifCond .le 11, 3) := by decide +kernel
theorem dMo_write_61 : decode prog_13_method_47_code 61 = .ok (.aload_n 0, 1) := by decide +kernel
theorem dMo_write_62 : decode prog_13_method_47_code 62 = .ok (.iconst 2, 1) := by decide +kernel
theorem dMo_write_63 : decode prog_13_method_47_code 63 = .ok (.invokevirtual 271, 3) := by decide +kernel
theorem dMo_write_66 : decode prog_13_method_47_code 66 = .ok (.goto 21, 3) := by decide +kernel
theorem dMo_write_69 : decode prog_13_method_47_code 69 = .ok (.iload_n 1, 1) := by decide +kernel
theorem dMo_write_70 : decode prog_13_method_47_code 70 = .ok (.iconst 3, 1) := by decide +kernel
theorem dMo_write_71 : decode prog_13_method_47_code 71 = .ok (.if_icmp .ne 16, 3) := by decide +kernel
theorem dMo_write_74 : decode prog_13_method_47_code 74 = .ok (.aload_n 0, 1) := by decide +kernel
theorem dMo_write_75 : decode prog_13_method_47_code 75 = .ok (.getfield 277, 3) := by decide +kernel
theorem dMo_write_78 : decode prog_13_method_47_code 78 = .ok (.ifCond .eq 9, 3) := by decide +kernel
theorem dMo_write_81 : decode prog_13_method_47_code 81 = .ok (.aload_n 0, 1) := by decide +kernel
theorem dMo_write_82 : decode prog_13_method_47_code 82 = .ok (.bipush 26, 2) := by decide +kernel
theorem dMo_write_84 : decode prog_13_method_47_code 84 = .ok (.invokevirtual 271, 3) := by decide +kernel
theorem dMo_write_87 : decode prog_13_method_47_code 87 = .ok (.aload_n 0, 1) := by decide +kernel
theorem dMo_write_88 : decode prog_13_method_47_code 88 = .ok (.getfield 1, 3) := by decide +kernel
theorem dMo_write_91 : decode prog_13_method_47_code 91 = .ok (.ireturn, 1) := by decide +kernel
theorem dMo_count_0 : decode prog_13_method_48_code 0 = .ok (.iload_n 1, 1) := by decide +kernel
theorem dMo_count_1 : decode prog_13_method_48_code 1 = .ok (.tableswitch 121 0 7 #[47, 52, 57, 62, 67, 72, 88, 101], 47) := by decide +kernel
theorem dMo_count_48 : decode prog_13_method_48_code 48 = .ok (.aload_n 0, 1) := by decide +kernel
theorem dMo_count_49 : decode prog_13_method_48_code 49 = .ok (.getfield 165, 3) := by decide +kernel
theorem dMo_count_52 : decode prog_13_method_48_code 52 = .ok (.ireturn, 1) := by decide +kernel
theorem dMo_count_53 : decode prog_13_method_48_code 53 = .ok (.aload_n 0, 1) := by decide +kernel
theorem dMo_count_54 : decode prog_13_method_48_code 54 = .ok (.getfield 196, 3) := by decide +kernel
theorem dMo_count_57 : decode prog_13_method_48_code 57 = .ok (.ireturn, 1) := by decide +kernel
theorem dMo_count_58 : decode prog_13_method_48_code 58 = .ok (.aload_n 0, 1) := by decide +kernel
theorem dMo_count_59 : decode prog_13_method_48_code 59 = .ok (.getfield 220, 3) := by decide +kernel
theorem dMo_count_62 : decode prog_13_method_48_code 62 = .ok (.ireturn, 1) := by decide +kernel
theorem dMo_count_63 : decode prog_13_method_48_code 63 = .ok (.aload_n 0, 1) := by decide +kernel
theorem dMo_count_64 : decode prog_13_method_48_code 64 = .ok (.getfield 248, 3) := by decide +kernel
theorem dMo_count_67 : decode prog_13_method_48_code 67 = .ok (.ireturn, 1) := by decide +kernel
theorem dMo_count_68 : decode prog_13_method_48_code 68 = .ok (.aload_n 0, 1) := by decide +kernel
theorem dMo_count_69 : decode prog_13_method_48_code 69 = .ok (.getfield 229, 3) := by decide +kernel
theorem dMo_count_72 : decode prog_13_method_48_code 72 = .ok (.ireturn, 1) := by decide +kernel
theorem dMo_count_73 : decode prog_13_method_48_code 73 = .ok (.aload_n 0, 1) := by decide +kernel
theorem dMo_count_74 : decode prog_13_method_48_code 74 = .ok (.getfield 277, 3) := by decide +kernel
theorem dMo_count_77 : decode prog_13_method_48_code 77 = .ok (.ifCond .eq 10, 3) := by decide +kernel
theorem dMo_count_80 : decode prog_13_method_48_code 80 = .ok (.aload_n 0, 1) := by decide +kernel
theorem dMo_count_81 : decode prog_13_method_48_code 81 = .ok (.getfield 235, 3) := by decide +kernel
theorem dMo_count_84 : decode prog_13_method_48_code 84 = .ok (.goto 4, 3) := by decide +kernel
theorem dMo_count_87 : decode prog_13_method_48_code 87 = .ok (.iconst 0, 1) := by decide +kernel
theorem dMo_count_88 : decode prog_13_method_48_code 88 = .ok (.ireturn, 1) := by decide +kernel
theorem dMo_count_89 : decode prog_13_method_48_code 89 = .ok (.aload_n 0, 1) := by decide +kernel
theorem dMo_count_90 : decode prog_13_method_48_code 90 = .ok (.getfield 283, 3) := by decide +kernel
theorem dMo_count_93 : decode prog_13_method_48_code 93 = .ok (.ifCond .eq 7, 3) := by decide +kernel
theorem dMo_count_96 : decode prog_13_method_48_code 96 = .ok (.iconst 1, 1) := by decide +kernel
theorem dMo_count_97 : decode prog_13_method_48_code 97 = .ok (.goto 4, 3) := by decide +kernel
theorem dMo_count_100 : decode prog_13_method_48_code 100 = .ok (.iconst 0, 1) := by decide +kernel
theorem dMo_count_101 : decode prog_13_method_48_code 101 = .ok (.ireturn, 1) := by decide +kernel
theorem dMo_count_102 : decode prog_13_method_48_code 102 = .ok (.aload_n 0, 1) := by decide +kernel
theorem dMo_count_103 : decode prog_13_method_48_code 103 = .ok (.getfield 277, 3) := by decide +kernel
theorem dMo_count_106 : decode prog_13_method_48_code 106 = .ok (.ifCond .eq 14, 3) := by decide +kernel
theorem dMo_count_109 : decode prog_13_method_48_code 109 = .ok (.aload_n 0, 1) := by decide +kernel
theorem dMo_count_110 : decode prog_13_method_48_code 110 = .ok (.getfield 241, 3) := by decide +kernel
theorem dMo_count_113 : decode prog_13_method_48_code 113 = .ok (.ifCond .eq 7, 3) := by decide +kernel
theorem dMo_count_116 : decode prog_13_method_48_code 116 = .ok (.iconst 1, 1) := by decide +kernel
theorem dMo_count_117 : decode prog_13_method_48_code 117 = .ok (.goto 4, 3) := by decide +kernel
theorem dMo_count_120 : decode prog_13_method_48_code 120 = .ok (.iconst 0, 1) := by decide +kernel
theorem dMo_count_121 : decode prog_13_method_48_code 121 = .ok (.ireturn, 1) := by decide +kernel
theorem dMo_count_122 : decode prog_13_method_48_code 122 = .ok (.iconst (-1), 1) := by decide +kernel
theorem dMo_count_123 : decode prog_13_method_48_code 123 = .ok (.ireturn, 1) := by decide +kernel
theorem zk_Mo_151 : zLkV "NetDeskModel" 151 13 M_Mo_take 0 := ⟨zc_Mo_take, ⟨_, _, _, rfl, Or.inl (zsel 18 rfl)⟩, zt5 60 rfl, Or.inl (zt5 58 rfl)⟩
theorem zk_Mo_155 : zLkS "NetDeskModel" 155 M_Mo_wrong 1 := ⟨zc_Mo_wrong, zt5 64 rfl, Or.inl (zt5 63 rfl)⟩
theorem zk_Mo_158 : zLkV "NetDeskModel" 158 13 M_Mo_tokenEnd 1 := ⟨zc_Mo_tokenEnd, ⟨_, _, _, rfl, Or.inl (zsel 19 rfl)⟩, zt5 68 rfl, Or.inl (zt5 66 rfl)⟩
theorem zf_Mo_21 : zFl "NetDeskModel" 21 13 2 := ⟨_, _, _, "NetDeskModel", rfl, Nat.le_of_ble_eq_true rfl, in_Mo, Or.inl (zt5 154 rfl), Or.inl rfl⟩
theorem zk_Mo_144 : zLkV "NetDeskModel" 144 13 M_Mo_refer 4 := ⟨zc_Mo_refer, ⟨_, _, _, rfl, Or.inl (zsel 20 rfl)⟩, zt5 75 rfl, Or.inl (zt5 73 rfl)⟩
theorem zf_Mo_43 : zFl "NetDeskModel" 43 13 8 := ⟨_, _, _, "NetDeskModel", rfl, Nat.le_of_ble_eq_true rfl, in_Mo, Or.inl (zt5 160 rfl), Or.inl rfl⟩
theorem zk_Mo_148 : zLkV "NetDeskModel" 148 13 M_Mo_copyRow 2 := ⟨zc_Mo_copyRow, ⟨_, _, _, rfl, Or.inl (zsel 29 rfl)⟩, zt5 126 rfl, Or.inl (zt5 124 rfl)⟩
theorem zf_Mo_125 : zFl "NetDeskModel" 125 13 38 := ⟨_, _, _, "NetDeskModel", rfl, Nat.le_of_ble_eq_true rfl, in_Mo, Or.inl (zt5 189 rfl), Or.inl rfl⟩
theorem zp_Mo_server_125 : zPf M_Mo_server 125 13 38 .int := ⟨zf_Mo_125, _, _, _, ty_Mo, rfl, tyok_Mo, nm_Mo, rfl, Or.inl rfl⟩
theorem zf_Mo_130 : zFl "NetDeskModel" 130 13 39 := ⟨_, _, _, "NetDeskModel", rfl, Nat.le_of_ble_eq_true rfl, in_Mo, Or.inl (zt5 190 rfl), Or.inl rfl⟩
theorem zp_Mo_server_130 : zPf M_Mo_server 130 13 39 .int := ⟨zf_Mo_130, _, _, _, ty_Mo, rfl, tyok_Mo, nm_Mo, rfl, Or.inl rfl⟩
theorem zf_Mo_141 : zFl "NetDeskModel" 141 13 41 := ⟨_, _, _, "NetDeskModel", rfl, Nat.le_of_ble_eq_true rfl, in_Mo, Or.inl (zt5 192 rfl), Or.inl rfl⟩
theorem zp_Mo_server_141 : zPf M_Mo_server 141 13 41 .int := ⟨zf_Mo_141, _, _, _, ty_Mo, rfl, tyok_Mo, nm_Mo, rfl, Or.inl rfl⟩
theorem zf_Mo_120 : zFl "NetDeskModel" 120 13 42 := ⟨_, _, _, "NetDeskModel", rfl, Nat.le_of_ble_eq_true rfl, in_Mo, Or.inl (zt5 193 rfl), Or.inl rfl⟩
theorem zp_Mo_server_120 : zPf M_Mo_server 120 13 42 .int := ⟨zf_Mo_120, _, _, _, ty_Mo, rfl, tyok_Mo, nm_Mo, rfl, Or.inl rfl⟩
theorem zf_Mo_18 : zFl "NetDeskModel" 18 13 3 := ⟨_, _, _, "NetDeskModel", rfl, Nat.le_of_ble_eq_true rfl, in_Mo, Or.inl (zt5 155 rfl), Or.inl rfl⟩
theorem zk_Mo_161 : zLkV "NetDeskModel" 161 13 M_Mo_field 2 := ⟨zc_Mo_field, ⟨_, _, _, rfl, Or.inl (zsel 30 rfl)⟩, zt5 130 rfl, Or.inl (zt5 128 rfl)⟩
theorem zf_Mo_165 : zFl "NetDeskModel" 165 13 16 := ⟨_, _, _, "NetDeskModel", rfl, Nat.le_of_ble_eq_true rfl, in_Mo, Or.inl (zt5 167 rfl), Or.inl rfl⟩
theorem zk_Mo_168 : zLkV "NetDeskModel" 168 13 M_Mo_alike 2 := ⟨zc_Mo_alike, ⟨_, _, _, rfl, Or.inl (zsel 31 rfl)⟩, zt5 142 rfl, Or.inl (zt5 140 rfl)⟩
theorem zp_Mo_server_165 : zPf M_Mo_server 165 13 16 .int := ⟨zf_Mo_165, _, _, _, ty_Mo, rfl, tyok_Mo, nm_Mo, rfl, Or.inl rfl⟩
theorem zf_Mo_171 : zFl "NetDeskModel" 171 13 18 := ⟨_, _, _, "NetDeskModel", rfl, Nat.le_of_ble_eq_true rfl, in_Mo, Or.inl (zt5 169 rfl), Or.inl rfl⟩
theorem zf_Mo_174 : zFl "NetDeskModel" 174 13 17 := ⟨_, _, _, "NetDeskModel", rfl, Nat.le_of_ble_eq_true rfl, in_Mo, Or.inl (zt5 168 rfl), Or.inl rfl⟩
theorem zf_Mo_177 : zFl "NetDeskModel" 177 13 19 := ⟨_, _, _, "NetDeskModel", rfl, Nat.le_of_ble_eq_true rfl, in_Mo, Or.inl (zt5 170 rfl), Or.inl rfl⟩
theorem zf_Mo_180 : zFl "NetDeskModel" 180 13 21 := ⟨_, _, _, "NetDeskModel", rfl, Nat.le_of_ble_eq_true rfl, in_Mo, Or.inl (zt5 172 rfl), Or.inl rfl⟩
theorem zf_Mo_183 : zFl "NetDeskModel" 183 13 22 := ⟨_, _, _, "NetDeskModel", rfl, Nat.le_of_ble_eq_true rfl, in_Mo, Or.inl (zt5 173 rfl), Or.inl rfl⟩
theorem zf_Mo_133 : zFl "NetDeskModel" 133 13 40 := ⟨_, _, _, "NetDeskModel", rfl, Nat.le_of_ble_eq_true rfl, in_Mo, Or.inl (zt5 191 rfl), Or.inl rfl⟩
theorem zf_Mo_186 : zFl "NetDeskModel" 186 13 20 := ⟨_, _, _, "NetDeskModel", rfl, Nat.le_of_ble_eq_true rfl, in_Mo, Or.inl (zt5 171 rfl), Or.inl rfl⟩
theorem zf_Mo_136 : zFl "NetDeskModel" 136 13 43 := ⟨_, _, _, "NetDeskModel", rfl, Nat.le_of_ble_eq_true rfl, in_Mo, Or.inl (zt5 194 rfl), Or.inl rfl⟩
theorem zf_Mo_189 : zFl "NetDeskModel" 189 13 23 := ⟨_, _, _, "NetDeskModel", rfl, Nat.le_of_ble_eq_true rfl, in_Mo, Or.inl (zt5 174 rfl), Or.inl rfl⟩
theorem zf_Mo_193 : zFl "NetDeskModel" 193 13 24 := ⟨_, _, _, "NetDeskModel", rfl, Nat.le_of_ble_eq_true rfl, in_Mo, Or.inl (zt5 175 rfl), Or.inl rfl⟩
theorem zf_Mo_15 : zFl "NetDeskModel" 15 13 1 := ⟨_, _, _, "NetDeskModel", rfl, Nat.le_of_ble_eq_true rfl, in_Mo, Or.inl (zt5 153 rfl), Or.inl rfl⟩
theorem zp_Mo_take_18 : zPf M_Mo_take 18 13 3 .int := ⟨zf_Mo_18, _, _, _, ty_Mo, rfl, tyok_Mo, nm_Mo, rfl, Or.inl rfl⟩
theorem zf_Mo_24 : zFl "NetDeskModel" 24 13 0 := ⟨_, _, _, "NetDeskModel", rfl, Nat.le_of_ble_eq_true rfl, in_Mo, Or.inl (zt5 152 rfl), Or.inl rfl⟩
theorem zp_Mo_take_15 : zPf M_Mo_take 15 13 1 .int := ⟨zf_Mo_15, _, _, _, ty_Mo, rfl, tyok_Mo, nm_Mo, rfl, Or.inl rfl⟩
theorem zk_Mo_111 : zLkS "NetDeskModel" 111 M_Mo_isBlank 1 := ⟨zc_Mo_isBlank, zt5 71 rfl, Or.inl (zt5 70 rfl)⟩
theorem zf_Mo_61 : zFl "NetDeskModel" 61 13 12 := ⟨_, _, _, "NetDeskModel", rfl, Nat.le_of_ble_eq_true rfl, in_Mo, Or.inl (zt5 164 rfl), Or.inl rfl⟩
theorem zp_Mo_refer_61 : zPf M_Mo_refer 61 13 12 .int := ⟨zf_Mo_61, _, _, _, ty_Mo, rfl, tyok_Mo, nm_Mo, rfl, Or.inl rfl⟩
theorem zf_Mo_57 : zFl "NetDeskModel" 57 13 14 := ⟨_, _, _, "NetDeskModel", rfl, Nat.le_of_ble_eq_true rfl, in_Mo, Or.inl (zt5 165 rfl), Or.inl rfl⟩
theorem zp_Mo_refer_57 : zPf M_Mo_refer 57 13 14 .boolean := ⟨zf_Mo_57, _, _, _, ty_Mo, rfl, tyok_Mo, nm_Mo, rfl, Or.inl rfl⟩
theorem zf_Mo_73 : zFl "NetDeskModel" 73 13 15 := ⟨_, _, _, "NetDeskModel", rfl, Nat.le_of_ble_eq_true rfl, in_Mo, Or.inl (zt5 166 rfl), Or.inl rfl⟩
theorem zp_Mo_refer_73 : zPf M_Mo_refer 73 13 15 .int := ⟨zf_Mo_73, _, _, _, ty_Mo, rfl, tyok_Mo, nm_Mo, rfl, Or.inl rfl⟩
theorem zf_Mo_39 : zFl "NetDeskModel" 39 13 7 := ⟨_, _, _, "NetDeskModel", rfl, Nat.le_of_ble_eq_true rfl, in_Mo, Or.inl (zt5 159 rfl), Or.inl rfl⟩
theorem zk_Mo_87 : zLkS "NetDeskModel" 87 M_Mo_nameEnd 3 := ⟨zc_Mo_nameEnd, zt5 78 rfl, Or.inl (zt5 77 rfl)⟩
theorem zk_Mo_91 : zLkV "NetDeskModel" 91 13 M_Mo_put 2 := ⟨zc_Mo_put, ⟨_, _, _, rfl, Or.inl (zsel 21 rfl)⟩, zt5 88 rfl, Or.inl (zt5 86 rfl)⟩
theorem zk_Mo_95 : zLkV "NetDeskModel" 95 13 M_Mo_segments 2 := ⟨zc_Mo_segments, ⟨_, _, _, rfl, Or.inl (zsel 22 rfl)⟩, zt5 92 rfl, Or.inl (zt5 90 rfl)⟩
theorem zk_Mo_80 : zLkV "NetDeskModel" 80 13 M_Mo_segment 3 := ⟨zc_Mo_segment, ⟨_, _, _, rfl, Or.inl (zsel 24 rfl)⟩, zt5 103 rfl, Or.inl (zt5 101 rfl)⟩
theorem zk_Mo_50 : zLkV "NetDeskModel" 50 13 M_Mo_siteEnd 1 := ⟨zc_Mo_siteEnd, ⟨_, _, _, rfl, Or.inl (zsel 25 rfl)⟩, zt5 107 rfl, Or.inl (zt5 105 rfl)⟩
theorem zf_Mo_36 : zFl "NetDeskModel" 36 13 6 := ⟨_, _, _, "NetDeskModel", rfl, Nat.le_of_ble_eq_true rfl, in_Mo, Or.inl (zt5 158 rfl), Or.inl rfl⟩
theorem zk_Mo_54 : zLkS "NetDeskModel" 54 M_Mo_isSegment 1 := ⟨zc_Mo_isSegment, zt5 99 rfl, Or.inl (zt5 98 rfl)⟩
theorem zk_Mo_97 : zLkV "NetDeskModel" 97 13 M_Mo_baseSegments 2 := ⟨zc_Mo_baseSegments, ⟨_, _, _, rfl, Or.inl (zsel 26 rfl)⟩, zt5 111 rfl, Or.inl (zt5 109 rfl)⟩
theorem zk_Mo_76 : zLkV "NetDeskModel" 76 13 M_Mo_oneSegment 2 := ⟨zc_Mo_oneSegment, ⟨_, _, _, rfl, Or.inl (zsel 23 rfl)⟩, zt5 96 rfl, Or.inl (zt5 94 rfl)⟩
theorem zf_Mo_67 : zFl "NetDeskModel" 67 13 11 := ⟨_, _, _, "NetDeskModel", rfl, Nat.le_of_ble_eq_true rfl, in_Mo, Or.inl (zt5 163 rfl), Or.inl rfl⟩
theorem zf_Mo_70 : zFl "NetDeskModel" 70 13 9 := ⟨_, _, _, "NetDeskModel", rfl, Nat.le_of_ble_eq_true rfl, in_Mo, Or.inl (zt5 161 rfl), Or.inl rfl⟩
theorem zf_Mo_64 : zFl "NetDeskModel" 64 13 10 := ⟨_, _, _, "NetDeskModel", rfl, Nat.le_of_ble_eq_true rfl, in_Mo, Or.inl (zt5 162 rfl), Or.inl rfl⟩
theorem zk_Mo_101 : zLkV "NetDeskModel" 101 13 M_Mo_query 4 := ⟨zc_Mo_query, ⟨_, _, _, rfl, Or.inl (zsel 28 rfl)⟩, zt5 119 rfl, Or.inl (zt5 117 rfl)⟩
theorem zk_Mo_27 : zLkS "NetDeskModel" 27 M_Mo_isSmall 1 := ⟨zc_Mo_isSmall, zt5 81 rfl, Or.inl (zt5 80 rfl)⟩
theorem zk_Mo_31 : zLkS "NetDeskModel" 31 M_Mo_isDigit 1 := ⟨zc_Mo_isDigit, zt5 84 rfl, Or.inl (zt5 83 rfl)⟩
theorem zp_Mo_segments_73 : zPf M_Mo_segments 73 13 15 .int := ⟨zf_Mo_73, _, _, _, ty_Mo, rfl, tyok_Mo, nm_Mo, rfl, Or.inl rfl⟩
theorem zp_Mo_oneSegment_73 : zPf M_Mo_oneSegment 73 13 15 .int := ⟨zf_Mo_73, _, _, _, ty_Mo, rfl, tyok_Mo, nm_Mo, rfl, Or.inl rfl⟩
theorem zp_Mo_segment_57 : zPf M_Mo_segment 57 13 14 .boolean := ⟨zf_Mo_57, _, _, _, ty_Mo, rfl, tyok_Mo, nm_Mo, rfl, Or.inl rfl⟩
theorem zp_Mo_segment_61 : zPf M_Mo_segment 61 13 12 .int := ⟨zf_Mo_61, _, _, _, ty_Mo, rfl, tyok_Mo, nm_Mo, rfl, Or.inl rfl⟩
theorem zk_Mo_84 : zLkV "NetDeskModel" 84 13 M_Mo_queryAt 1 := ⟨zc_Mo_queryAt, ⟨_, _, _, rfl, Or.inl (zsel 27 rfl)⟩, zt5 115 rfl, Or.inl (zt5 113 rfl)⟩
theorem zk_Mo_105 : zLkS "NetDeskModel" 105 M_Mo_isQuery 1 := ⟨zc_Mo_isQuery, zt5 122 rfl, Or.inl (zt5 121 rfl)⟩
theorem zp_Mo_query_73 : zPf M_Mo_query 73 13 15 .int := ⟨zf_Mo_73, _, _, _, ty_Mo, rfl, tyok_Mo, nm_Mo, rfl, Or.inl rfl⟩
theorem zp_Mo_field_120 : zPf M_Mo_field 120 13 42 .int := ⟨zf_Mo_120, _, _, _, ty_Mo, rfl, tyok_Mo, nm_Mo, rfl, Or.inl rfl⟩
theorem zp_Mo_field_125 : zPf M_Mo_field 125 13 38 .int := ⟨zf_Mo_125, _, _, _, ty_Mo, rfl, tyok_Mo, nm_Mo, rfl, Or.inl rfl⟩
theorem zp_Mo_field_130 : zPf M_Mo_field 130 13 39 .int := ⟨zf_Mo_130, _, _, _, ty_Mo, rfl, tyok_Mo, nm_Mo, rfl, Or.inl rfl⟩
theorem zp_Mo_field_133 : zPf M_Mo_field 133 13 40 .int := ⟨zf_Mo_133, _, _, _, ty_Mo, rfl, tyok_Mo, nm_Mo, rfl, Or.inl rfl⟩
theorem zp_Mo_field_141 : zPf M_Mo_field 141 13 41 .int := ⟨zf_Mo_141, _, _, _, ty_Mo, rfl, tyok_Mo, nm_Mo, rfl, Or.inl rfl⟩
theorem zk_Mo_46 : zLkS "NetDeskModel" 46 M_Mo_same 5 := ⟨zc_Mo_same, zt5 145 rfl, Or.inl (zt5 144 rfl)⟩
theorem zp_Mo_init_24 : zPf M_Mo_init 24 13 0 (.array .byte) := ⟨zf_Mo_24, _, _, _, ty_Mo, rfl, tyok_Mo, nm_Mo, rfl, Or.inr ⟨rfl, rfl, rfl⟩⟩
theorem zp_Mo_init_21 : zPf M_Mo_init 21 13 2 (.array .byte) := ⟨zf_Mo_21, _, _, _, ty_Mo, rfl, tyok_Mo, nm_Mo, rfl, Or.inr ⟨rfl, rfl, rfl⟩⟩
theorem zf_Mo_7 : zFl "NetDeskModel" 7 13 4 := ⟨_, _, _, "NetDeskModel", rfl, Nat.le_of_ble_eq_true rfl, in_Mo, Or.inl (zt5 156 rfl), Or.inl rfl⟩
theorem zp_Mo_init_7 : zPf M_Mo_init 7 13 4 (.array .byte) := ⟨zf_Mo_7, _, _, _, ty_Mo, rfl, tyok_Mo, nm_Mo, rfl, Or.inr ⟨rfl, rfl, rfl⟩⟩
theorem zp_Mo_init_36 : zPf M_Mo_init 36 13 6 (.array .byte) := ⟨zf_Mo_36, _, _, _, ty_Mo, rfl, tyok_Mo, nm_Mo, rfl, Or.inr ⟨rfl, rfl, rfl⟩⟩
theorem zp_Mo_init_39 : zPf M_Mo_init 39 13 7 (.array .int) := ⟨zf_Mo_39, _, _, _, ty_Mo, rfl, tyok_Mo, nm_Mo, rfl, Or.inr ⟨rfl, rfl, rfl⟩⟩
theorem zp_Mo_init_43 : zPf M_Mo_init 43 13 8 (.array .int) := ⟨zf_Mo_43, _, _, _, ty_Mo, rfl, tyok_Mo, nm_Mo, rfl, Or.inr ⟨rfl, rfl, rfl⟩⟩
theorem zp_Mo_init_70 : zPf M_Mo_init 70 13 9 (.array .byte) := ⟨zf_Mo_70, _, _, _, ty_Mo, rfl, tyok_Mo, nm_Mo, rfl, Or.inr ⟨rfl, rfl, rfl⟩⟩
theorem zp_Mo_init_64 : zPf M_Mo_init 64 13 10 (.array .int) := ⟨zf_Mo_64, _, _, _, ty_Mo, rfl, tyok_Mo, nm_Mo, rfl, Or.inr ⟨rfl, rfl, rfl⟩⟩
theorem zp_Mo_init_67 : zPf M_Mo_init 67 13 11 (.array .int) := ⟨zf_Mo_67, _, _, _, ty_Mo, rfl, tyok_Mo, nm_Mo, rfl, Or.inr ⟨rfl, rfl, rfl⟩⟩
theorem zp_Mo_init_174 : zPf M_Mo_init 174 13 17 (.array .byte) := ⟨zf_Mo_174, _, _, _, ty_Mo, rfl, tyok_Mo, nm_Mo, rfl, Or.inr ⟨rfl, rfl, rfl⟩⟩
theorem zp_Mo_init_171 : zPf M_Mo_init 171 13 18 (.array .int) := ⟨zf_Mo_171, _, _, _, ty_Mo, rfl, tyok_Mo, nm_Mo, rfl, Or.inr ⟨rfl, rfl, rfl⟩⟩
theorem zp_Mo_init_177 : zPf M_Mo_init 177 13 19 (.array .int) := ⟨zf_Mo_177, _, _, _, ty_Mo, rfl, tyok_Mo, nm_Mo, rfl, Or.inr ⟨rfl, rfl, rfl⟩⟩
theorem zp_Mo_init_186 : zPf M_Mo_init 186 13 20 (.array .byte) := ⟨zf_Mo_186, _, _, _, ty_Mo, rfl, tyok_Mo, nm_Mo, rfl, Or.inr ⟨rfl, rfl, rfl⟩⟩
theorem zp_Mo_init_180 : zPf M_Mo_init 180 13 21 (.array .int) := ⟨zf_Mo_180, _, _, _, ty_Mo, rfl, tyok_Mo, nm_Mo, rfl, Or.inr ⟨rfl, rfl, rfl⟩⟩
theorem zp_Mo_init_183 : zPf M_Mo_init 183 13 22 (.array .int) := ⟨zf_Mo_183, _, _, _, ty_Mo, rfl, tyok_Mo, nm_Mo, rfl, Or.inr ⟨rfl, rfl, rfl⟩⟩
theorem zp_Mo_init_189 : zPf M_Mo_init 189 13 23 (.array .boolean) := ⟨zf_Mo_189, _, _, _, ty_Mo, rfl, tyok_Mo, nm_Mo, rfl, Or.inr ⟨rfl, rfl, rfl⟩⟩
theorem zp_Mo_init_193 : zPf M_Mo_init 193 13 24 (.array .boolean) := ⟨zf_Mo_193, _, _, _, ty_Mo, rfl, tyok_Mo, nm_Mo, rfl, Or.inr ⟨rfl, rfl, rfl⟩⟩
theorem zf_Mo_226 : zFl "NetDeskModel" 226 13 28 := ⟨_, _, _, "NetDeskModel", rfl, Nat.le_of_ble_eq_true rfl, in_Mo, Or.inl (zt5 179 rfl), Or.inl rfl⟩
theorem zp_Mo_init_226 : zPf M_Mo_init 226 13 28 (.array .int) := ⟨zf_Mo_226, _, _, _, ty_Mo, rfl, tyok_Mo, nm_Mo, rfl, Or.inr ⟨rfl, rfl, rfl⟩⟩
theorem zf_Mo_223 : zFl "NetDeskModel" 223 13 29 := ⟨_, _, _, "NetDeskModel", rfl, Nat.le_of_ble_eq_true rfl, in_Mo, Or.inl (zt5 180 rfl), Or.inl rfl⟩
theorem zp_Mo_init_223 : zPf M_Mo_init 223 13 29 (.array .int) := ⟨zf_Mo_223, _, _, _, ty_Mo, rfl, tyok_Mo, nm_Mo, rfl, Or.inr ⟨rfl, rfl, rfl⟩⟩
theorem zf_Mo_202 : zFl "NetDeskModel" 202 13 31 := ⟨_, _, _, "NetDeskModel", rfl, Nat.le_of_ble_eq_true rfl, in_Mo, Or.inl (zt5 182 rfl), Or.inl rfl⟩
theorem zp_Mo_init_202 : zPf M_Mo_init 202 13 31 (.array .byte) := ⟨zf_Mo_202, _, _, _, ty_Mo, rfl, tyok_Mo, nm_Mo, rfl, Or.inr ⟨rfl, rfl, rfl⟩⟩
theorem zf_Mo_199 : zFl "NetDeskModel" 199 13 32 := ⟨_, _, _, "NetDeskModel", rfl, Nat.le_of_ble_eq_true rfl, in_Mo, Or.inl (zt5 183 rfl), Or.inl rfl⟩
theorem zp_Mo_init_199 : zPf M_Mo_init 199 13 32 (.array .int) := ⟨zf_Mo_199, _, _, _, ty_Mo, rfl, tyok_Mo, nm_Mo, rfl, Or.inr ⟨rfl, rfl, rfl⟩⟩
theorem zf_Mo_205 : zFl "NetDeskModel" 205 13 33 := ⟨_, _, _, "NetDeskModel", rfl, Nat.le_of_ble_eq_true rfl, in_Mo, Or.inl (zt5 184 rfl), Or.inl rfl⟩
theorem zp_Mo_init_205 : zPf M_Mo_init 205 13 33 (.array .int) := ⟨zf_Mo_205, _, _, _, ty_Mo, rfl, tyok_Mo, nm_Mo, rfl, Or.inr ⟨rfl, rfl, rfl⟩⟩
theorem zf_Mo_208 : zFl "NetDeskModel" 208 13 34 := ⟨_, _, _, "NetDeskModel", rfl, Nat.le_of_ble_eq_true rfl, in_Mo, Or.inl (zt5 185 rfl), Or.inl rfl⟩
theorem zp_Mo_init_208 : zPf M_Mo_init 208 13 34 (.array .int) := ⟨zf_Mo_208, _, _, _, ty_Mo, rfl, tyok_Mo, nm_Mo, rfl, Or.inr ⟨rfl, rfl, rfl⟩⟩
theorem zf_Mo_211 : zFl "NetDeskModel" 211 13 36 := ⟨_, _, _, "NetDeskModel", rfl, Nat.le_of_ble_eq_true rfl, in_Mo, Or.inl (zt5 187 rfl), Or.inl rfl⟩
theorem zp_Mo_init_211 : zPf M_Mo_init 211 13 36 (.array .byte) := ⟨zf_Mo_211, _, _, _, ty_Mo, rfl, tyok_Mo, nm_Mo, rfl, Or.inr ⟨rfl, rfl, rfl⟩⟩
theorem zp_Mo_init_136 : zPf M_Mo_init 136 13 43 (.array .byte) := ⟨zf_Mo_136, _, _, _, ty_Mo, rfl, tyok_Mo, nm_Mo, rfl, Or.inr ⟨rfl, rfl, rfl⟩⟩
theorem zf_Mo_265 : zFl "NetDeskModel" 265 13 47 := ⟨_, _, _, "NetDeskModel", rfl, Nat.le_of_ble_eq_true rfl, in_Mo, Or.inl (zt5 198 rfl), Or.inl rfl⟩
theorem zp_Mo_init_265 : zPf M_Mo_init 265 13 47 (.array .byte) := ⟨zf_Mo_265, _, _, _, ty_Mo, rfl, tyok_Mo, nm_Mo, rfl, Or.inr ⟨rfl, rfl, rfl⟩⟩
theorem zk_Mo_268 : zLkV "NetDeskModel" 268 13 M_Mo_putFour 1 := ⟨zc_Mo_putFour, ⟨_, _, _, rfl, Or.inl (zsel 32 rfl)⟩, zt6 73 rfl, Or.inl (zt6 71 rfl)⟩
theorem zp_Mo_putFour_15 : zPf M_Mo_putFour 15 13 1 .int := ⟨zf_Mo_15, _, _, _, ty_Mo, rfl, tyok_Mo, nm_Mo, rfl, Or.inl rfl⟩
theorem zp_Mo_end_15 : zPf M_Mo_end 15 13 1 .int := ⟨zf_Mo_15, _, _, _, ty_Mo, rfl, tyok_Mo, nm_Mo, rfl, Or.inl rfl⟩
theorem zf_Mo_1 : zFl "NetDeskModel" 1 13 5 := ⟨_, _, _, "NetDeskModel", rfl, Nat.le_of_ble_eq_true rfl, in_Mo, Or.inl (zt5 157 rfl), Or.inl rfl⟩
theorem zp_Mo_resolve_1 : zPf M_Mo_resolve 1 13 5 .int := ⟨zf_Mo_1, _, _, _, ty_Mo, rfl, tyok_Mo, nm_Mo, rfl, Or.inl rfl⟩
theorem zk_Mo_271 : zLkV "NetDeskModel" 271 13 M_Mo_sayRow 1 := ⟨zc_Mo_sayRow, ⟨_, _, _, rfl, Or.inl (zsel 33 rfl)⟩, zt6 89 rfl, Or.inl (zt6 87 rfl)⟩
theorem zk_Mo_108 : zLkV "NetDeskModel" 108 13 M_Mo_sayAll 3 := ⟨zc_Mo_sayAll, ⟨_, _, _, rfl, Or.inl (zsel 34 rfl)⟩, zt6 93 rfl, Or.inl (zt6 91 rfl)⟩
theorem zk_Mo_11 : zLkV "NetDeskModel" 11 13 M_Mo_say 1 := ⟨zc_Mo_say, ⟨_, _, _, rfl, Or.inl (zsel 35 rfl)⟩, zt6 97 rfl, Or.inl (zt6 95 rfl)⟩
theorem zp_Mo_say_1 : zPf M_Mo_say 1 13 5 .int := ⟨zf_Mo_1, _, _, _, ty_Mo, rfl, tyok_Mo, nm_Mo, rfl, Or.inl rfl⟩
theorem zk_Mo_274 : zLkV "NetDeskModel" 274 13 M_Mo_fetchIt 0 := ⟨zc_Mo_fetchIt, ⟨_, _, _, rfl, Or.inl (zsel 36 rfl)⟩, zt6 109 rfl, Or.inl (zt6 107 rfl)⟩
theorem zf_Mo_277 : zFl "NetDeskModel" 277 13 50 := ⟨_, _, _, "NetDeskModel", rfl, Nat.le_of_ble_eq_true rfl, in_Mo, Or.inl (zt5 201 rfl), Or.inl rfl⟩
theorem zp_Mo_fetch_277 : zPf M_Mo_fetch 277 13 50 .boolean := ⟨zf_Mo_277, _, _, _, ty_Mo, rfl, tyok_Mo, nm_Mo, rfl, Or.inl rfl⟩
theorem zf_Mo_238 : zFl "NetDeskModel" 238 13 44 := ⟨_, _, _, "NetDeskModel", rfl, Nat.le_of_ble_eq_true rfl, in_Mo, Or.inl (zt5 195 rfl), Or.inl rfl⟩
theorem zf_Mo_280 : zFl "NetDeskModel" 280 13 48 := ⟨_, _, _, "NetDeskModel", rfl, Nat.le_of_ble_eq_true rfl, in_Mo, Or.inl (zt5 199 rfl), Or.inl rfl⟩
theorem zp_Mo_fetch_280 : zPf M_Mo_fetch 280 13 48 .int := ⟨zf_Mo_280, _, _, _, ty_Mo, rfl, tyok_Mo, nm_Mo, rfl, Or.inl rfl⟩
theorem zf_Mo_283 : zFl "NetDeskModel" 283 13 49 := ⟨_, _, _, "NetDeskModel", rfl, Nat.le_of_ble_eq_true rfl, in_Mo, Or.inl (zt5 200 rfl), Or.inl rfl⟩
theorem zp_Mo_fetch_283 : zPf M_Mo_fetch 283 13 49 .boolean := ⟨zf_Mo_283, _, _, _, ty_Mo, rfl, tyok_Mo, nm_Mo, rfl, Or.inl rfl⟩
theorem zf_Mo_235 : zFl "NetDeskModel" 235 13 45 := ⟨_, _, _, "NetDeskModel", rfl, Nat.le_of_ble_eq_true rfl, in_Mo, Or.inl (zt5 196 rfl), Or.inl rfl⟩
theorem zp_Mo_fetchIt_235 : zPf M_Mo_fetchIt 235 13 45 .int := ⟨zf_Mo_235, _, _, _, ty_Mo, rfl, tyok_Mo, nm_Mo, rfl, Or.inl rfl⟩
theorem zp_Mo_fetchIt_238 : zPf M_Mo_fetchIt 238 13 44 .int := ⟨zf_Mo_238, _, _, _, ty_Mo, rfl, tyok_Mo, nm_Mo, rfl, Or.inl rfl⟩
theorem zf_Mo_220 : zFl "NetDeskModel" 220 13 26 := ⟨_, _, _, "NetDeskModel", rfl, Nat.le_of_ble_eq_true rfl, in_Mo, Or.inl (zt5 177 rfl), Or.inl rfl⟩
theorem zf_Mo_229 : zFl "NetDeskModel" 229 13 25 := ⟨_, _, _, "NetDeskModel", rfl, Nat.le_of_ble_eq_true rfl, in_Mo, Or.inl (zt5 176 rfl), Or.inl rfl⟩
theorem zf_Mo_241 : zFl "NetDeskModel" 241 13 46 := ⟨_, _, _, "NetDeskModel", rfl, Nat.le_of_ble_eq_true rfl, in_Mo, Or.inl (zt5 197 rfl), Or.inl rfl⟩
theorem zp_Mo_fetchIt_241 : zPf M_Mo_fetchIt 241 13 46 .boolean := ⟨zf_Mo_241, _, _, _, ty_Mo, rfl, tyok_Mo, nm_Mo, rfl, Or.inl rfl⟩
theorem zk_Mo_244 : zLkV "NetDeskModel" 244 13 M_Mo_ask 0 := ⟨zc_Mo_ask, ⟨_, _, _, rfl, Or.inl (zsel 37 rfl)⟩, zt6 113 rfl, Or.inl (zt6 111 rfl)⟩
theorem zf_Mo_248 : zFl "NetDeskModel" 248 13 35 := ⟨_, _, _, "NetDeskModel", rfl, Nat.le_of_ble_eq_true rfl, in_Mo, Or.inl (zt5 186 rfl), Or.inl rfl⟩
theorem zp_Mo_ask_248 : zPf M_Mo_ask 248 13 35 .int := ⟨zf_Mo_248, _, _, _, ty_Mo, rfl, tyok_Mo, nm_Mo, rfl, Or.inl rfl⟩
theorem zk_Mo_251 : zLkV "NetDeskModel" 251 13 M_Mo_tellCookies 0 := ⟨zc_Mo_tellCookies, ⟨_, _, _, rfl, Or.inl (zsel 38 rfl)⟩, zt6 117 rfl, Or.inl (zt6 115 rfl)⟩
theorem zp_Mo_ask_238 : zPf M_Mo_ask 238 13 44 .int := ⟨zf_Mo_238, _, _, _, ty_Mo, rfl, tyok_Mo, nm_Mo, rfl, Or.inl rfl⟩
theorem zk_Mo_254 : zLkV "NetDeskModel" 254 13 M_Mo_dropCookie 1 := ⟨zc_Mo_dropCookie, ⟨_, _, _, rfl, Or.inl (zsel 40 rfl)⟩, zt6 125 rfl, Or.inl (zt6 123 rfl)⟩
theorem zk_Mo_257 : zLkV "NetDeskModel" 257 13 M_Mo_keep 1 := ⟨zc_Mo_keep, ⟨_, _, _, rfl, Or.inl (zsel 41 rfl)⟩, zt6 129 rfl, Or.inl (zt6 127 rfl)⟩
theorem zf_Mo_214 : zFl "NetDeskModel" 214 13 37 := ⟨_, _, _, "NetDeskModel", rfl, Nat.le_of_ble_eq_true rfl, in_Mo, Or.inl (zt5 188 rfl), Or.inl rfl⟩
theorem zp_Mo_tellCookies_214 : zPf M_Mo_tellCookies 214 13 37 .int := ⟨zf_Mo_214, _, _, _, ty_Mo, rfl, tyok_Mo, nm_Mo, rfl, Or.inl rfl⟩
theorem zf_Mo_196 : zFl "NetDeskModel" 196 13 30 := ⟨_, _, _, "NetDeskModel", rfl, Nat.le_of_ble_eq_true rfl, in_Mo, Or.inl (zt5 181 rfl), Or.inl rfl⟩
theorem zk_Mo_217 : zLkV "NetDeskModel" 217 13 M_Mo_send 1 := ⟨zc_Mo_send, ⟨_, _, _, rfl, Or.inl (zsel 39 rfl)⟩, zt6 121 rfl, Or.inl (zt6 119 rfl)⟩
theorem zp_Mo_send_214 : zPf M_Mo_send 214 13 37 .int := ⟨zf_Mo_214, _, _, _, ty_Mo, rfl, tyok_Mo, nm_Mo, rfl, Or.inl rfl⟩
theorem zp_Mo_dropCookie_196 : zPf M_Mo_dropCookie 196 13 30 .int := ⟨zf_Mo_196, _, _, _, ty_Mo, rfl, tyok_Mo, nm_Mo, rfl, Or.inl rfl⟩
theorem zp_Mo_keep_220 : zPf M_Mo_keep 220 13 26 .int := ⟨zf_Mo_220, _, _, _, ty_Mo, rfl, tyok_Mo, nm_Mo, rfl, Or.inl rfl⟩
theorem zf_Mo_232 : zFl "NetDeskModel" 232 13 27 := ⟨_, _, _, "NetDeskModel", rfl, Nat.le_of_ble_eq_true rfl, in_Mo, Or.inl (zt5 178 rfl), Or.inl rfl⟩
theorem zp_Mo_keep_232 : zPf M_Mo_keep 232 13 27 .int := ⟨zf_Mo_232, _, _, _, ty_Mo, rfl, tyok_Mo, nm_Mo, rfl, Or.inl rfl⟩
theorem zp_Mo_tick_229 : zPf M_Mo_tick 229 13 25 .int := ⟨zf_Mo_229, _, _, _, ty_Mo, rfl, tyok_Mo, nm_Mo, rfl, Or.inl rfl⟩
theorem zp_Mo_forget_196 : zPf M_Mo_forget 196 13 30 .int := ⟨zf_Mo_196, _, _, _, ty_Mo, rfl, tyok_Mo, nm_Mo, rfl, Or.inl rfl⟩
theorem zp_Mo_write_1 : zPf M_Mo_write 1 13 5 .int := ⟨zf_Mo_1, _, _, _, ty_Mo, rfl, tyok_Mo, nm_Mo, rfl, Or.inl rfl⟩
theorem sMo_server_0 {G : zG} {d : Nat} {ad : Nat → Nat} {μ : zMm} {P : Option Value → zMm → Prop} {st : List Value} {o1 : Option Value} {o2 : Option Value} {o3 : Option Value} {o4 : Option Value} {P2 : Int32 → zMm → Prop} (hd : 1 ≤ d) (hl : st.length ≤ 4) (hc : mC G (d - 1) ad M_Mo_take [(.ref (ad 50))] μ (mPi P2)) (kk : ∀ (r : Int32) (μ1 : zMm), P2 r μ1 → mW G d ad M_Mo_server 4 [some (.ref (ad 50)), o1, o2, o3, o4] ((.int r) :: st) μ1 P) : mW G d ad M_Mo_server 0 [some (.ref (ad 50)), o1, o2, o3, o4] st μ P :=
  fun H0 H hM hm hu => zw_aload_n (i := 0) dMo_server_0 rfl rfl zRf_ref <| zw_callV [] _ dMo_server_1 hd zk_Mo_151 hM.is rfl rfl hl (hc H hM) (mPi_k kk hm hu)
theorem sMo_server_4 {G : zG} {d : Nat} {ad : Nat → Nat} {μ : zMm} {P : Option Value → zMm → Prop} {st : List Value} {o0 : Option Value} {o1 : Option Value} {o2 : Option Value} {o3 : Option Value} {o4 : Option Value} {xs0 : Int32} (kt : (xs0 < 0) → mW G d ad M_Mo_server 14 [o0, some (.int xs0), o2, o3, o4] st μ P) (kf : (¬ xs0 < 0) → mW G d ad M_Mo_server 9 [o0, some (.int xs0), o2, o3, o4] st μ P) : mW G d ad M_Mo_server 4 [o0, o1, o2, o3, o4] ((.int xs0) :: st) μ P :=
  fun H0 H hM hm hu => zw_istore_n (i := 1) dMo_server_4 rfl (Nat.le_of_ble_eq_true rfl) <| zw_iload_n (i := 1) dMo_server_5 rfl rfl <| zw_if_lt 14 dMo_server_6 (by decide) (fun h => kt h H0 H hM hm hu) (fun h => kf h H0 H hM hm hu)
theorem sMo_server_9 {G : zG} {d : Nat} {ad : Nat → Nat} {μ : zMm} {P : Option Value → zMm → Prop} {st : List Value} {o0 : Option Value} {o2 : Option Value} {o3 : Option Value} {o4 : Option Value} {x1 : Int32} {P2 : Int32 → zMm → Prop} (hd : 1 ≤ d) (hl : st.length ≤ 4) (hc : mC G (d - 1) ad M_Mo_wrong [(.int x1)] μ (mPi P2)) (kk : ∀ (r : Int32) (μ1 : zMm), P2 r μ1 → mW G d ad M_Mo_server 13 [o0, some (.int x1), o2, o3, o4] ((.int r) :: st) μ1 P) : mW G d ad M_Mo_server 9 [o0, some (.int x1), o2, o3, o4] st μ P :=
  fun H0 H hM hm hu => zw_iload_n (i := 1) dMo_server_9 rfl rfl <| zw_callS [(.int x1)] _ dMo_server_10 hd zk_Mo_155 rfl rfl hl (hc H hM) (mPi_k kk hm hu)
theorem sMo_server_13 {G : zG} {d : Nat} {ad : Nat → Nat} {μ : zMm} {P : Option Value → zMm → Prop} {o0 : Option Value} {o1 : Option Value} {o2 : Option Value} {o3 : Option Value} {o4 : Option Value} {xs0 : Int32} (hq : P (some (.int xs0)) μ) : mW G d ad M_Mo_server 13 [o0, o1, o2, o3, o4] ((.int xs0) :: []) μ P :=
  fun H0 H hM hm hu => zw_iret dMo_server_13 .int rfl rfl ⟨μ, hq, hM, hm, hu⟩
theorem sMo_server_14 {G : zG} {d : Nat} {ad : Nat → Nat} {μ : zMm} {P : Option Value → zMm → Prop} {st : List Value} {o1 : Option Value} {o2 : Option Value} {o3 : Option Value} {o4 : Option Value} {P2 : Int32 → zMm → Prop} (hd : 1 ≤ d) (hl : st.length ≤ 4) (hc : mC G (d - 1) ad M_Mo_tokenEnd [(.ref (ad 50)), (.int (nI 0))] μ (mPi P2)) (kk : ∀ (r : Int32) (μ1 : zMm), P2 r μ1 → mW G d ad M_Mo_server 19 [some (.ref (ad 50)), o1, o2, o3, o4] ((.int r) :: st) μ1 P) : mW G d ad M_Mo_server 14 [some (.ref (ad 50)), o1, o2, o3, o4] st μ P :=
  fun H0 H hM hm hu => zw_aload_n (i := 0) dMo_server_14 rfl rfl zRf_ref <| zw_iconst (nI 0) dMo_server_15 zki_0 <| zw_callV [(.int (nI 0))] _ dMo_server_16 hd zk_Mo_158 hM.is rfl rfl hl (hc H hM) (mPi_k kk hm hu)
theorem sMo_server_19 {G : zG} {d : Nat} {ad : Nat → Nat} {μ : zMm} {P : Option Value → zMm → Prop} {st : List Value} {o0 : Option Value} {o1 : Option Value} {o2 : Option Value} {o3 : Option Value} {o4 : Option Value} {xs0 : Int32} (kt : (xs0 < (nI 2)) → mW G d ad M_Mo_server 70 [o0, o1, some (.int xs0), o3, o4] st μ P) (kf : (¬ xs0 < (nI 2)) → mW G d ad M_Mo_server 25 [o0, o1, some (.int xs0), o3, o4] st μ P) : mW G d ad M_Mo_server 19 [o0, o1, o2, o3, o4] ((.int xs0) :: st) μ P :=
  fun H0 H hM hm hu => zw_istore_n (i := 2) dMo_server_19 rfl (Nat.le_of_ble_eq_true rfl) <| zw_iload_n (i := 2) dMo_server_20 rfl rfl <| zw_iconst (nI 2) dMo_server_21 zki_2 <| zw_icmp_lt 70 dMo_server_22 (by decide) (fun h => kt h H0 H hM hm hu) (fun h => kf h H0 H hM hm hu)
theorem sMo_server_25 {G : zG} {d : Nat} {ad : Nat → Nat} {μ : zMm} {P : Option Value → zMm → Prop} {st : List Value} {o1 : Option Value} {o2 : Option Value} {o3 : Option Value} {o4 : Option Value} {i1 : Nat} (hx1 : (nI 0) = nI i1) (hi1 : i1 < mLn 2) (kt : (¬ (μ.2 2 i1) = (nI 47)) → mW G d ad M_Mo_server 70 [some (.ref (ad 50)), o1, o2, o3, o4] st μ P) (kf : ((μ.2 2 i1) = (nI 47)) → mW G d ad M_Mo_server 36 [some (.ref (ad 50)), o1, o2, o3, o4] st μ P) : mW G d ad M_Mo_server 25 [some (.ref (ad 50)), o1, o2, o3, o4] st μ P :=
  fun H0 H hM hm hu => zw_aload_n (i := 0) dMo_server_25 rfl rfl zRf_ref <| zw_getf dMo_server_26 zf_Mo_21 (hM.fa 2 (Nat.le_of_ble_eq_true rfl) mn_2) <| zw_iconst (nI 0) dMo_server_29 zki_0 <| zw_baldN (g := μ.2 2) dMo_server_30 (hM.ab mk_2) hx1 hi1 (mLn_le _) <| zw_bipush (nI 47) dMo_server_31 zkb_47 <| zw_icmp_ne 70 dMo_server_33 (by decide) (fun h => kt h H0 H hM hm hu) (fun h => kf h H0 H hM hm hu)
theorem sMo_server_36 {G : zG} {d : Nat} {ad : Nat → Nat} {μ : zMm} {P : Option Value → zMm → Prop} {st : List Value} {o1 : Option Value} {o2 : Option Value} {o3 : Option Value} {o4 : Option Value} {i1 : Nat} (hx1 : (nI 1) = nI i1) (hi1 : i1 < mLn 2) (kt : (¬ (μ.2 2 i1) = (nI 47)) → mW G d ad M_Mo_server 70 [some (.ref (ad 50)), o1, o2, o3, o4] st μ P) (kf : ((μ.2 2 i1) = (nI 47)) → mW G d ad M_Mo_server 47 [some (.ref (ad 50)), o1, o2, o3, o4] st μ P) : mW G d ad M_Mo_server 36 [some (.ref (ad 50)), o1, o2, o3, o4] st μ P :=
  fun H0 H hM hm hu => zw_aload_n (i := 0) dMo_server_36 rfl rfl zRf_ref <| zw_getf dMo_server_37 zf_Mo_21 (hM.fa 2 (Nat.le_of_ble_eq_true rfl) mn_2) <| zw_iconst (nI 1) dMo_server_40 zki_1 <| zw_baldN (g := μ.2 2) dMo_server_41 (hM.ab mk_2) hx1 hi1 (mLn_le _) <| zw_bipush (nI 47) dMo_server_42 zkb_47 <| zw_icmp_ne 70 dMo_server_44 (by decide) (fun h => kt h H0 H hM hm hu) (fun h => kf h H0 H hM hm hu)
theorem sMo_server_47 {G : zG} {d : Nat} {ad : Nat → Nat} {μ : zMm} {P : Option Value → zMm → Prop} {st : List Value} {o1 : Option Value} {o3 : Option Value} {o4 : Option Value} {x2 : Int32} {P2 : Int32 → zMm → Prop} (hd : 1 ≤ d) (hl : st.length ≤ 4) (hc : mC G (d - 1) ad M_Mo_refer [(.ref (ad 50)), (.ref (ad 2)), (.int (nI 0)), (.int x2), (.int (nI 5))] μ (mPi P2)) (kk : ∀ (r : Int32) (μ1 : zMm), P2 r μ1 → mW G d ad M_Mo_server 58 [some (.ref (ad 50)), o1, some (.int x2), o3, o4] ((.int r) :: st) μ1 P) : mW G d ad M_Mo_server 47 [some (.ref (ad 50)), o1, some (.int x2), o3, o4] st μ P :=
  fun H0 H hM hm hu => zw_aload_n (i := 0) dMo_server_47 rfl rfl zRf_ref <| zw_aload_n (i := 0) dMo_server_48 rfl rfl zRf_ref <| zw_getf dMo_server_49 zf_Mo_21 (hM.fa 2 (Nat.le_of_ble_eq_true rfl) mn_2) <| zw_iconst (nI 0) dMo_server_52 zki_0 <| zw_iload_n (i := 2) dMo_server_53 rfl rfl <| zw_iconst (nI 5) dMo_server_54 zki_5 <| zw_callV [(.ref (ad 2)), (.int (nI 0)), (.int x2), (.int (nI 5))] _ dMo_server_55 hd zk_Mo_144 hM.is rfl rfl hl (hc H hM) (mPi_k kk hm hu)
theorem sMo_server_58 {G : zG} {d : Nat} {ad : Nat → Nat} {μ : zMm} {P : Option Value → zMm → Prop} {st : List Value} {o0 : Option Value} {o1 : Option Value} {o2 : Option Value} {o3 : Option Value} {o4 : Option Value} {xs0 : Int32} (kt : (xs0 = 0) → mW G d ad M_Mo_server 70 [o0, o1, o2, o3, o4] st μ P) (kf : (¬ xs0 = 0) → mW G d ad M_Mo_server 61 [o0, o1, o2, o3, o4] st μ P) : mW G d ad M_Mo_server 58 [o0, o1, o2, o3, o4] ((.int xs0) :: st) μ P :=
  fun H0 H hM hm hu => zw_if_eq 70 dMo_server_58 (by decide) (fun h => kt h H0 H hM hm hu) (fun h => kf h H0 H hM hm hu)
theorem sMo_server_61 {G : zG} {d : Nat} {ad : Nat → Nat} {μ : zMm} {P : Option Value → zMm → Prop} {st : List Value} {o1 : Option Value} {o2 : Option Value} {o3 : Option Value} {o4 : Option Value} {i1 : Nat} (hx1 : (nI 0) = nI i1) (hi1 : i1 < mLn 8) (kt : ((μ.2 8 i1) ≤ 0) → mW G d ad M_Mo_server 75 [some (.ref (ad 50)), o1, o2, o3, o4] st μ P) (kf : (¬ (μ.2 8 i1) ≤ 0) → mW G d ad M_Mo_server 70 [some (.ref (ad 50)), o1, o2, o3, o4] st μ P) : mW G d ad M_Mo_server 61 [some (.ref (ad 50)), o1, o2, o3, o4] st μ P :=
  fun H0 H hM hm hu => zw_aload_n (i := 0) dMo_server_61 rfl rfl zRf_ref <| zw_getf dMo_server_62 zf_Mo_43 (hM.fa 8 (Nat.le_of_ble_eq_true rfl) mn_8) <| zw_iconst (nI 0) dMo_server_65 zki_0 <| zw_ialdN (g := μ.2 8) dMo_server_66 (hM.ai mk_8) hx1 hi1 (mLn_le _) <| zw_if_le 75 dMo_server_67 (by decide) (fun h => kt h H0 H hM hm hu) (fun h => kf h H0 H hM hm hu)
theorem sMo_server_70 {G : zG} {d : Nat} {ad : Nat → Nat} {μ : zMm} {P : Option Value → zMm → Prop} {st : List Value} {o0 : Option Value} {o1 : Option Value} {o2 : Option Value} {o3 : Option Value} {o4 : Option Value} {P2 : Int32 → zMm → Prop} (hd : 1 ≤ d) (hl : st.length ≤ 4) (hc : mC G (d - 1) ad M_Mo_wrong [(.int (nI 0))] μ (mPi P2)) (kk : ∀ (r : Int32) (μ1 : zMm), P2 r μ1 → mW G d ad M_Mo_server 74 [o0, o1, o2, o3, o4] ((.int r) :: st) μ1 P) : mW G d ad M_Mo_server 70 [o0, o1, o2, o3, o4] st μ P :=
  fun H0 H hM hm hu => zw_iconst (nI 0) dMo_server_70 zki_0 <| zw_callS [(.int (nI 0))] _ dMo_server_71 hd zk_Mo_155 rfl rfl hl (hc H hM) (mPi_k kk hm hu)
theorem sMo_server_74 {G : zG} {d : Nat} {ad : Nat → Nat} {μ : zMm} {P : Option Value → zMm → Prop} {o0 : Option Value} {o1 : Option Value} {o2 : Option Value} {o3 : Option Value} {o4 : Option Value} {xs0 : Int32} (hq : P (some (.int xs0)) μ) : mW G d ad M_Mo_server 74 [o0, o1, o2, o3, o4] ((.int xs0) :: []) μ P :=
  fun H0 H hM hm hu => zw_iret dMo_server_74 .int rfl rfl ⟨μ, hq, hM, hm, hu⟩
theorem sMo_server_75 {G : zG} {d : Nat} {ad : Nat → Nat} {μ : zMm} {P : Option Value → zMm → Prop} {st : List Value} {o1 : Option Value} {o2 : Option Value} {o3 : Option Value} {o4 : Option Value} {P2 : zMm → Prop} (hd : 1 ≤ d) (hl : st.length ≤ 4) (hc : mC G (d - 1) ad M_Mo_copyRow [(.ref (ad 50)), (.int (nI 3)), (.int (nI 0))] μ (mPv P2)) (kk : ∀ μ1 : zMm, P2 μ1 → mW G d ad M_Mo_server 81 [some (.ref (ad 50)), o1, o2, o3, o4] st μ1 P) : mW G d ad M_Mo_server 75 [some (.ref (ad 50)), o1, o2, o3, o4] st μ P :=
  fun H0 H hM hm hu => zw_aload_n (i := 0) dMo_server_75 rfl rfl zRf_ref <| zw_iconst (nI 3) dMo_server_76 zki_3 <| zw_iconst (nI 0) dMo_server_77 zki_0 <| zw_callV [(.int (nI 3)), (.int (nI 0))] _ dMo_server_78 hd zk_Mo_148 hM.is rfl rfl hl (hc H hM) (mPv_k kk hm hu)
theorem sMo_server_81 {G : zG} {d : Nat} {ad : Nat → Nat} {μ : zMm} {P : Option Value → zMm → Prop} {st : List Value} {o1 : Option Value} {o2 : Option Value} {o3 : Option Value} {o4 : Option Value} (kk : mW G d ad M_Mo_server 86 [some (.ref (ad 50)), o1, o2, o3, o4] st (upd μ.1 38 (-1 : Int32), μ.2) P) : mW G d ad M_Mo_server 81 [some (.ref (ad 50)), o1, o2, o3, o4] st μ P :=
  fun H0 H hM hm hu => zw_aload_n (i := 0) dMo_server_81 rfl rfl zRf_ref <| zw_iconst (-1 : Int32) dMo_server_82 zki_m1 <| (mw_puti (M := M_Mo_server) (pc := 83) (k := 38) (v := (-1 : Int32)) dMo_server_83 zp_Mo_server_125 (Nat.le_of_ble_eq_true rfl) mz_38 rfl rfl kk) H0 H hM hm hu
theorem sMo_server_86 {G : zG} {d : Nat} {ad : Nat → Nat} {μ : zMm} {P : Option Value → zMm → Prop} {st : List Value} {o1 : Option Value} {o2 : Option Value} {o3 : Option Value} {o4 : Option Value} (kk : mW G d ad M_Mo_server 91 [some (.ref (ad 50)), o1, o2, o3, o4] st (upd μ.1 39 (nI 0), μ.2) P) : mW G d ad M_Mo_server 86 [some (.ref (ad 50)), o1, o2, o3, o4] st μ P :=
  fun H0 H hM hm hu => zw_aload_n (i := 0) dMo_server_86 rfl rfl zRf_ref <| zw_iconst (nI 0) dMo_server_87 zki_0 <| (mw_puti (M := M_Mo_server) (pc := 88) (k := 39) (v := (nI 0)) dMo_server_88 zp_Mo_server_130 (Nat.le_of_ble_eq_true rfl) mz_39 rfl rfl kk) H0 H hM hm hu
theorem sMo_server_91 {G : zG} {d : Nat} {ad : Nat → Nat} {μ : zMm} {P : Option Value → zMm → Prop} {st : List Value} {o1 : Option Value} {o2 : Option Value} {o3 : Option Value} {o4 : Option Value} (kk : mW G d ad M_Mo_server 96 [some (.ref (ad 50)), o1, o2, o3, o4] st (upd μ.1 41 (nI 0), μ.2) P) : mW G d ad M_Mo_server 91 [some (.ref (ad 50)), o1, o2, o3, o4] st μ P :=
  fun H0 H hM hm hu => zw_aload_n (i := 0) dMo_server_91 rfl rfl zRf_ref <| zw_iconst (nI 0) dMo_server_92 zki_0 <| (mw_puti (M := M_Mo_server) (pc := 93) (k := 41) (v := (nI 0)) dMo_server_93 zp_Mo_server_141 (Nat.le_of_ble_eq_true rfl) mz_41 rfl rfl kk) H0 H hM hm hu
theorem sMo_server_96 {G : zG} {d : Nat} {ad : Nat → Nat} {μ : zMm} {P : Option Value → zMm → Prop} {st : List Value} {o1 : Option Value} {o2 : Option Value} {o3 : Option Value} {o4 : Option Value} (kk : mW G d ad M_Mo_server 101 [some (.ref (ad 50)), o1, o2, o3, o4] st (upd μ.1 42 (nI 0), μ.2) P) : mW G d ad M_Mo_server 96 [some (.ref (ad 50)), o1, o2, o3, o4] st μ P :=
  fun H0 H hM hm hu => zw_aload_n (i := 0) dMo_server_96 rfl rfl zRf_ref <| zw_iconst (nI 0) dMo_server_97 zki_0 <| (mw_puti (M := M_Mo_server) (pc := 98) (k := 42) (v := (nI 0)) dMo_server_98 zp_Mo_server_120 (Nat.le_of_ble_eq_true rfl) mz_42 rfl rfl kk) H0 H hM hm hu
theorem sMo_server_101 {G : zG} {d : Nat} {ad : Nat → Nat} {μ : zMm} {P : Option Value → zMm → Prop} {st : List Value} {o1 : Option Value} {o3 : Option Value} {o4 : Option Value} {x2 : Int32} (kt : ((μ.1 3) ≤ x2) → mW G d ad M_Mo_server 151 [some (.ref (ad 50)), o1, some (.int x2), o3, o4] st μ P) (kf : (¬ (μ.1 3) ≤ x2) → mW G d ad M_Mo_server 109 [some (.ref (ad 50)), o1, some (.int x2), o3, o4] st μ P) : mW G d ad M_Mo_server 101 [some (.ref (ad 50)), o1, some (.int x2), o3, o4] st μ P :=
  fun H0 H hM hm hu => zw_iload_n (i := 2) dMo_server_101 rfl rfl <| zw_aload_n (i := 0) dMo_server_102 rfl rfl zRf_ref <| zw_getf dMo_server_103 zf_Mo_18 (hM.fi 3 (Nat.le_of_ble_eq_true rfl) mz_3) <| zw_icmp_ge 151 dMo_server_106 (by decide) (fun h => kt h H0 H hM hm hu) (fun h => kf h H0 H hM hm hu)
theorem sMo_server_109 {G : zG} {d : Nat} {ad : Nat → Nat} {μ : zMm} {P : Option Value → zMm → Prop} {st : List Value} {o1 : Option Value} {o3 : Option Value} {o4 : Option Value} {x2 : Int32} {i1 : Nat} (hx1 : x2 = nI i1) (hi1 : i1 < mLn 2) (kt : (¬ (μ.2 2 i1) = (nI 32)) → mW G d ad M_Mo_server 151 [some (.ref (ad 50)), o1, some (.int x2), o3, o4] st μ P) (kf : ((μ.2 2 i1) = (nI 32)) → mW G d ad M_Mo_server 120 [some (.ref (ad 50)), o1, some (.int x2), o3, o4] st μ P) : mW G d ad M_Mo_server 109 [some (.ref (ad 50)), o1, some (.int x2), o3, o4] st μ P :=
  fun H0 H hM hm hu => zw_aload_n (i := 0) dMo_server_109 rfl rfl zRf_ref <| zw_getf dMo_server_110 zf_Mo_21 (hM.fa 2 (Nat.le_of_ble_eq_true rfl) mn_2) <| zw_iload_n (i := 2) dMo_server_113 rfl rfl <| zw_baldN (g := μ.2 2) dMo_server_114 (hM.ab mk_2) hx1 hi1 (mLn_le _) <| zw_bipush (nI 32) dMo_server_115 zkb_32 <| zw_icmp_ne 151 dMo_server_117 (by decide) (fun h => kt h H0 H hM hm hu) (fun h => kf h H0 H hM hm hu)
theorem sMo_server_120 {G : zG} {d : Nat} {ad : Nat → Nat} {μ : zMm} {P : Option Value → zMm → Prop} {st : List Value} {o1 : Option Value} {o3 : Option Value} {o4 : Option Value} {x2 : Int32} {P2 : Int32 → zMm → Prop} (hd : 1 ≤ d) (hl : st.length ≤ 4) (hc : mC G (d - 1) ad M_Mo_tokenEnd [(.ref (ad 50)), (.int (x2 + (nI 1)))] μ (mPi P2)) (kk : ∀ (r : Int32) (μ1 : zMm), P2 r μ1 → mW G d ad M_Mo_server 127 [some (.ref (ad 50)), o1, some (.int x2), o3, o4] ((.int r) :: st) μ1 P) : mW G d ad M_Mo_server 120 [some (.ref (ad 50)), o1, some (.int x2), o3, o4] st μ P :=
  fun H0 H hM hm hu => zw_aload_n (i := 0) dMo_server_120 rfl rfl zRf_ref <| zw_iload_n (i := 2) dMo_server_121 rfl rfl <| zw_iconst (nI 1) dMo_server_122 zki_1 <| zw_iadd dMo_server_123 <| zw_callV [(.int (x2 + (nI 1)))] _ dMo_server_124 hd zk_Mo_158 hM.is rfl rfl hl (hc H hM) (mPi_k kk hm hu)
theorem sMo_server_127 {G : zG} {d : Nat} {ad : Nat → Nat} {μ : zMm} {P : Option Value → zMm → Prop} {st : List Value} {o1 : Option Value} {o3 : Option Value} {o4 : Option Value} {xs0 : Int32} {x2 : Int32} {P2 : Int32 → zMm → Prop} (hd : 1 ≤ d) (hl : st.length ≤ 4) (hc : mC G (d - 1) ad M_Mo_field [(.ref (ad 50)), (.int (x2 + (nI 1))), (.int xs0)] μ (mPi P2)) (kk : ∀ (r : Int32) (μ1 : zMm), P2 r μ1 → mW G d ad M_Mo_server 136 [some (.ref (ad 50)), o1, some (.int x2), some (.int xs0), o4] ((.int r) :: st) μ1 P) : mW G d ad M_Mo_server 127 [some (.ref (ad 50)), o1, some (.int x2), o3, o4] ((.int xs0) :: st) μ P :=
  fun H0 H hM hm hu => zw_istore_n (i := 3) dMo_server_127 rfl (Nat.le_of_ble_eq_true rfl) <| zw_aload_n (i := 0) dMo_server_128 rfl rfl zRf_ref <| zw_iload_n (i := 2) dMo_server_129 rfl rfl <| zw_iconst (nI 1) dMo_server_130 zki_1 <| zw_iadd dMo_server_131 <| zw_iload_n (i := 3) dMo_server_132 rfl rfl <| zw_callV [(.int (x2 + (nI 1))), (.int xs0)] _ dMo_server_133 hd zk_Mo_161 hM.is rfl rfl hl (hc H hM) (mPi_k kk hm hu)
theorem sMo_server_136 {G : zG} {d : Nat} {ad : Nat → Nat} {μ : zMm} {P : Option Value → zMm → Prop} {st : List Value} {o0 : Option Value} {o1 : Option Value} {o2 : Option Value} {o3 : Option Value} {o4 : Option Value} {xs0 : Int32} (kt : (¬ xs0 = 0) → mW G d ad M_Mo_server 146 [o0, o1, o2, o3, o4] st μ P) (kf : (xs0 = 0) → mW G d ad M_Mo_server 139 [o0, o1, o2, o3, o4] st μ P) : mW G d ad M_Mo_server 136 [o0, o1, o2, o3, o4] ((.int xs0) :: st) μ P :=
  fun H0 H hM hm hu => zw_if_ne 146 dMo_server_136 (by decide) (fun h => kt h H0 H hM hm hu) (fun h => kf h H0 H hM hm hu)
theorem sMo_server_139 {G : zG} {d : Nat} {ad : Nat → Nat} {μ : zMm} {P : Option Value → zMm → Prop} {st : List Value} {o0 : Option Value} {o1 : Option Value} {o3 : Option Value} {o4 : Option Value} {x2 : Int32} {P2 : Int32 → zMm → Prop} (hd : 1 ≤ d) (hl : st.length ≤ 4) (hc : mC G (d - 1) ad M_Mo_wrong [(.int (x2 + (nI 1)))] μ (mPi P2)) (kk : ∀ (r : Int32) (μ1 : zMm), P2 r μ1 → mW G d ad M_Mo_server 145 [o0, o1, some (.int x2), o3, o4] ((.int r) :: st) μ1 P) : mW G d ad M_Mo_server 139 [o0, o1, some (.int x2), o3, o4] st μ P :=
  fun H0 H hM hm hu => zw_iload_n (i := 2) dMo_server_139 rfl rfl <| zw_iconst (nI 1) dMo_server_140 zki_1 <| zw_iadd dMo_server_141 <| zw_callS [(.int (x2 + (nI 1)))] _ dMo_server_142 hd zk_Mo_155 rfl rfl hl (hc H hM) (mPi_k kk hm hu)
theorem sMo_server_145 {G : zG} {d : Nat} {ad : Nat → Nat} {μ : zMm} {P : Option Value → zMm → Prop} {o0 : Option Value} {o1 : Option Value} {o2 : Option Value} {o3 : Option Value} {o4 : Option Value} {xs0 : Int32} (hq : P (some (.int xs0)) μ) : mW G d ad M_Mo_server 145 [o0, o1, o2, o3, o4] ((.int xs0) :: []) μ P :=
  fun H0 H hM hm hu => zw_iret dMo_server_145 .int rfl rfl ⟨μ, hq, hM, hm, hu⟩
theorem sMo_server_146 {G : zG} {d : Nat} {ad : Nat → Nat} {μ : zMm} {P : Option Value → zMm → Prop} {st : List Value} {o0 : Option Value} {o1 : Option Value} {o2 : Option Value} {o4 : Option Value} {x3 : Int32} (kk : mW G d ad M_Mo_server 101 [o0, o1, some (.int x3), some (.int x3), o4] st μ P) : mW G d ad M_Mo_server 146 [o0, o1, o2, some (.int x3), o4] st μ P :=
  fun H0 H hM hm hu => zw_iload_n (i := 3) dMo_server_146 rfl rfl <| zw_istore_n (i := 2) dMo_server_147 rfl (Nat.le_of_ble_eq_true rfl) <| zw_goto 101 dMo_server_148 (by decide) <| kk H0 H hM hm hu
theorem sMo_server_151 {G : zG} {d : Nat} {ad : Nat → Nat} {μ : zMm} {P : Option Value → zMm → Prop} {st : List Value} {o1 : Option Value} {o3 : Option Value} {o4 : Option Value} {x2 : Int32} (kt : (¬ x2 = (μ.1 3)) → mW G d ad M_Mo_server 167 [some (.ref (ad 50)), o1, some (.int x2), o3, o4] st μ P) (kf : (x2 = (μ.1 3)) → mW G d ad M_Mo_server 159 [some (.ref (ad 50)), o1, some (.int x2), o3, o4] st μ P) : mW G d ad M_Mo_server 151 [some (.ref (ad 50)), o1, some (.int x2), o3, o4] st μ P :=
  fun H0 H hM hm hu => zw_iload_n (i := 2) dMo_server_151 rfl rfl <| zw_aload_n (i := 0) dMo_server_152 rfl rfl zRf_ref <| zw_getf dMo_server_153 zf_Mo_18 (hM.fi 3 (Nat.le_of_ble_eq_true rfl) mz_3) <| zw_icmp_ne 167 dMo_server_156 (by decide) (fun h => kt h H0 H hM hm hu) (fun h => kf h H0 H hM hm hu)
theorem sMo_server_159 {G : zG} {d : Nat} {ad : Nat → Nat} {μ : zMm} {P : Option Value → zMm → Prop} {st : List Value} {o1 : Option Value} {o2 : Option Value} {o3 : Option Value} {o4 : Option Value} {P2 : Int32 → zMm → Prop} (hd : 1 ≤ d) (hl : st.length ≤ 4) (hc : mC G (d - 1) ad M_Mo_wrong [(.int (μ.1 3))] μ (mPi P2)) (kk : ∀ (r : Int32) (μ1 : zMm), P2 r μ1 → mW G d ad M_Mo_server 166 [some (.ref (ad 50)), o1, o2, o3, o4] ((.int r) :: st) μ1 P) : mW G d ad M_Mo_server 159 [some (.ref (ad 50)), o1, o2, o3, o4] st μ P :=
  fun H0 H hM hm hu => zw_aload_n (i := 0) dMo_server_159 rfl rfl zRf_ref <| zw_getf dMo_server_160 zf_Mo_18 (hM.fi 3 (Nat.le_of_ble_eq_true rfl) mz_3) <| zw_callS [(.int (μ.1 3))] _ dMo_server_163 hd zk_Mo_155 rfl rfl hl (hc H hM) (mPi_k kk hm hu)
theorem sMo_server_166 {G : zG} {d : Nat} {ad : Nat → Nat} {μ : zMm} {P : Option Value → zMm → Prop} {o0 : Option Value} {o1 : Option Value} {o2 : Option Value} {o3 : Option Value} {o4 : Option Value} {xs0 : Int32} (hq : P (some (.int xs0)) μ) : mW G d ad M_Mo_server 166 [o0, o1, o2, o3, o4] ((.int xs0) :: []) μ P :=
  fun H0 H hM hm hu => zw_iret dMo_server_166 .int rfl rfl ⟨μ, hq, hM, hm, hu⟩
theorem sMo_server_167 {G : zG} {d : Nat} {ad : Nat → Nat} {μ : zMm} {P : Option Value → zMm → Prop} {st : List Value} {o1 : Option Value} {o3 : Option Value} {o4 : Option Value} {x2 : Int32} (kt : (((μ.1 3) - (x2 + (nI 1))) ≤ (nI 1500)) → mW G d ad M_Mo_server 191 [some (.ref (ad 50)), o1, some (.int (x2 + (nI 1))), o3, o4] st μ P) (kf : (¬ ((μ.1 3) - (x2 + (nI 1))) ≤ (nI 1500)) → mW G d ad M_Mo_server 182 [some (.ref (ad 50)), o1, some (.int (x2 + (nI 1))), o3, o4] st μ P) : mW G d ad M_Mo_server 167 [some (.ref (ad 50)), o1, some (.int x2), o3, o4] st μ P :=
  fun H0 H hM hm hu => zw_iinc (i := 2) (x2 + (nI 1)) dMo_server_167 rfl (congrArg (fun z => x2 + z) zki_1) <| zw_aload_n (i := 0) dMo_server_170 rfl rfl zRf_ref <| zw_getf dMo_server_171 zf_Mo_18 (hM.fi 3 (Nat.le_of_ble_eq_true rfl) mz_3) <| zw_iload_n (i := 2) dMo_server_174 rfl rfl <| zw_isub dMo_server_175 <| zw_sipush (nI 1500) dMo_server_176 zks_1500 <| zw_icmp_le 191 dMo_server_179 (by decide) (fun h => kt h H0 H hM hm hu) (fun h => kf h H0 H hM hm hu)
theorem sMo_server_182 {G : zG} {d : Nat} {ad : Nat → Nat} {μ : zMm} {P : Option Value → zMm → Prop} {st : List Value} {o0 : Option Value} {o1 : Option Value} {o3 : Option Value} {o4 : Option Value} {x2 : Int32} {P2 : Int32 → zMm → Prop} (hd : 1 ≤ d) (hl : st.length ≤ 4) (hc : mC G (d - 1) ad M_Mo_wrong [(.int (x2 + (nI 1500)))] μ (mPi P2)) (kk : ∀ (r : Int32) (μ1 : zMm), P2 r μ1 → mW G d ad M_Mo_server 190 [o0, o1, some (.int x2), o3, o4] ((.int r) :: st) μ1 P) : mW G d ad M_Mo_server 182 [o0, o1, some (.int x2), o3, o4] st μ P :=
  fun H0 H hM hm hu => zw_iload_n (i := 2) dMo_server_182 rfl rfl <| zw_sipush (nI 1500) dMo_server_183 zks_1500 <| zw_iadd dMo_server_186 <| zw_callS [(.int (x2 + (nI 1500)))] _ dMo_server_187 hd zk_Mo_155 rfl rfl hl (hc H hM) (mPi_k kk hm hu)
theorem sMo_server_190 {G : zG} {d : Nat} {ad : Nat → Nat} {μ : zMm} {P : Option Value → zMm → Prop} {o0 : Option Value} {o1 : Option Value} {o2 : Option Value} {o3 : Option Value} {o4 : Option Value} {xs0 : Int32} (hq : P (some (.int xs0)) μ) : mW G d ad M_Mo_server 190 [o0, o1, o2, o3, o4] ((.int xs0) :: []) μ P :=
  fun H0 H hM hm hu => zw_iret dMo_server_190 .int rfl rfl ⟨μ, hq, hM, hm, hu⟩
theorem sMo_server_191 {G : zG} {d : Nat} {ad : Nat → Nat} {μ : zMm} {P : Option Value → zMm → Prop} {st : List Value} {o0 : Option Value} {o1 : Option Value} {o2 : Option Value} {o3 : Option Value} {o4 : Option Value} (kk : mW G d ad M_Mo_server 193 [o0, o1, o2, some (.int (nI 0)), o4] st μ P) : mW G d ad M_Mo_server 191 [o0, o1, o2, o3, o4] st μ P :=
  fun H0 H hM hm hu => zw_iconst (nI 0) dMo_server_191 zki_0 <| zw_istore_n (i := 3) dMo_server_192 rfl (Nat.le_of_ble_eq_true rfl) <| kk H0 H hM hm hu
theorem sMo_server_193 {G : zG} {d : Nat} {ad : Nat → Nat} {μ : zMm} {P : Option Value → zMm → Prop} {st : List Value} {o1 : Option Value} {o2 : Option Value} {o4 : Option Value} {x3 : Int32} (kt : ((μ.1 16) ≤ x3) → mW G d ad M_Mo_server 219 [some (.ref (ad 50)), o1, o2, some (.int x3), o4] st μ P) (kf : (¬ (μ.1 16) ≤ x3) → mW G d ad M_Mo_server 201 [some (.ref (ad 50)), o1, o2, some (.int x3), o4] st μ P) : mW G d ad M_Mo_server 193 [some (.ref (ad 50)), o1, o2, some (.int x3), o4] st μ P :=
  fun H0 H hM hm hu => zw_iload_n (i := 3) dMo_server_193 rfl rfl <| zw_aload_n (i := 0) dMo_server_194 rfl rfl zRf_ref <| zw_getf dMo_server_195 zf_Mo_165 (hM.fi 16 (Nat.le_of_ble_eq_true rfl) mz_16) <| zw_icmp_ge 219 dMo_server_198 (by decide) (fun h => kt h H0 H hM hm hu) (fun h => kf h H0 H hM hm hu)
theorem sMo_server_201 {G : zG} {d : Nat} {ad : Nat → Nat} {μ : zMm} {P : Option Value → zMm → Prop} {st : List Value} {o1 : Option Value} {o2 : Option Value} {o4 : Option Value} {x3 : Int32} {P2 : Int32 → zMm → Prop} (hd : 1 ≤ d) (hl : st.length ≤ 4) (hc : mC G (d - 1) ad M_Mo_alike [(.ref (ad 50)), (.int ((nI 6) + x3)), (.int (nI 3))] μ (mPi P2)) (kk : ∀ (r : Int32) (μ1 : zMm), P2 r μ1 → mW G d ad M_Mo_server 210 [some (.ref (ad 50)), o1, o2, some (.int x3), o4] ((.int r) :: st) μ1 P) : mW G d ad M_Mo_server 201 [some (.ref (ad 50)), o1, o2, some (.int x3), o4] st μ P :=
  fun H0 H hM hm hu => zw_aload_n (i := 0) dMo_server_201 rfl rfl zRf_ref <| zw_bipush (nI 6) dMo_server_202 zkb_6 <| zw_iload_n (i := 3) dMo_server_204 rfl rfl <| zw_iadd dMo_server_205 <| zw_iconst (nI 3) dMo_server_206 zki_3 <| zw_callV [(.int ((nI 6) + x3)), (.int (nI 3))] _ dMo_server_207 hd zk_Mo_168 hM.is rfl rfl hl (hc H hM) (mPi_k kk hm hu)
theorem sMo_server_210 {G : zG} {d : Nat} {ad : Nat → Nat} {μ : zMm} {P : Option Value → zMm → Prop} {st : List Value} {o0 : Option Value} {o1 : Option Value} {o2 : Option Value} {o3 : Option Value} {o4 : Option Value} {xs0 : Int32} (kt : (¬ xs0 = 0) → mW G d ad M_Mo_server 219 [o0, o1, o2, o3, o4] st μ P) (kf : (xs0 = 0) → mW G d ad M_Mo_server 213 [o0, o1, o2, o3, o4] st μ P) : mW G d ad M_Mo_server 210 [o0, o1, o2, o3, o4] ((.int xs0) :: st) μ P :=
  fun H0 H hM hm hu => zw_if_ne 219 dMo_server_210 (by decide) (fun h => kt h H0 H hM hm hu) (fun h => kf h H0 H hM hm hu)
theorem sMo_server_213 {G : zG} {d : Nat} {ad : Nat → Nat} {μ : zMm} {P : Option Value → zMm → Prop} {st : List Value} {o0 : Option Value} {o1 : Option Value} {o2 : Option Value} {o4 : Option Value} {x3 : Int32} (kk : mW G d ad M_Mo_server 193 [o0, o1, o2, some (.int (x3 + (nI 1))), o4] st μ P) : mW G d ad M_Mo_server 213 [o0, o1, o2, some (.int x3), o4] st μ P :=
  fun H0 H hM hm hu => zw_iinc (i := 3) (x3 + (nI 1)) dMo_server_213 rfl (congrArg (fun z => x3 + z) zki_1) <| zw_goto 193 dMo_server_216 (by decide) <| kk H0 H hM hm hu
theorem sMo_server_219 {G : zG} {d : Nat} {ad : Nat → Nat} {μ : zMm} {P : Option Value → zMm → Prop} {st : List Value} {o0 : Option Value} {o1 : Option Value} {o2 : Option Value} {o4 : Option Value} {x3 : Int32} (kt : (¬ x3 = (nI 12)) → mW G d ad M_Mo_server 227 [o0, o1, o2, some (.int x3), o4] st μ P) (kf : (x3 = (nI 12)) → mW G d ad M_Mo_server 225 [o0, o1, o2, some (.int x3), o4] st μ P) : mW G d ad M_Mo_server 219 [o0, o1, o2, some (.int x3), o4] st μ P :=
  fun H0 H hM hm hu => zw_iload_n (i := 3) dMo_server_219 rfl rfl <| zw_bipush (nI 12) dMo_server_220 zkb_12 <| zw_icmp_ne 227 dMo_server_222 (by decide) (fun h => kt h H0 H hM hm hu) (fun h => kf h H0 H hM hm hu)
theorem sMo_server_225 {G : zG} {d : Nat} {ad : Nat → Nat} {μ : zMm} {P : Option Value → zMm → Prop} {o0 : Option Value} {o1 : Option Value} {o2 : Option Value} {o3 : Option Value} {o4 : Option Value} (hq : P (some (.int (-1 : Int32))) μ) : mW G d ad M_Mo_server 225 [o0, o1, o2, o3, o4] [] μ P :=
  fun H0 H hM hm hu => zw_iconst (-1 : Int32) dMo_server_225 zki_m1 <| zw_iret dMo_server_226 .int rfl rfl ⟨μ, hq, hM, hm, hu⟩
theorem sMo_server_227 {G : zG} {d : Nat} {ad : Nat → Nat} {μ : zMm} {P : Option Value → zMm → Prop} {st : List Value} {o1 : Option Value} {o2 : Option Value} {o4 : Option Value} {x3 : Int32} (kt : (¬ x3 = (μ.1 16)) → mW G d ad M_Mo_server 245 [some (.ref (ad 50)), o1, o2, some (.int x3), o4] ((.ref (ad 50)) :: st) μ P) (kf : (x3 = (μ.1 16)) → mW G d ad M_Mo_server 236 [some (.ref (ad 50)), o1, o2, some (.int x3), o4] ((.ref (ad 50)) :: st) μ P) : mW G d ad M_Mo_server 227 [some (.ref (ad 50)), o1, o2, some (.int x3), o4] st μ P :=
  fun H0 H hM hm hu => zw_aload_n (i := 0) dMo_server_227 rfl rfl zRf_ref <| zw_iload_n (i := 3) dMo_server_228 rfl rfl <| zw_aload_n (i := 0) dMo_server_229 rfl rfl zRf_ref <| zw_getf dMo_server_230 zf_Mo_165 (hM.fi 16 (Nat.le_of_ble_eq_true rfl) mz_16) <| zw_icmp_ne 245 dMo_server_233 (by decide) (fun h => kt h H0 H hM hm hu) (fun h => kf h H0 H hM hm hu)
theorem sMo_server_236 {G : zG} {d : Nat} {ad : Nat → Nat} {μ : zMm} {P : Option Value → zMm → Prop} {st : List Value} {o1 : Option Value} {o2 : Option Value} {o3 : Option Value} {o4 : Option Value} (kk : mW G d ad M_Mo_server 252 [some (.ref (ad 50)), o1, o2, o3, o4] st (upd μ.1 16 ((μ.1 16) + (nI 1)), μ.2) P) : mW G d ad M_Mo_server 236 [some (.ref (ad 50)), o1, o2, o3, o4] ((.ref (ad 50)) :: st) μ P :=
  fun H0 H hM hm hu => zw_aload_n (i := 0) dMo_server_236 rfl rfl zRf_ref <| zw_getf dMo_server_237 zf_Mo_165 (hM.fi 16 (Nat.le_of_ble_eq_true rfl) mz_16) <| zw_iconst (nI 1) dMo_server_240 zki_1 <| zw_iadd dMo_server_241 <| zw_goto 249 dMo_server_242 (by decide) <| (mw_puti (M := M_Mo_server) (pc := 249) (k := 16) (v := ((μ.1 16) + (nI 1))) dMo_server_249 zp_Mo_server_165 (Nat.le_of_ble_eq_true rfl) mz_16 rfl rfl kk) H0 H hM hm hu
theorem sMo_server_245 {G : zG} {d : Nat} {ad : Nat → Nat} {μ : zMm} {P : Option Value → zMm → Prop} {st : List Value} {o1 : Option Value} {o2 : Option Value} {o3 : Option Value} {o4 : Option Value} (kk : mW G d ad M_Mo_server 252 [some (.ref (ad 50)), o1, o2, o3, o4] st (upd μ.1 16 (μ.1 16), μ.2) P) : mW G d ad M_Mo_server 245 [some (.ref (ad 50)), o1, o2, o3, o4] ((.ref (ad 50)) :: st) μ P :=
  fun H0 H hM hm hu => zw_aload_n (i := 0) dMo_server_245 rfl rfl zRf_ref <| zw_getf dMo_server_246 zf_Mo_165 (hM.fi 16 (Nat.le_of_ble_eq_true rfl) mz_16) <| (mw_puti (M := M_Mo_server) (pc := 249) (k := 16) (v := (μ.1 16)) dMo_server_249 zp_Mo_server_165 (Nat.le_of_ble_eq_true rfl) mz_16 rfl rfl kk) H0 H hM hm hu
theorem sMo_server_249 {G : zG} {d : Nat} {ad : Nat → Nat} {μ : zMm} {P : Option Value → zMm → Prop} {st : List Value} {o0 : Option Value} {o1 : Option Value} {o2 : Option Value} {o3 : Option Value} {o4 : Option Value} {xs0 : Int32} (kk : mW G d ad M_Mo_server 252 [o0, o1, o2, o3, o4] st (upd μ.1 16 xs0, μ.2) P) : mW G d ad M_Mo_server 249 [o0, o1, o2, o3, o4] ((.int xs0) :: (.ref (ad 50)) :: st) μ P :=
  fun H0 H hM hm hu => (mw_puti (M := M_Mo_server) (pc := 249) (k := 16) (v := xs0) dMo_server_249 zp_Mo_server_165 (Nat.le_of_ble_eq_true rfl) mz_16 rfl rfl kk) H0 H hM hm hu
theorem sMo_server_252 {G : zG} {d : Nat} {ad : Nat → Nat} {μ : zMm} {P : Option Value → zMm → Prop} {st : List Value} {o1 : Option Value} {o2 : Option Value} {o4 : Option Value} {x3 : Int32} {P2 : zMm → Prop} (hd : 1 ≤ d) (hl : st.length ≤ 4) (hc : mC G (d - 1) ad M_Mo_copyRow [(.ref (ad 50)), (.int ((nI 6) + x3)), (.int (nI 3))] μ (mPv P2)) (kk : ∀ μ1 : zMm, P2 μ1 → mW G d ad M_Mo_server 261 [some (.ref (ad 50)), o1, o2, some (.int x3), o4] st μ1 P) : mW G d ad M_Mo_server 252 [some (.ref (ad 50)), o1, o2, some (.int x3), o4] st μ P :=
  fun H0 H hM hm hu => zw_aload_n (i := 0) dMo_server_252 rfl rfl zRf_ref <| zw_bipush (nI 6) dMo_server_253 zkb_6 <| zw_iload_n (i := 3) dMo_server_255 rfl rfl <| zw_iadd dMo_server_256 <| zw_iconst (nI 3) dMo_server_257 zki_3 <| zw_callV [(.int ((nI 6) + x3)), (.int (nI 3))] _ dMo_server_258 hd zk_Mo_148 hM.is rfl rfl hl (hc H hM) (mPv_k kk hm hu)
theorem sMo_server_261 {G : zG} {d : Nat} {ad : Nat → Nat} {μ : zMm} {P : Option Value → zMm → Prop} {st : List Value} {o1 : Option Value} {o4 : Option Value} {x3 : Int32} {x2 : Int32} {i : Nat} (hx : x3 = nI i) (hi : i < mLn 18) (kk : mW G d ad M_Mo_server 273 [some (.ref (ad 50)), o1, some (.int x2), some (.int x3), o4] st (μ.1, updA μ.2 18 i ((μ.1 3) - x2)) P) : mW G d ad M_Mo_server 261 [some (.ref (ad 50)), o1, some (.int x2), some (.int x3), o4] st μ P :=
  fun H0 H hM hm hu => zw_aload_n (i := 0) dMo_server_261 rfl rfl zRf_ref <| zw_getf dMo_server_262 zf_Mo_171 (hM.fa 18 (Nat.le_of_ble_eq_true rfl) mn_18) <| zw_iload_n (i := 3) dMo_server_265 rfl rfl <| zw_aload_n (i := 0) dMo_server_266 rfl rfl zRf_ref <| zw_getf dMo_server_267 zf_Mo_18 (hM.fi 3 (Nat.le_of_ble_eq_true rfl) mz_3) <| zw_iload_n (i := 2) dMo_server_270 rfl rfl <| zw_isub dMo_server_271 <| (mw_iast (M := M_Mo_server) (pc := 272) (k := 18) dMo_server_272 mk_18 hx hi kk) H0 H hM hm hu
theorem sMo_server_273 {G : zG} {d : Nat} {ad : Nat → Nat} {μ : zMm} {P : Option Value → zMm → Prop} {st : List Value} {o0 : Option Value} {o1 : Option Value} {o2 : Option Value} {o3 : Option Value} {o4 : Option Value} (kk : mW G d ad M_Mo_server 276 [o0, o1, o2, o3, some (.int (nI 0))] st μ P) : mW G d ad M_Mo_server 273 [o0, o1, o2, o3, o4] st μ P :=
  fun H0 H hM hm hu => zw_iconst (nI 0) dMo_server_273 zki_0 <| zw_istore (i := 4) dMo_server_274 (Nat.le_of_ble_eq_true rfl) <| kk H0 H hM hm hu
theorem sMo_server_276 {G : zG} {d : Nat} {ad : Nat → Nat} {μ : zMm} {P : Option Value → zMm → Prop} {st : List Value} {o1 : Option Value} {o2 : Option Value} {x4 : Int32} {x3 : Int32} {i1 : Nat} (hx1 : x3 = nI i1) (hi1 : i1 < mLn 18) (kt : ((μ.2 18 i1) ≤ x4) → mW G d ad M_Mo_server 315 [some (.ref (ad 50)), o1, o2, some (.int x3), some (.int x4)] st μ P) (kf : (¬ (μ.2 18 i1) ≤ x4) → mW G d ad M_Mo_server 287 [some (.ref (ad 50)), o1, o2, some (.int x3), some (.int x4)] st μ P) : mW G d ad M_Mo_server 276 [some (.ref (ad 50)), o1, o2, some (.int x3), some (.int x4)] st μ P :=
  fun H0 H hM hm hu => zw_iload (i := 4) dMo_server_276 rfl <| zw_aload_n (i := 0) dMo_server_278 rfl rfl zRf_ref <| zw_getf dMo_server_279 zf_Mo_171 (hM.fa 18 (Nat.le_of_ble_eq_true rfl) mn_18) <| zw_iload_n (i := 3) dMo_server_282 rfl rfl <| zw_ialdN (g := μ.2 18) dMo_server_283 (hM.ai mk_18) hx1 hi1 (mLn_le _) <| zw_icmp_ge 315 dMo_server_284 (by decide) (fun h => kt h H0 H hM hm hu) (fun h => kf h H0 H hM hm hu)
theorem sMo_server_287 {G : zG} {d : Nat} {ad : Nat → Nat} {μ : zMm} {P : Option Value → zMm → Prop} {st : List Value} {o1 : Option Value} {x3 : Int32} {x4 : Int32} {x2 : Int32} {i1 : Nat} {i : Nat} (hx1 : (x2 + x4) = nI i1) (hi1 : i1 < mLn 2) (hx : ((x3 * (nI 1500)) + x4) = nI i) (hi : i < mLn 17) (kk : mW G d ad M_Mo_server 309 [some (.ref (ad 50)), o1, some (.int x2), some (.int x3), some (.int x4)] st (μ.1, updA μ.2 17 i ((μ.2 2 i1)).toInt8.toInt32) P) : mW G d ad M_Mo_server 287 [some (.ref (ad 50)), o1, some (.int x2), some (.int x3), some (.int x4)] st μ P :=
  fun H0 H hM hm hu => zw_aload_n (i := 0) dMo_server_287 rfl rfl zRf_ref <| zw_getf dMo_server_288 zf_Mo_174 (hM.fa 17 (Nat.le_of_ble_eq_true rfl) mn_17) <| zw_iload_n (i := 3) dMo_server_291 rfl rfl <| zw_sipush (nI 1500) dMo_server_292 zks_1500 <| zw_imul dMo_server_295 <| zw_iload (i := 4) dMo_server_296 rfl <| zw_iadd dMo_server_298 <| zw_aload_n (i := 0) dMo_server_299 rfl rfl zRf_ref <| zw_getf dMo_server_300 zf_Mo_21 (hM.fa 2 (Nat.le_of_ble_eq_true rfl) mn_2) <| zw_iload_n (i := 2) dMo_server_303 rfl rfl <| zw_iload (i := 4) dMo_server_304 rfl <| zw_iadd dMo_server_306 <| zw_baldN (g := μ.2 2) dMo_server_307 (hM.ab mk_2) hx1 hi1 (mLn_le _) <| (mw_bast (M := M_Mo_server) (pc := 308) (k := 17) dMo_server_308 mk_17 hx hi kk) H0 H hM hm hu
theorem sMo_server_309 {G : zG} {d : Nat} {ad : Nat → Nat} {μ : zMm} {P : Option Value → zMm → Prop} {st : List Value} {o0 : Option Value} {o1 : Option Value} {o2 : Option Value} {o3 : Option Value} {x4 : Int32} (kk : mW G d ad M_Mo_server 276 [o0, o1, o2, o3, some (.int (x4 + (nI 1)))] st μ P) : mW G d ad M_Mo_server 309 [o0, o1, o2, o3, some (.int x4)] st μ P :=
  fun H0 H hM hm hu => zw_iinc (i := 4) (x4 + (nI 1)) dMo_server_309 rfl (congrArg (fun z => x4 + z) zki_1) <| zw_goto 276 dMo_server_312 (by decide) <| kk H0 H hM hm hu
theorem sMo_server_315 {G : zG} {d : Nat} {ad : Nat → Nat} {μ : zMm} {P : Option Value → zMm → Prop} {st : List Value} {o1 : Option Value} {o2 : Option Value} {o4 : Option Value} {x3 : Int32} {i : Nat} (hx : x3 = nI i) (hi : i < mLn 19) (kk : mW G d ad M_Mo_server 325 [some (.ref (ad 50)), o1, o2, some (.int x3), o4] st (μ.1, updA μ.2 19 i (μ.1 38)) P) : mW G d ad M_Mo_server 315 [some (.ref (ad 50)), o1, o2, some (.int x3), o4] st μ P :=
  fun H0 H hM hm hu => zw_aload_n (i := 0) dMo_server_315 rfl rfl zRf_ref <| zw_getf dMo_server_316 zf_Mo_177 (hM.fa 19 (Nat.le_of_ble_eq_true rfl) mn_19) <| zw_iload_n (i := 3) dMo_server_319 rfl rfl <| zw_aload_n (i := 0) dMo_server_320 rfl rfl zRf_ref <| zw_getf dMo_server_321 zf_Mo_125 (hM.fi 38 (Nat.le_of_ble_eq_true rfl) mz_38) <| (mw_iast (M := M_Mo_server) (pc := 324) (k := 19) dMo_server_324 mk_19 hx hi kk) H0 H hM hm hu
theorem sMo_server_325 {G : zG} {d : Nat} {ad : Nat → Nat} {μ : zMm} {P : Option Value → zMm → Prop} {st : List Value} {o1 : Option Value} {o2 : Option Value} {o4 : Option Value} {x3 : Int32} {i : Nat} (hx : x3 = nI i) (hi : i < mLn 21) (kk : mW G d ad M_Mo_server 335 [some (.ref (ad 50)), o1, o2, some (.int x3), o4] st (μ.1, updA μ.2 21 i (μ.1 39)) P) : mW G d ad M_Mo_server 325 [some (.ref (ad 50)), o1, o2, some (.int x3), o4] st μ P :=
  fun H0 H hM hm hu => zw_aload_n (i := 0) dMo_server_325 rfl rfl zRf_ref <| zw_getf dMo_server_326 zf_Mo_180 (hM.fa 21 (Nat.le_of_ble_eq_true rfl) mn_21) <| zw_iload_n (i := 3) dMo_server_329 rfl rfl <| zw_aload_n (i := 0) dMo_server_330 rfl rfl zRf_ref <| zw_getf dMo_server_331 zf_Mo_130 (hM.fi 39 (Nat.le_of_ble_eq_true rfl) mz_39) <| (mw_iast (M := M_Mo_server) (pc := 334) (k := 21) dMo_server_334 mk_21 hx hi kk) H0 H hM hm hu
theorem sMo_server_335 {G : zG} {d : Nat} {ad : Nat → Nat} {μ : zMm} {P : Option Value → zMm → Prop} {st : List Value} {o1 : Option Value} {o2 : Option Value} {o4 : Option Value} {x3 : Int32} {i : Nat} (hx : x3 = nI i) (hi : i < mLn 22) (kk : mW G d ad M_Mo_server 345 [some (.ref (ad 50)), o1, o2, some (.int x3), o4] st (μ.1, updA μ.2 22 i (μ.1 40)) P) : mW G d ad M_Mo_server 335 [some (.ref (ad 50)), o1, o2, some (.int x3), o4] st μ P :=
  fun H0 H hM hm hu => zw_aload_n (i := 0) dMo_server_335 rfl rfl zRf_ref <| zw_getf dMo_server_336 zf_Mo_183 (hM.fa 22 (Nat.le_of_ble_eq_true rfl) mn_22) <| zw_iload_n (i := 3) dMo_server_339 rfl rfl <| zw_aload_n (i := 0) dMo_server_340 rfl rfl zRf_ref <| zw_getf dMo_server_341 zf_Mo_133 (hM.fi 40 (Nat.le_of_ble_eq_true rfl) mz_40) <| (mw_iast (M := M_Mo_server) (pc := 344) (k := 22) dMo_server_344 mk_22 hx hi kk) H0 H hM hm hu
theorem sMo_server_345 {G : zG} {d : Nat} {ad : Nat → Nat} {μ : zMm} {P : Option Value → zMm → Prop} {st : List Value} {o0 : Option Value} {o1 : Option Value} {o2 : Option Value} {o3 : Option Value} {o4 : Option Value} (kk : mW G d ad M_Mo_server 348 [o0, o1, o2, o3, some (.int (nI 0))] st μ P) : mW G d ad M_Mo_server 345 [o0, o1, o2, o3, o4] st μ P :=
  fun H0 H hM hm hu => zw_iconst (nI 0) dMo_server_345 zki_0 <| zw_istore (i := 4) dMo_server_346 (Nat.le_of_ble_eq_true rfl) <| kk H0 H hM hm hu
theorem sMo_server_348 {G : zG} {d : Nat} {ad : Nat → Nat} {μ : zMm} {P : Option Value → zMm → Prop} {st : List Value} {o0 : Option Value} {o1 : Option Value} {o2 : Option Value} {o3 : Option Value} {x4 : Int32} (kt : ((nI 16) ≤ x4) → mW G d ad M_Mo_server 380 [o0, o1, o2, o3, some (.int x4)] st μ P) (kf : (¬ (nI 16) ≤ x4) → mW G d ad M_Mo_server 355 [o0, o1, o2, o3, some (.int x4)] st μ P) : mW G d ad M_Mo_server 348 [o0, o1, o2, o3, some (.int x4)] st μ P :=
  fun H0 H hM hm hu => zw_iload (i := 4) dMo_server_348 rfl <| zw_bipush (nI 16) dMo_server_350 zkb_16 <| zw_icmp_ge 380 dMo_server_352 (by decide) (fun h => kt h H0 H hM hm hu) (fun h => kf h H0 H hM hm hu)
theorem sMo_server_355 {G : zG} {d : Nat} {ad : Nat → Nat} {μ : zMm} {P : Option Value → zMm → Prop} {st : List Value} {o1 : Option Value} {o2 : Option Value} {x3 : Int32} {x4 : Int32} {i1 : Nat} {i : Nat} (hx1 : x4 = nI i1) (hi1 : i1 < mLn 43) (hx : (((nI 16) * x3) + x4) = nI i) (hi : i < mLn 20) (kk : mW G d ad M_Mo_server 374 [some (.ref (ad 50)), o1, o2, some (.int x3), some (.int x4)] st (μ.1, updA μ.2 20 i ((μ.2 43 i1)).toInt8.toInt32) P) : mW G d ad M_Mo_server 355 [some (.ref (ad 50)), o1, o2, some (.int x3), some (.int x4)] st μ P :=
  fun H0 H hM hm hu => zw_aload_n (i := 0) dMo_server_355 rfl rfl zRf_ref <| zw_getf dMo_server_356 zf_Mo_186 (hM.fa 20 (Nat.le_of_ble_eq_true rfl) mn_20) <| zw_bipush (nI 16) dMo_server_359 zkb_16 <| zw_iload_n (i := 3) dMo_server_361 rfl rfl <| zw_imul dMo_server_362 <| zw_iload (i := 4) dMo_server_363 rfl <| zw_iadd dMo_server_365 <| zw_aload_n (i := 0) dMo_server_366 rfl rfl zRf_ref <| zw_getf dMo_server_367 zf_Mo_136 (hM.fa 43 (Nat.le_of_ble_eq_true rfl) mn_43) <| zw_iload (i := 4) dMo_server_370 rfl <| zw_baldN (g := μ.2 43) dMo_server_372 (hM.ab mk_43) hx1 hi1 (mLn_le _) <| (mw_bast (M := M_Mo_server) (pc := 373) (k := 20) dMo_server_373 mk_20 hx hi kk) H0 H hM hm hu
theorem sMo_server_374 {G : zG} {d : Nat} {ad : Nat → Nat} {μ : zMm} {P : Option Value → zMm → Prop} {st : List Value} {o0 : Option Value} {o1 : Option Value} {o2 : Option Value} {o3 : Option Value} {x4 : Int32} (kk : mW G d ad M_Mo_server 348 [o0, o1, o2, o3, some (.int (x4 + (nI 1)))] st μ P) : mW G d ad M_Mo_server 374 [o0, o1, o2, o3, some (.int x4)] st μ P :=
  fun H0 H hM hm hu => zw_iinc (i := 4) (x4 + (nI 1)) dMo_server_374 rfl (congrArg (fun z => x4 + z) zki_1) <| zw_goto 348 dMo_server_377 (by decide) <| kk H0 H hM hm hu
theorem sMo_server_380 {G : zG} {d : Nat} {ad : Nat → Nat} {μ : zMm} {P : Option Value → zMm → Prop} {st : List Value} {o1 : Option Value} {o2 : Option Value} {o4 : Option Value} {x3 : Int32} (kt : ((μ.1 41) ≤ 0) → mW G d ad M_Mo_server 396 [some (.ref (ad 50)), o1, o2, some (.int x3), o4] ((.int x3) :: (.ref (ad 23)) :: st) μ P) (kf : (¬ (μ.1 41) ≤ 0) → mW G d ad M_Mo_server 392 [some (.ref (ad 50)), o1, o2, some (.int x3), o4] ((.int x3) :: (.ref (ad 23)) :: st) μ P) : mW G d ad M_Mo_server 380 [some (.ref (ad 50)), o1, o2, some (.int x3), o4] st μ P :=
  fun H0 H hM hm hu => zw_aload_n (i := 0) dMo_server_380 rfl rfl zRf_ref <| zw_getf dMo_server_381 zf_Mo_189 (hM.fa 23 (Nat.le_of_ble_eq_true rfl) mn_23) <| zw_iload_n (i := 3) dMo_server_384 rfl rfl <| zw_aload_n (i := 0) dMo_server_385 rfl rfl zRf_ref <| zw_getf dMo_server_386 zf_Mo_141 (hM.fi 41 (Nat.le_of_ble_eq_true rfl) mz_41) <| zw_if_le 396 dMo_server_389 (by decide) (fun h => kt h H0 H hM hm hu) (fun h => kf h H0 H hM hm hu)
theorem sMo_server_392 {G : zG} {d : Nat} {ad : Nat → Nat} {μ : zMm} {P : Option Value → zMm → Prop} {st : List Value} {o0 : Option Value} {o1 : Option Value} {o2 : Option Value} {o3 : Option Value} {o4 : Option Value} {xs0 : Int32} {ks1 : Nat} {i : Nat} (hkks1 : mZ ks1) (hx : xs0 = nI i) (hi : i < mLn ks1) (hn : narrow .boolean (.int (nI 1)) = .int (nI 1)) (kk : mW G d ad M_Mo_server 398 [o0, o1, o2, o3, o4] st (μ.1, updA μ.2 ks1 i (nI 1)) P) : mW G d ad M_Mo_server 392 [o0, o1, o2, o3, o4] ((.int xs0) :: (.ref (ad ks1)) :: st) μ P :=
  fun H0 H hM hm hu => zw_iconst (nI 1) dMo_server_392 zki_1 <| zw_goto 397 dMo_server_393 (by decide) <| (mw_zast (M := M_Mo_server) (pc := 397) (k := ks1) dMo_server_397 hkks1 hx hi hn kk) H0 H hM hm hu
theorem sMo_server_396 {G : zG} {d : Nat} {ad : Nat → Nat} {μ : zMm} {P : Option Value → zMm → Prop} {st : List Value} {o0 : Option Value} {o1 : Option Value} {o2 : Option Value} {o3 : Option Value} {o4 : Option Value} {xs0 : Int32} {ks1 : Nat} {i : Nat} (hkks1 : mZ ks1) (hx : xs0 = nI i) (hi : i < mLn ks1) (hn : narrow .boolean (.int (nI 0)) = .int (nI 0)) (kk : mW G d ad M_Mo_server 398 [o0, o1, o2, o3, o4] st (μ.1, updA μ.2 ks1 i (nI 0)) P) : mW G d ad M_Mo_server 396 [o0, o1, o2, o3, o4] ((.int xs0) :: (.ref (ad ks1)) :: st) μ P :=
  fun H0 H hM hm hu => zw_iconst (nI 0) dMo_server_396 zki_0 <| (mw_zast (M := M_Mo_server) (pc := 397) (k := ks1) dMo_server_397 hkks1 hx hi hn kk) H0 H hM hm hu
theorem sMo_server_397 {G : zG} {d : Nat} {ad : Nat → Nat} {μ : zMm} {P : Option Value → zMm → Prop} {st : List Value} {o0 : Option Value} {o1 : Option Value} {o2 : Option Value} {o3 : Option Value} {o4 : Option Value} {xs0 : Int32} {xs1 : Int32} {ks2 : Nat} {i : Nat} (hkks2 : mZ ks2) (hx : xs1 = nI i) (hi : i < mLn ks2) (hn : narrow .boolean (.int xs0) = .int xs0) (kk : mW G d ad M_Mo_server 398 [o0, o1, o2, o3, o4] st (μ.1, updA μ.2 ks2 i xs0) P) : mW G d ad M_Mo_server 397 [o0, o1, o2, o3, o4] ((.int xs0) :: (.int xs1) :: (.ref (ad ks2)) :: st) μ P :=
  fun H0 H hM hm hu => (mw_zast (M := M_Mo_server) (pc := 397) (k := ks2) dMo_server_397 hkks2 hx hi hn kk) H0 H hM hm hu
theorem sMo_server_398 {G : zG} {d : Nat} {ad : Nat → Nat} {μ : zMm} {P : Option Value → zMm → Prop} {st : List Value} {o1 : Option Value} {o2 : Option Value} {o4 : Option Value} {x3 : Int32} {i1 : Nat} (hx1 : x3 = nI i1) (hi1 : i1 < mLn 23) (kt : ((μ.2 23 i1) = 0) → mW G d ad M_Mo_server 416 [some (.ref (ad 50)), o1, o2, some (.int x3), o4] st μ P) (kf : (¬ (μ.2 23 i1) = 0) → mW G d ad M_Mo_server 407 [some (.ref (ad 50)), o1, o2, some (.int x3), o4] st μ P) : mW G d ad M_Mo_server 398 [some (.ref (ad 50)), o1, o2, some (.int x3), o4] st μ P :=
  fun H0 H hM hm hu => zw_aload_n (i := 0) dMo_server_398 rfl rfl zRf_ref <| zw_getf dMo_server_399 zf_Mo_189 (hM.fa 23 (Nat.le_of_ble_eq_true rfl) mn_23) <| zw_iload_n (i := 3) dMo_server_402 rfl rfl <| zw_zaldN (g := μ.2 23) dMo_server_403 (hM.az mk_23) hx1 hi1 (mLn_le _) <| zw_if_eq 416 dMo_server_404 (by decide) (fun h => kt h H0 H hM hm hu) (fun h => kf h H0 H hM hm hu)
theorem sMo_server_407 {G : zG} {d : Nat} {ad : Nat → Nat} {μ : zMm} {P : Option Value → zMm → Prop} {st : List Value} {o1 : Option Value} {o2 : Option Value} {o4 : Option Value} {x3 : Int32} {P2 : zMm → Prop} (hd : 1 ≤ d) (hl : st.length ≤ 4) (hc : mC G (d - 1) ad M_Mo_copyRow [(.ref (ad 50)), (.int ((nI 46) + x3)), (.int (nI 4))] μ (mPv P2)) (kk : ∀ μ1 : zMm, P2 μ1 → mW G d ad M_Mo_server 416 [some (.ref (ad 50)), o1, o2, some (.int x3), o4] st μ1 P) : mW G d ad M_Mo_server 407 [some (.ref (ad 50)), o1, o2, some (.int x3), o4] st μ P :=
  fun H0 H hM hm hu => zw_aload_n (i := 0) dMo_server_407 rfl rfl zRf_ref <| zw_bipush (nI 46) dMo_server_408 zkb_46 <| zw_iload_n (i := 3) dMo_server_410 rfl rfl <| zw_iadd dMo_server_411 <| zw_iconst (nI 4) dMo_server_412 zki_4 <| zw_callV [(.int ((nI 46) + x3)), (.int (nI 4))] _ dMo_server_413 hd zk_Mo_148 hM.is rfl rfl hl (hc H hM) (mPv_k kk hm hu)
theorem sMo_server_416 {G : zG} {d : Nat} {ad : Nat → Nat} {μ : zMm} {P : Option Value → zMm → Prop} {st : List Value} {o1 : Option Value} {o2 : Option Value} {o4 : Option Value} {x3 : Int32} (kt : ((μ.1 42) ≤ 0) → mW G d ad M_Mo_server 432 [some (.ref (ad 50)), o1, o2, some (.int x3), o4] ((.int x3) :: (.ref (ad 24)) :: st) μ P) (kf : (¬ (μ.1 42) ≤ 0) → mW G d ad M_Mo_server 428 [some (.ref (ad 50)), o1, o2, some (.int x3), o4] ((.int x3) :: (.ref (ad 24)) :: st) μ P) : mW G d ad M_Mo_server 416 [some (.ref (ad 50)), o1, o2, some (.int x3), o4] st μ P :=
  fun H0 H hM hm hu => zw_aload_n (i := 0) dMo_server_416 rfl rfl zRf_ref <| zw_getf dMo_server_417 zf_Mo_193 (hM.fa 24 (Nat.le_of_ble_eq_true rfl) mn_24) <| zw_iload_n (i := 3) dMo_server_420 rfl rfl <| zw_aload_n (i := 0) dMo_server_421 rfl rfl zRf_ref <| zw_getf dMo_server_422 zf_Mo_120 (hM.fi 42 (Nat.le_of_ble_eq_true rfl) mz_42) <| zw_if_le 432 dMo_server_425 (by decide) (fun h => kt h H0 H hM hm hu) (fun h => kf h H0 H hM hm hu)
theorem sMo_server_428 {G : zG} {d : Nat} {ad : Nat → Nat} {μ : zMm} {P : Option Value → zMm → Prop} {st : List Value} {o0 : Option Value} {o1 : Option Value} {o2 : Option Value} {o3 : Option Value} {o4 : Option Value} {xs0 : Int32} {ks1 : Nat} {i : Nat} (hkks1 : mZ ks1) (hx : xs0 = nI i) (hi : i < mLn ks1) (hn : narrow .boolean (.int (nI 1)) = .int (nI 1)) (kk : mW G d ad M_Mo_server 434 [o0, o1, o2, o3, o4] st (μ.1, updA μ.2 ks1 i (nI 1)) P) : mW G d ad M_Mo_server 428 [o0, o1, o2, o3, o4] ((.int xs0) :: (.ref (ad ks1)) :: st) μ P :=
  fun H0 H hM hm hu => zw_iconst (nI 1) dMo_server_428 zki_1 <| zw_goto 433 dMo_server_429 (by decide) <| (mw_zast (M := M_Mo_server) (pc := 433) (k := ks1) dMo_server_433 hkks1 hx hi hn kk) H0 H hM hm hu
theorem sMo_server_432 {G : zG} {d : Nat} {ad : Nat → Nat} {μ : zMm} {P : Option Value → zMm → Prop} {st : List Value} {o0 : Option Value} {o1 : Option Value} {o2 : Option Value} {o3 : Option Value} {o4 : Option Value} {xs0 : Int32} {ks1 : Nat} {i : Nat} (hkks1 : mZ ks1) (hx : xs0 = nI i) (hi : i < mLn ks1) (hn : narrow .boolean (.int (nI 0)) = .int (nI 0)) (kk : mW G d ad M_Mo_server 434 [o0, o1, o2, o3, o4] st (μ.1, updA μ.2 ks1 i (nI 0)) P) : mW G d ad M_Mo_server 432 [o0, o1, o2, o3, o4] ((.int xs0) :: (.ref (ad ks1)) :: st) μ P :=
  fun H0 H hM hm hu => zw_iconst (nI 0) dMo_server_432 zki_0 <| (mw_zast (M := M_Mo_server) (pc := 433) (k := ks1) dMo_server_433 hkks1 hx hi hn kk) H0 H hM hm hu
theorem sMo_server_433 {G : zG} {d : Nat} {ad : Nat → Nat} {μ : zMm} {P : Option Value → zMm → Prop} {st : List Value} {o0 : Option Value} {o1 : Option Value} {o2 : Option Value} {o3 : Option Value} {o4 : Option Value} {xs0 : Int32} {xs1 : Int32} {ks2 : Nat} {i : Nat} (hkks2 : mZ ks2) (hx : xs1 = nI i) (hi : i < mLn ks2) (hn : narrow .boolean (.int xs0) = .int xs0) (kk : mW G d ad M_Mo_server 434 [o0, o1, o2, o3, o4] st (μ.1, updA μ.2 ks2 i xs0) P) : mW G d ad M_Mo_server 433 [o0, o1, o2, o3, o4] ((.int xs0) :: (.int xs1) :: (.ref (ad ks2)) :: st) μ P :=
  fun H0 H hM hm hu => (mw_zast (M := M_Mo_server) (pc := 433) (k := ks2) dMo_server_433 hkks2 hx hi hn kk) H0 H hM hm hu
theorem sMo_server_434 {G : zG} {d : Nat} {ad : Nat → Nat} {μ : zMm} {P : Option Value → zMm → Prop} {o1 : Option Value} {o2 : Option Value} {o3 : Option Value} {o4 : Option Value} (hq : P (some (.int (μ.1 16))) μ) : mW G d ad M_Mo_server 434 [some (.ref (ad 50)), o1, o2, o3, o4] [] μ P :=
  fun H0 H hM hm hu => zw_aload_n (i := 0) dMo_server_434 rfl rfl zRf_ref <| zw_getf dMo_server_435 zf_Mo_165 (hM.fi 16 (Nat.le_of_ble_eq_true rfl) mz_16) <| zw_iret dMo_server_438 .int rfl rfl ⟨μ, hq, hM, hm, hu⟩
theorem sMo_take_0 {G : zG} {d : Nat} {ad : Nat → Nat} {μ : zMm} {P : Option Value → zMm → Prop} {st : List Value} {o1 : Option Value} {o2 : Option Value} (kk : mW G d ad M_Mo_take 8 [some (.ref (ad 50)), o1, o2] st (upd μ.1 3 (μ.1 1), μ.2) P) : mW G d ad M_Mo_take 0 [some (.ref (ad 50)), o1, o2] st μ P :=
  fun H0 H hM hm hu => zw_aload_n (i := 0) dMo_take_0 rfl rfl zRf_ref <| zw_aload_n (i := 0) dMo_take_1 rfl rfl zRf_ref <| zw_getf dMo_take_2 zf_Mo_15 (hM.fi 1 (Nat.le_of_ble_eq_true rfl) mz_1) <| (mw_puti (M := M_Mo_take) (pc := 5) (k := 3) (v := (μ.1 1)) dMo_take_5 zp_Mo_take_18 (Nat.le_of_ble_eq_true rfl) mz_3 rfl rfl kk) H0 H hM hm hu
theorem sMo_take_8 {G : zG} {d : Nat} {ad : Nat → Nat} {μ : zMm} {P : Option Value → zMm → Prop} {st : List Value} {o0 : Option Value} {o1 : Option Value} {o2 : Option Value} (kk : mW G d ad M_Mo_take 10 [o0, some (.int (nI 0)), o2] st μ P) : mW G d ad M_Mo_take 8 [o0, o1, o2] st μ P :=
  fun H0 H hM hm hu => zw_iconst (nI 0) dMo_take_8 zki_0 <| zw_istore_n (i := 1) dMo_take_9 rfl (Nat.le_of_ble_eq_true rfl) <| kk H0 H hM hm hu
theorem sMo_take_10 {G : zG} {d : Nat} {ad : Nat → Nat} {μ : zMm} {P : Option Value → zMm → Prop} {st : List Value} {o2 : Option Value} {x1 : Int32} (kt : ((μ.1 3) ≤ x1) → mW G d ad M_Mo_take 36 [some (.ref (ad 50)), some (.int x1), o2] st μ P) (kf : (¬ (μ.1 3) ≤ x1) → mW G d ad M_Mo_take 18 [some (.ref (ad 50)), some (.int x1), o2] st μ P) : mW G d ad M_Mo_take 10 [some (.ref (ad 50)), some (.int x1), o2] st μ P :=
  fun H0 H hM hm hu => zw_iload_n (i := 1) dMo_take_10 rfl rfl <| zw_aload_n (i := 0) dMo_take_11 rfl rfl zRf_ref <| zw_getf dMo_take_12 zf_Mo_18 (hM.fi 3 (Nat.le_of_ble_eq_true rfl) mz_3) <| zw_icmp_ge 36 dMo_take_15 (by decide) (fun h => kt h H0 H hM hm hu) (fun h => kf h H0 H hM hm hu)
theorem sMo_take_18 {G : zG} {d : Nat} {ad : Nat → Nat} {μ : zMm} {P : Option Value → zMm → Prop} {st : List Value} {o2 : Option Value} {x1 : Int32} {i1 : Nat} {i : Nat} (hx1 : x1 = nI i1) (hi1 : i1 < mLn 0) (hx : x1 = nI i) (hi : i < mLn 2) (kk : mW G d ad M_Mo_take 30 [some (.ref (ad 50)), some (.int x1), o2] st (μ.1, updA μ.2 2 i ((μ.2 0 i1)).toInt8.toInt32) P) : mW G d ad M_Mo_take 18 [some (.ref (ad 50)), some (.int x1), o2] st μ P :=
  fun H0 H hM hm hu => zw_aload_n (i := 0) dMo_take_18 rfl rfl zRf_ref <| zw_getf dMo_take_19 zf_Mo_21 (hM.fa 2 (Nat.le_of_ble_eq_true rfl) mn_2) <| zw_iload_n (i := 1) dMo_take_22 rfl rfl <| zw_aload_n (i := 0) dMo_take_23 rfl rfl zRf_ref <| zw_getf dMo_take_24 zf_Mo_24 (hM.fa 0 (Nat.le_of_ble_eq_true rfl) mn_0) <| zw_iload_n (i := 1) dMo_take_27 rfl rfl <| zw_baldN (g := μ.2 0) dMo_take_28 (hM.ab mk_0) hx1 hi1 (mLn_le _) <| (mw_bast (M := M_Mo_take) (pc := 29) (k := 2) dMo_take_29 mk_2 hx hi kk) H0 H hM hm hu
theorem sMo_take_30 {G : zG} {d : Nat} {ad : Nat → Nat} {μ : zMm} {P : Option Value → zMm → Prop} {st : List Value} {o0 : Option Value} {o2 : Option Value} {x1 : Int32} (kk : mW G d ad M_Mo_take 10 [o0, some (.int (x1 + (nI 1))), o2] st μ P) : mW G d ad M_Mo_take 30 [o0, some (.int x1), o2] st μ P :=
  fun H0 H hM hm hu => zw_iinc (i := 1) (x1 + (nI 1)) dMo_take_30 rfl (congrArg (fun z => x1 + z) zki_1) <| zw_goto 10 dMo_take_33 (by decide) <| kk H0 H hM hm hu
theorem sMo_take_36 {G : zG} {d : Nat} {ad : Nat → Nat} {μ : zMm} {P : Option Value → zMm → Prop} {st : List Value} {o1 : Option Value} {o2 : Option Value} (kk : mW G d ad M_Mo_take 41 [some (.ref (ad 50)), o1, o2] st (upd μ.1 1 (nI 0), μ.2) P) : mW G d ad M_Mo_take 36 [some (.ref (ad 50)), o1, o2] st μ P :=
  fun H0 H hM hm hu => zw_aload_n (i := 0) dMo_take_36 rfl rfl zRf_ref <| zw_iconst (nI 0) dMo_take_37 zki_0 <| (mw_puti (M := M_Mo_take) (pc := 38) (k := 1) (v := (nI 0)) dMo_take_38 zp_Mo_take_15 (Nat.le_of_ble_eq_true rfl) mz_1 rfl rfl kk) H0 H hM hm hu
theorem sMo_take_41 {G : zG} {d : Nat} {ad : Nat → Nat} {μ : zMm} {P : Option Value → zMm → Prop} {st : List Value} {o0 : Option Value} {o1 : Option Value} {o2 : Option Value} (kk : mW G d ad M_Mo_take 43 [o0, some (.int (nI 0)), o2] st μ P) : mW G d ad M_Mo_take 41 [o0, o1, o2] st μ P :=
  fun H0 H hM hm hu => zw_iconst (nI 0) dMo_take_41 zki_0 <| zw_istore_n (i := 1) dMo_take_42 rfl (Nat.le_of_ble_eq_true rfl) <| kk H0 H hM hm hu
theorem sMo_take_43 {G : zG} {d : Nat} {ad : Nat → Nat} {μ : zMm} {P : Option Value → zMm → Prop} {st : List Value} {o2 : Option Value} {x1 : Int32} (kt : ((μ.1 3) ≤ x1) → mW G d ad M_Mo_take 84 [some (.ref (ad 50)), some (.int x1), o2] st μ P) (kf : (¬ (μ.1 3) ≤ x1) → mW G d ad M_Mo_take 51 [some (.ref (ad 50)), some (.int x1), o2] st μ P) : mW G d ad M_Mo_take 43 [some (.ref (ad 50)), some (.int x1), o2] st μ P :=
  fun H0 H hM hm hu => zw_iload_n (i := 1) dMo_take_43 rfl rfl <| zw_aload_n (i := 0) dMo_take_44 rfl rfl zRf_ref <| zw_getf dMo_take_45 zf_Mo_18 (hM.fi 3 (Nat.le_of_ble_eq_true rfl) mz_3) <| zw_icmp_ge 84 dMo_take_48 (by decide) (fun h => kt h H0 H hM hm hu) (fun h => kf h H0 H hM hm hu)
theorem sMo_take_51 {G : zG} {d : Nat} {ad : Nat → Nat} {μ : zMm} {P : Option Value → zMm → Prop} {st : List Value} {o2 : Option Value} {x1 : Int32} {i1 : Nat} (hx1 : x1 = nI i1) (hi1 : i1 < mLn 2) (kt : ((μ.2 2 i1) = (nI 10)) → mW G d ad M_Mo_take 78 [some (.ref (ad 50)), some (.int x1), some (.int (μ.2 2 i1))] st μ P) (kf : (¬ (μ.2 2 i1) = (nI 10)) → mW G d ad M_Mo_take 64 [some (.ref (ad 50)), some (.int x1), some (.int (μ.2 2 i1))] st μ P) : mW G d ad M_Mo_take 51 [some (.ref (ad 50)), some (.int x1), o2] st μ P :=
  fun H0 H hM hm hu => zw_aload_n (i := 0) dMo_take_51 rfl rfl zRf_ref <| zw_getf dMo_take_52 zf_Mo_21 (hM.fa 2 (Nat.le_of_ble_eq_true rfl) mn_2) <| zw_iload_n (i := 1) dMo_take_55 rfl rfl <| zw_baldN (g := μ.2 2) dMo_take_56 (hM.ab mk_2) hx1 hi1 (mLn_le _) <| zw_istore_n (i := 2) dMo_take_57 rfl (Nat.le_of_ble_eq_true rfl) <| zw_iload_n (i := 2) dMo_take_58 rfl rfl <| zw_bipush (nI 10) dMo_take_59 zkb_10 <| zw_icmp_eq 78 dMo_take_61 (by decide) (fun h => kt h H0 H hM hm hu) (fun h => kf h H0 H hM hm hu)
theorem sMo_take_64 {G : zG} {d : Nat} {ad : Nat → Nat} {μ : zMm} {P : Option Value → zMm → Prop} {st : List Value} {o0 : Option Value} {o1 : Option Value} {x2 : Int32} (kt : (x2 < (nI 32)) → mW G d ad M_Mo_take 76 [o0, o1, some (.int x2)] st μ P) (kf : (¬ x2 < (nI 32)) → mW G d ad M_Mo_take 70 [o0, o1, some (.int x2)] st μ P) : mW G d ad M_Mo_take 64 [o0, o1, some (.int x2)] st μ P :=
  fun H0 H hM hm hu => zw_iload_n (i := 2) dMo_take_64 rfl rfl <| zw_bipush (nI 32) dMo_take_65 zkb_32 <| zw_icmp_lt 76 dMo_take_67 (by decide) (fun h => kt h H0 H hM hm hu) (fun h => kf h H0 H hM hm hu)
theorem sMo_take_70 {G : zG} {d : Nat} {ad : Nat → Nat} {μ : zMm} {P : Option Value → zMm → Prop} {st : List Value} {o0 : Option Value} {o1 : Option Value} {x2 : Int32} (kt : (x2 ≤ (nI 126)) → mW G d ad M_Mo_take 78 [o0, o1, some (.int x2)] st μ P) (kf : (¬ x2 ≤ (nI 126)) → mW G d ad M_Mo_take 76 [o0, o1, some (.int x2)] st μ P) : mW G d ad M_Mo_take 70 [o0, o1, some (.int x2)] st μ P :=
  fun H0 H hM hm hu => zw_iload_n (i := 2) dMo_take_70 rfl rfl <| zw_bipush (nI 126) dMo_take_71 zkb_126 <| zw_icmp_le 78 dMo_take_73 (by decide) (fun h => kt h H0 H hM hm hu) (fun h => kf h H0 H hM hm hu)
theorem sMo_take_76 {G : zG} {d : Nat} {ad : Nat → Nat} {μ : zMm} {P : Option Value → zMm → Prop} {o0 : Option Value} {o2 : Option Value} {x1 : Int32} (hq : P (some (.int x1)) μ) : mW G d ad M_Mo_take 76 [o0, some (.int x1), o2] [] μ P :=
  fun H0 H hM hm hu => zw_iload_n (i := 1) dMo_take_76 rfl rfl <| zw_iret dMo_take_77 .int rfl rfl ⟨μ, hq, hM, hm, hu⟩
theorem sMo_take_78 {G : zG} {d : Nat} {ad : Nat → Nat} {μ : zMm} {P : Option Value → zMm → Prop} {st : List Value} {o0 : Option Value} {o2 : Option Value} {x1 : Int32} (kk : mW G d ad M_Mo_take 43 [o0, some (.int (x1 + (nI 1))), o2] st μ P) : mW G d ad M_Mo_take 78 [o0, some (.int x1), o2] st μ P :=
  fun H0 H hM hm hu => zw_iinc (i := 1) (x1 + (nI 1)) dMo_take_78 rfl (congrArg (fun z => x1 + z) zki_1) <| zw_goto 43 dMo_take_81 (by decide) <| kk H0 H hM hm hu
theorem sMo_take_84 {G : zG} {d : Nat} {ad : Nat → Nat} {μ : zMm} {P : Option Value → zMm → Prop} {o0 : Option Value} {o1 : Option Value} {o2 : Option Value} (hq : P (some (.int (-1 : Int32))) μ) : mW G d ad M_Mo_take 84 [o0, o1, o2] [] μ P :=
  fun H0 H hM hm hu => zw_iconst (-1 : Int32) dMo_take_84 zki_m1 <| zw_iret dMo_take_85 .int rfl rfl ⟨μ, hq, hM, hm, hu⟩
theorem sMo_wrong_0 {G : zG} {d : Nat} {ad : Nat → Nat} {μ : zMm} {P : Option Value → zMm → Prop} {x0 : Int32} (hq : P (some (.int ((-1000 : Int32) - x0))) μ) : mW G d ad M_Mo_wrong 0 [some (.int x0)] [] μ P :=
  fun H0 H hM hm hu => zw_sipush (-1000 : Int32) dMo_wrong_0 zks_m1000 <| zw_iload_n (i := 0) dMo_wrong_3 rfl rfl <| zw_isub dMo_wrong_4 <| zw_iret dMo_wrong_5 .int rfl rfl ⟨μ, hq, hM, hm, hu⟩
theorem sMo_tokenEnd_0 {G : zG} {d : Nat} {ad : Nat → Nat} {μ : zMm} {P : Option Value → zMm → Prop} {st : List Value} {o0 : Option Value} {o2 : Option Value} {x1 : Int32} (kk : mW G d ad M_Mo_tokenEnd 2 [o0, some (.int x1), some (.int x1)] st μ P) : mW G d ad M_Mo_tokenEnd 0 [o0, some (.int x1), o2] st μ P :=
  fun H0 H hM hm hu => zw_iload_n (i := 1) dMo_tokenEnd_0 rfl rfl <| zw_istore_n (i := 2) dMo_tokenEnd_1 rfl (Nat.le_of_ble_eq_true rfl) <| kk H0 H hM hm hu
theorem sMo_tokenEnd_2 {G : zG} {d : Nat} {ad : Nat → Nat} {μ : zMm} {P : Option Value → zMm → Prop} {st : List Value} {o1 : Option Value} {x2 : Int32} (kt : ((μ.1 3) ≤ x2) → mW G d ad M_Mo_tokenEnd 28 [some (.ref (ad 50)), o1, some (.int x2)] st μ P) (kf : (¬ (μ.1 3) ≤ x2) → mW G d ad M_Mo_tokenEnd 10 [some (.ref (ad 50)), o1, some (.int x2)] st μ P) : mW G d ad M_Mo_tokenEnd 2 [some (.ref (ad 50)), o1, some (.int x2)] st μ P :=
  fun H0 H hM hm hu => zw_iload_n (i := 2) dMo_tokenEnd_2 rfl rfl <| zw_aload_n (i := 0) dMo_tokenEnd_3 rfl rfl zRf_ref <| zw_getf dMo_tokenEnd_4 zf_Mo_18 (hM.fi 3 (Nat.le_of_ble_eq_true rfl) mz_3) <| zw_icmp_ge 28 dMo_tokenEnd_7 (by decide) (fun h => kt h H0 H hM hm hu) (fun h => kf h H0 H hM hm hu)
theorem sMo_tokenEnd_10 {G : zG} {d : Nat} {ad : Nat → Nat} {μ : zMm} {P : Option Value → zMm → Prop} {st : List Value} {o1 : Option Value} {x2 : Int32} {i1 : Nat} {P2 : Int32 → zMm → Prop} (hx1 : x2 = nI i1) (hi1 : i1 < mLn 2) (hd : 1 ≤ d) (hl : st.length ≤ 4) (hc : mC G (d - 1) ad M_Mo_isBlank [(.int (μ.2 2 i1))] μ (mPi P2)) (kk : ∀ (r : Int32) (μ1 : zMm), P2 r μ1 → mW G d ad M_Mo_tokenEnd 19 [some (.ref (ad 50)), o1, some (.int x2)] ((.int r) :: st) μ1 P) : mW G d ad M_Mo_tokenEnd 10 [some (.ref (ad 50)), o1, some (.int x2)] st μ P :=
  fun H0 H hM hm hu => zw_aload_n (i := 0) dMo_tokenEnd_10 rfl rfl zRf_ref <| zw_getf dMo_tokenEnd_11 zf_Mo_21 (hM.fa 2 (Nat.le_of_ble_eq_true rfl) mn_2) <| zw_iload_n (i := 2) dMo_tokenEnd_14 rfl rfl <| zw_baldN (g := μ.2 2) dMo_tokenEnd_15 (hM.ab mk_2) hx1 hi1 (mLn_le _) <| zw_callS [(.int (μ.2 2 i1))] _ dMo_tokenEnd_16 hd zk_Mo_111 rfl rfl hl (hc H hM) (mPi_k kk hm hu)
theorem sMo_tokenEnd_19 {G : zG} {d : Nat} {ad : Nat → Nat} {μ : zMm} {P : Option Value → zMm → Prop} {st : List Value} {o0 : Option Value} {o1 : Option Value} {o2 : Option Value} {xs0 : Int32} (kt : (¬ xs0 = 0) → mW G d ad M_Mo_tokenEnd 28 [o0, o1, o2] st μ P) (kf : (xs0 = 0) → mW G d ad M_Mo_tokenEnd 22 [o0, o1, o2] st μ P) : mW G d ad M_Mo_tokenEnd 19 [o0, o1, o2] ((.int xs0) :: st) μ P :=
  fun H0 H hM hm hu => zw_if_ne 28 dMo_tokenEnd_19 (by decide) (fun h => kt h H0 H hM hm hu) (fun h => kf h H0 H hM hm hu)
theorem sMo_tokenEnd_22 {G : zG} {d : Nat} {ad : Nat → Nat} {μ : zMm} {P : Option Value → zMm → Prop} {st : List Value} {o0 : Option Value} {o1 : Option Value} {x2 : Int32} (kk : mW G d ad M_Mo_tokenEnd 2 [o0, o1, some (.int (x2 + (nI 1)))] st μ P) : mW G d ad M_Mo_tokenEnd 22 [o0, o1, some (.int x2)] st μ P :=
  fun H0 H hM hm hu => zw_iinc (i := 2) (x2 + (nI 1)) dMo_tokenEnd_22 rfl (congrArg (fun z => x2 + z) zki_1) <| zw_goto 2 dMo_tokenEnd_25 (by decide) <| kk H0 H hM hm hu
theorem sMo_tokenEnd_28 {G : zG} {d : Nat} {ad : Nat → Nat} {μ : zMm} {P : Option Value → zMm → Prop} {o0 : Option Value} {o1 : Option Value} {x2 : Int32} (hq : P (some (.int x2)) μ) : mW G d ad M_Mo_tokenEnd 28 [o0, o1, some (.int x2)] [] μ P :=
  fun H0 H hM hm hu => zw_iload_n (i := 2) dMo_tokenEnd_28 rfl rfl <| zw_iret dMo_tokenEnd_29 .int rfl rfl ⟨μ, hq, hM, hm, hu⟩
theorem sMo_isBlank_0 {G : zG} {d : Nat} {ad : Nat → Nat} {μ : zMm} {P : Option Value → zMm → Prop} {st : List Value} {x0 : Int32} (kt : (x0 = (nI 10)) → mW G d ad M_Mo_isBlank 12 [some (.int x0)] st μ P) (kf : (¬ x0 = (nI 10)) → mW G d ad M_Mo_isBlank 6 [some (.int x0)] st μ P) : mW G d ad M_Mo_isBlank 0 [some (.int x0)] st μ P :=
  fun H0 H hM hm hu => zw_iload_n (i := 0) dMo_isBlank_0 rfl rfl <| zw_bipush (nI 10) dMo_isBlank_1 zkb_10 <| zw_icmp_eq 12 dMo_isBlank_3 (by decide) (fun h => kt h H0 H hM hm hu) (fun h => kf h H0 H hM hm hu)
theorem sMo_isBlank_6 {G : zG} {d : Nat} {ad : Nat → Nat} {μ : zMm} {P : Option Value → zMm → Prop} {st : List Value} {x0 : Int32} (kt : (¬ x0 = (nI 32)) → mW G d ad M_Mo_isBlank 16 [some (.int x0)] st μ P) (kf : (x0 = (nI 32)) → mW G d ad M_Mo_isBlank 12 [some (.int x0)] st μ P) : mW G d ad M_Mo_isBlank 6 [some (.int x0)] st μ P :=
  fun H0 H hM hm hu => zw_iload_n (i := 0) dMo_isBlank_6 rfl rfl <| zw_bipush (nI 32) dMo_isBlank_7 zkb_32 <| zw_icmp_ne 16 dMo_isBlank_9 (by decide) (fun h => kt h H0 H hM hm hu) (fun h => kf h H0 H hM hm hu)
theorem sMo_isBlank_12 {G : zG} {d : Nat} {ad : Nat → Nat} {μ : zMm} {P : Option Value → zMm → Prop} {o0 : Option Value} (hn : narrow .boolean (.int (nI 1)) = .int (nI 1)) (hq : P (some (.int (nI 1))) μ) : mW G d ad M_Mo_isBlank 12 [o0] [] μ P :=
  fun H0 H hM hm hu => zw_iconst (nI 1) dMo_isBlank_12 zki_1 <| zw_goto 17 dMo_isBlank_13 (by decide) <| zw_iret dMo_isBlank_17 .boolean rfl hn ⟨μ, hq, hM, hm, hu⟩
theorem sMo_isBlank_16 {G : zG} {d : Nat} {ad : Nat → Nat} {μ : zMm} {P : Option Value → zMm → Prop} {o0 : Option Value} (hn : narrow .boolean (.int (nI 0)) = .int (nI 0)) (hq : P (some (.int (nI 0))) μ) : mW G d ad M_Mo_isBlank 16 [o0] [] μ P :=
  fun H0 H hM hm hu => zw_iconst (nI 0) dMo_isBlank_16 zki_0 <| zw_iret dMo_isBlank_17 .boolean rfl hn ⟨μ, hq, hM, hm, hu⟩
theorem sMo_isBlank_17 {G : zG} {d : Nat} {ad : Nat → Nat} {μ : zMm} {P : Option Value → zMm → Prop} {o0 : Option Value} {xs0 : Int32} (hn : narrow .boolean (.int xs0) = .int xs0) (hq : P (some (.int xs0)) μ) : mW G d ad M_Mo_isBlank 17 [o0] ((.int xs0) :: []) μ P :=
  fun H0 H hM hm hu => zw_iret dMo_isBlank_17 .boolean rfl hn ⟨μ, hq, hM, hm, hu⟩
theorem sMo_refer_0 {G : zG} {d : Nat} {ad : Nat → Nat} {μ : zMm} {P : Option Value → zMm → Prop} {st : List Value} {o1 : Option Value} {o2 : Option Value} {o3 : Option Value} {o4 : Option Value} {o5 : Option Value} {o6 : Option Value} {o7 : Option Value} (kk : mW G d ad M_Mo_refer 5 [some (.ref (ad 50)), o1, o2, o3, o4, o5, o6, o7] st (upd μ.1 12 (nI 0), μ.2) P) : mW G d ad M_Mo_refer 0 [some (.ref (ad 50)), o1, o2, o3, o4, o5, o6, o7] st μ P :=
  fun H0 H hM hm hu => zw_aload_n (i := 0) dMo_refer_0 rfl rfl zRf_ref <| zw_iconst (nI 0) dMo_refer_1 zki_0 <| (mw_puti (M := M_Mo_refer) (pc := 2) (k := 12) (v := (nI 0)) dMo_refer_2 zp_Mo_refer_61 (Nat.le_of_ble_eq_true rfl) mz_12 rfl rfl kk) H0 H hM hm hu
theorem sMo_refer_5 {G : zG} {d : Nat} {ad : Nat → Nat} {μ : zMm} {P : Option Value → zMm → Prop} {st : List Value} {o1 : Option Value} {o2 : Option Value} {o3 : Option Value} {o4 : Option Value} {o5 : Option Value} {o6 : Option Value} {o7 : Option Value} (hn : narrow .boolean (.int (nI 0)) = .int (nI 0)) (hfit : fits .boolean (.int (nI 0)) = true) (kk : mW G d ad M_Mo_refer 10 [some (.ref (ad 50)), o1, o2, o3, o4, o5, o6, o7] st (upd μ.1 14 (nI 0), μ.2) P) : mW G d ad M_Mo_refer 5 [some (.ref (ad 50)), o1, o2, o3, o4, o5, o6, o7] st μ P :=
  fun H0 H hM hm hu => zw_aload_n (i := 0) dMo_refer_5 rfl rfl zRf_ref <| zw_iconst (nI 0) dMo_refer_6 zki_0 <| (mw_puti (M := M_Mo_refer) (pc := 7) (k := 14) (v := (nI 0)) dMo_refer_7 zp_Mo_refer_57 (Nat.le_of_ble_eq_true rfl) mz_14 hn hfit kk) H0 H hM hm hu
theorem sMo_refer_10 {G : zG} {d : Nat} {ad : Nat → Nat} {μ : zMm} {P : Option Value → zMm → Prop} {st : List Value} {o1 : Option Value} {o3 : Option Value} {o4 : Option Value} {o5 : Option Value} {o6 : Option Value} {o7 : Option Value} {x2 : Int32} (kk : mW G d ad M_Mo_refer 15 [some (.ref (ad 50)), o1, some (.int x2), o3, o4, o5, o6, o7] st (upd μ.1 15 x2, μ.2) P) : mW G d ad M_Mo_refer 10 [some (.ref (ad 50)), o1, some (.int x2), o3, o4, o5, o6, o7] st μ P :=
  fun H0 H hM hm hu => zw_aload_n (i := 0) dMo_refer_10 rfl rfl zRf_ref <| zw_iload_n (i := 2) dMo_refer_11 rfl rfl <| (mw_puti (M := M_Mo_refer) (pc := 12) (k := 15) (v := x2) dMo_refer_12 zp_Mo_refer_73 (Nat.le_of_ble_eq_true rfl) mz_15 rfl rfl kk) H0 H hM hm hu
theorem sMo_refer_15 {G : zG} {d : Nat} {ad : Nat → Nat} {μ : zMm} {P : Option Value → zMm → Prop} {st : List Value} {o1 : Option Value} {o2 : Option Value} {o3 : Option Value} {o4 : Option Value} {o5 : Option Value} {o6 : Option Value} {o7 : Option Value} {i : Nat} (hx : (nI 0) = nI i) (hi : i < mLn 7) (kk : mW G d ad M_Mo_refer 22 [some (.ref (ad 50)), o1, o2, o3, o4, o5, o6, o7] st (μ.1, updA μ.2 7 i (nI 0)) P) : mW G d ad M_Mo_refer 15 [some (.ref (ad 50)), o1, o2, o3, o4, o5, o6, o7] st μ P :=
  fun H0 H hM hm hu => zw_aload_n (i := 0) dMo_refer_15 rfl rfl zRf_ref <| zw_getf dMo_refer_16 zf_Mo_39 (hM.fa 7 (Nat.le_of_ble_eq_true rfl) mn_7) <| zw_iconst (nI 0) dMo_refer_19 zki_0 <| zw_iconst (nI 0) dMo_refer_20 zki_0 <| (mw_iast (M := M_Mo_refer) (pc := 21) (k := 7) dMo_refer_21 mk_7 hx hi kk) H0 H hM hm hu
theorem sMo_refer_22 {G : zG} {d : Nat} {ad : Nat → Nat} {μ : zMm} {P : Option Value → zMm → Prop} {st : List Value} {o1 : Option Value} {o2 : Option Value} {o3 : Option Value} {o4 : Option Value} {o5 : Option Value} {o6 : Option Value} {o7 : Option Value} {i : Nat} (hx : (nI 0) = nI i) (hi : i < mLn 8) (kk : mW G d ad M_Mo_refer 29 [some (.ref (ad 50)), o1, o2, o3, o4, o5, o6, o7] st (μ.1, updA μ.2 8 i (nI 0)) P) : mW G d ad M_Mo_refer 22 [some (.ref (ad 50)), o1, o2, o3, o4, o5, o6, o7] st μ P :=
  fun H0 H hM hm hu => zw_aload_n (i := 0) dMo_refer_22 rfl rfl zRf_ref <| zw_getf dMo_refer_23 zf_Mo_43 (hM.fa 8 (Nat.le_of_ble_eq_true rfl) mn_8) <| zw_iconst (nI 0) dMo_refer_26 zki_0 <| zw_iconst (nI 0) dMo_refer_27 zki_0 <| (mw_iast (M := M_Mo_refer) (pc := 28) (k := 8) dMo_refer_28 mk_8 hx hi kk) H0 H hM hm hu
theorem sMo_refer_29 {G : zG} {d : Nat} {ad : Nat → Nat} {μ : zMm} {P : Option Value → zMm → Prop} {st : List Value} {o0 : Option Value} {o1 : Option Value} {o4 : Option Value} {o5 : Option Value} {o6 : Option Value} {o7 : Option Value} {x2 : Int32} {x3 : Int32} (kt : (x3 ≤ (x2 + (nI 1))) → mW G d ad M_Mo_refer 138 [o0, o1, some (.int x2), some (.int x3), o4, some (.int (nI 1)), o6, o7] st μ P) (kf : (¬ x3 ≤ (x2 + (nI 1))) → mW G d ad M_Mo_refer 39 [o0, o1, some (.int x2), some (.int x3), o4, some (.int (nI 1)), o6, o7] st μ P) : mW G d ad M_Mo_refer 29 [o0, o1, some (.int x2), some (.int x3), o4, o5, o6, o7] st μ P :=
  fun H0 H hM hm hu => zw_iconst (nI 1) dMo_refer_29 zki_1 <| zw_istore (i := 5) dMo_refer_30 (Nat.le_of_ble_eq_true rfl) <| zw_iload_n (i := 2) dMo_refer_32 rfl rfl <| zw_iconst (nI 1) dMo_refer_33 zki_1 <| zw_iadd dMo_refer_34 <| zw_iload_n (i := 3) dMo_refer_35 rfl rfl <| zw_icmp_ge 138 dMo_refer_36 (by decide) (fun h => kt h H0 H hM hm hu) (fun h => kf h H0 H hM hm hu)
theorem sMo_refer_39 {G : zG} {d : Nat} {ad : Nat → Nat} {μ : zMm} {P : Option Value → zMm → Prop} {st : List Value} {o0 : Option Value} {o3 : Option Value} {o4 : Option Value} {o5 : Option Value} {o6 : Option Value} {o7 : Option Value} {k1 : Nat} {x2 : Int32} {i1 : Nat} (hkk1 : mB k1) (hx1 : x2 = nI i1) (hi1 : i1 < mLn k1) (kt : (¬ (μ.2 k1 i1) = (nI 47)) → mW G d ad M_Mo_refer 138 [o0, some (.ref (ad k1)), some (.int x2), o3, o4, o5, o6, o7] st μ P) (kf : ((μ.2 k1 i1) = (nI 47)) → mW G d ad M_Mo_refer 47 [o0, some (.ref (ad k1)), some (.int x2), o3, o4, o5, o6, o7] st μ P) : mW G d ad M_Mo_refer 39 [o0, some (.ref (ad k1)), some (.int x2), o3, o4, o5, o6, o7] st μ P :=
  fun H0 H hM hm hu => zw_aload_n (i := 1) dMo_refer_39 rfl rfl zRf_ref <| zw_iload_n (i := 2) dMo_refer_40 rfl rfl <| zw_baldN (g := μ.2 k1) dMo_refer_41 (hM.ab hkk1) hx1 hi1 (mLn_le _) <| zw_bipush (nI 47) dMo_refer_42 zkb_47 <| zw_icmp_ne 138 dMo_refer_44 (by decide) (fun h => kt h H0 H hM hm hu) (fun h => kf h H0 H hM hm hu)
theorem sMo_refer_47 {G : zG} {d : Nat} {ad : Nat → Nat} {μ : zMm} {P : Option Value → zMm → Prop} {st : List Value} {o0 : Option Value} {o3 : Option Value} {o4 : Option Value} {o5 : Option Value} {o6 : Option Value} {o7 : Option Value} {k1 : Nat} {x2 : Int32} {i1 : Nat} (hkk1 : mB k1) (hx1 : (x2 + (nI 1)) = nI i1) (hi1 : i1 < mLn k1) (kt : (¬ (μ.2 k1 i1) = (nI 47)) → mW G d ad M_Mo_refer 138 [o0, some (.ref (ad k1)), some (.int x2), o3, o4, o5, o6, o7] st μ P) (kf : ((μ.2 k1 i1) = (nI 47)) → mW G d ad M_Mo_refer 57 [o0, some (.ref (ad k1)), some (.int x2), o3, o4, o5, o6, o7] st μ P) : mW G d ad M_Mo_refer 47 [o0, some (.ref (ad k1)), some (.int x2), o3, o4, o5, o6, o7] st μ P :=
  fun H0 H hM hm hu => zw_aload_n (i := 1) dMo_refer_47 rfl rfl zRf_ref <| zw_iload_n (i := 2) dMo_refer_48 rfl rfl <| zw_iconst (nI 1) dMo_refer_49 zki_1 <| zw_iadd dMo_refer_50 <| zw_baldN (g := μ.2 k1) dMo_refer_51 (hM.ab hkk1) hx1 hi1 (mLn_le _) <| zw_bipush (nI 47) dMo_refer_52 zkb_47 <| zw_icmp_ne 138 dMo_refer_54 (by decide) (fun h => kt h H0 H hM hm hu) (fun h => kf h H0 H hM hm hu)
theorem sMo_refer_57 {G : zG} {d : Nat} {ad : Nat → Nat} {μ : zMm} {P : Option Value → zMm → Prop} {st : List Value} {o0 : Option Value} {o4 : Option Value} {o5 : Option Value} {o6 : Option Value} {o7 : Option Value} {aa1 : Nat} {x2 : Int32} {x3 : Int32} {P2 : Int32 → zMm → Prop} (hd : 1 ≤ d) (hl : st.length ≤ 4) (hc : mC G (d - 1) ad M_Mo_nameEnd [(.ref aa1), (.int (x2 + (nI 2))), (.int x3)] μ (mPi P2)) (kk : ∀ (r : Int32) (μ1 : zMm), P2 r μ1 → mW G d ad M_Mo_refer 65 [o0, some (.ref aa1), some (.int x2), some (.int x3), o4, o5, o6, o7] ((.int r) :: st) μ1 P) : mW G d ad M_Mo_refer 57 [o0, some (.ref aa1), some (.int x2), some (.int x3), o4, o5, o6, o7] st μ P :=
  fun H0 H hM hm hu => zw_aload_n (i := 1) dMo_refer_57 rfl rfl zRf_ref <| zw_iload_n (i := 2) dMo_refer_58 rfl rfl <| zw_iconst (nI 2) dMo_refer_59 zki_2 <| zw_iadd dMo_refer_60 <| zw_iload_n (i := 3) dMo_refer_61 rfl rfl <| zw_callS [(.ref aa1), (.int (x2 + (nI 2))), (.int x3)] _ dMo_refer_62 hd zk_Mo_87 rfl rfl hl (hc H hM) (mPi_k kk hm hu)
theorem sMo_refer_65 {G : zG} {d : Nat} {ad : Nat → Nat} {μ : zMm} {P : Option Value → zMm → Prop} {st : List Value} {o0 : Option Value} {o1 : Option Value} {o3 : Option Value} {o4 : Option Value} {o5 : Option Value} {o6 : Option Value} {o7 : Option Value} {xs0 : Int32} {x2 : Int32} (kt : (¬ xs0 = (x2 + (nI 2))) → mW G d ad M_Mo_refer 77 [o0, o1, some (.int x2), o3, o4, o5, some (.int xs0), o7] st μ P) (kf : (xs0 = (x2 + (nI 2))) → mW G d ad M_Mo_refer 75 [o0, o1, some (.int x2), o3, o4, o5, some (.int xs0), o7] st μ P) : mW G d ad M_Mo_refer 65 [o0, o1, some (.int x2), o3, o4, o5, o6, o7] ((.int xs0) :: st) μ P :=
  fun H0 H hM hm hu => zw_istore (i := 6) dMo_refer_65 (Nat.le_of_ble_eq_true rfl) <| zw_iload (i := 6) dMo_refer_67 rfl <| zw_iload_n (i := 2) dMo_refer_69 rfl rfl <| zw_iconst (nI 2) dMo_refer_70 zki_2 <| zw_iadd dMo_refer_71 <| zw_icmp_ne 77 dMo_refer_72 (by decide) (fun h => kt h H0 H hM hm hu) (fun h => kf h H0 H hM hm hu)
theorem sMo_refer_75 {G : zG} {d : Nat} {ad : Nat → Nat} {μ : zMm} {P : Option Value → zMm → Prop} {o0 : Option Value} {o1 : Option Value} {o2 : Option Value} {o3 : Option Value} {o4 : Option Value} {o5 : Option Value} {o6 : Option Value} {o7 : Option Value} (hn : narrow .boolean (.int (nI 0)) = .int (nI 0)) (hq : P (some (.int (nI 0))) μ) : mW G d ad M_Mo_refer 75 [o0, o1, o2, o3, o4, o5, o6, o7] [] μ P :=
  fun H0 H hM hm hu => zw_iconst (nI 0) dMo_refer_75 zki_0 <| zw_iret dMo_refer_76 .boolean rfl hn ⟨μ, hq, hM, hm, hu⟩
theorem sMo_refer_77 {G : zG} {d : Nat} {ad : Nat → Nat} {μ : zMm} {P : Option Value → zMm → Prop} {st : List Value} {o0 : Option Value} {o1 : Option Value} {o3 : Option Value} {o4 : Option Value} {o5 : Option Value} {o6 : Option Value} {o7 : Option Value} {x2 : Int32} (kk : mW G d ad M_Mo_refer 80 [o0, o1, some (.int x2), o3, o4, o5, o6, some (.int x2)] st μ P) : mW G d ad M_Mo_refer 77 [o0, o1, some (.int x2), o3, o4, o5, o6, o7] st μ P :=
  fun H0 H hM hm hu => zw_iload_n (i := 2) dMo_refer_77 rfl rfl <| zw_istore (i := 7) dMo_refer_78 (Nat.le_of_ble_eq_true rfl) <| kk H0 H hM hm hu
theorem sMo_refer_80 {G : zG} {d : Nat} {ad : Nat → Nat} {μ : zMm} {P : Option Value → zMm → Prop} {st : List Value} {o0 : Option Value} {o1 : Option Value} {o2 : Option Value} {o3 : Option Value} {o4 : Option Value} {o5 : Option Value} {x7 : Int32} {x6 : Int32} (kt : (x6 ≤ x7) → mW G d ad M_Mo_refer 102 [o0, o1, o2, o3, o4, o5, some (.int x6), some (.int x7)] st μ P) (kf : (¬ x6 ≤ x7) → mW G d ad M_Mo_refer 87 [o0, o1, o2, o3, o4, o5, some (.int x6), some (.int x7)] st μ P) : mW G d ad M_Mo_refer 80 [o0, o1, o2, o3, o4, o5, some (.int x6), some (.int x7)] st μ P :=
  fun H0 H hM hm hu => zw_iload (i := 7) dMo_refer_80 rfl <| zw_iload (i := 6) dMo_refer_82 rfl <| zw_icmp_ge 102 dMo_refer_84 (by decide) (fun h => kt h H0 H hM hm hu) (fun h => kf h H0 H hM hm hu)
theorem sMo_refer_87 {G : zG} {d : Nat} {ad : Nat → Nat} {μ : zMm} {P : Option Value → zMm → Prop} {st : List Value} {o2 : Option Value} {o3 : Option Value} {o4 : Option Value} {o5 : Option Value} {o6 : Option Value} {k1 : Nat} {x7 : Int32} {i1 : Nat} {P2 : zMm → Prop} (hkk1 : mB k1) (hx1 : x7 = nI i1) (hi1 : i1 < mLn k1) (hd : 1 ≤ d) (hl : st.length ≤ 4) (hc : mC G (d - 1) ad M_Mo_put [(.ref (ad 50)), (.int (nI 0)), (.int (μ.2 k1 i1))] μ (mPv P2)) (kk : ∀ μ1 : zMm, P2 μ1 → mW G d ad M_Mo_refer 96 [some (.ref (ad 50)), some (.ref (ad k1)), o2, o3, o4, o5, o6, some (.int x7)] st μ1 P) : mW G d ad M_Mo_refer 87 [some (.ref (ad 50)), some (.ref (ad k1)), o2, o3, o4, o5, o6, some (.int x7)] st μ P :=
  fun H0 H hM hm hu => zw_aload_n (i := 0) dMo_refer_87 rfl rfl zRf_ref <| zw_iconst (nI 0) dMo_refer_88 zki_0 <| zw_aload_n (i := 1) dMo_refer_89 rfl rfl zRf_ref <| zw_iload (i := 7) dMo_refer_90 rfl <| zw_baldN (g := μ.2 k1) dMo_refer_92 (hM.ab hkk1) hx1 hi1 (mLn_le _) <| zw_callV [(.int (nI 0)), (.int (μ.2 k1 i1))] _ dMo_refer_93 hd zk_Mo_91 hM.is rfl rfl hl (hc H hM) (mPv_k kk hm hu)
theorem sMo_refer_96 {G : zG} {d : Nat} {ad : Nat → Nat} {μ : zMm} {P : Option Value → zMm → Prop} {st : List Value} {o0 : Option Value} {o1 : Option Value} {o2 : Option Value} {o3 : Option Value} {o4 : Option Value} {o5 : Option Value} {o6 : Option Value} {x7 : Int32} (kk : mW G d ad M_Mo_refer 80 [o0, o1, o2, o3, o4, o5, o6, some (.int (x7 + (nI 1)))] st μ P) : mW G d ad M_Mo_refer 96 [o0, o1, o2, o3, o4, o5, o6, some (.int x7)] st μ P :=
  fun H0 H hM hm hu => zw_iinc (i := 7) (x7 + (nI 1)) dMo_refer_96 rfl (congrArg (fun z => x7 + z) zki_1) <| zw_goto 80 dMo_refer_99 (by decide) <| kk H0 H hM hm hu
theorem sMo_refer_102 {G : zG} {d : Nat} {ad : Nat → Nat} {μ : zMm} {P : Option Value → zMm → Prop} {st : List Value} {o1 : Option Value} {o2 : Option Value} {o3 : Option Value} {o4 : Option Value} {o5 : Option Value} {o7 : Option Value} {x6 : Int32} (kk : mW G d ad M_Mo_refer 108 [some (.ref (ad 50)), o1, o2, o3, o4, o5, some (.int x6), o7] st (upd μ.1 15 x6, μ.2) P) : mW G d ad M_Mo_refer 102 [some (.ref (ad 50)), o1, o2, o3, o4, o5, some (.int x6), o7] st μ P :=
  fun H0 H hM hm hu => zw_aload_n (i := 0) dMo_refer_102 rfl rfl zRf_ref <| zw_iload (i := 6) dMo_refer_103 rfl <| (mw_puti (M := M_Mo_refer) (pc := 105) (k := 15) (v := x6) dMo_refer_105 zp_Mo_refer_73 (Nat.le_of_ble_eq_true rfl) mz_15 rfl rfl kk) H0 H hM hm hu
theorem sMo_refer_108 {G : zG} {d : Nat} {ad : Nat → Nat} {μ : zMm} {P : Option Value → zMm → Prop} {st : List Value} {o2 : Option Value} {o4 : Option Value} {o5 : Option Value} {o6 : Option Value} {o7 : Option Value} {aa1 : Nat} {x3 : Int32} {P2 : Int32 → zMm → Prop} (hd : 1 ≤ d) (hl : st.length ≤ 4) (hc : mC G (d - 1) ad M_Mo_segments [(.ref (ad 50)), (.ref aa1), (.int x3)] μ (mPi P2)) (kk : ∀ (r : Int32) (μ1 : zMm), P2 r μ1 → mW G d ad M_Mo_refer 114 [some (.ref (ad 50)), some (.ref aa1), o2, some (.int x3), o4, o5, o6, o7] ((.int r) :: st) μ1 P) : mW G d ad M_Mo_refer 108 [some (.ref (ad 50)), some (.ref aa1), o2, some (.int x3), o4, o5, o6, o7] st μ P :=
  fun H0 H hM hm hu => zw_aload_n (i := 0) dMo_refer_108 rfl rfl zRf_ref <| zw_aload_n (i := 1) dMo_refer_109 rfl rfl zRf_ref <| zw_iload_n (i := 3) dMo_refer_110 rfl rfl <| zw_callV [(.ref aa1), (.int x3)] _ dMo_refer_111 hd zk_Mo_95 hM.is rfl rfl hl (hc H hM) (mPi_k kk hm hu)
theorem sMo_refer_114 {G : zG} {d : Nat} {ad : Nat → Nat} {μ : zMm} {P : Option Value → zMm → Prop} {st : List Value} {o0 : Option Value} {o1 : Option Value} {o2 : Option Value} {o3 : Option Value} {o4 : Option Value} {o5 : Option Value} {o6 : Option Value} {o7 : Option Value} {xs0 : Int32} (kt : (¬ xs0 = 0) → mW G d ad M_Mo_refer 119 [o0, o1, o2, o3, o4, o5, o6, o7] st μ P) (kf : (xs0 = 0) → mW G d ad M_Mo_refer 117 [o0, o1, o2, o3, o4, o5, o6, o7] st μ P) : mW G d ad M_Mo_refer 114 [o0, o1, o2, o3, o4, o5, o6, o7] ((.int xs0) :: st) μ P :=
  fun H0 H hM hm hu => zw_if_ne 119 dMo_refer_114 (by decide) (fun h => kt h H0 H hM hm hu) (fun h => kf h H0 H hM hm hu)
theorem sMo_refer_117 {G : zG} {d : Nat} {ad : Nat → Nat} {μ : zMm} {P : Option Value → zMm → Prop} {o0 : Option Value} {o1 : Option Value} {o2 : Option Value} {o3 : Option Value} {o4 : Option Value} {o5 : Option Value} {o6 : Option Value} {o7 : Option Value} (hn : narrow .boolean (.int (nI 0)) = .int (nI 0)) (hq : P (some (.int (nI 0))) μ) : mW G d ad M_Mo_refer 117 [o0, o1, o2, o3, o4, o5, o6, o7] [] μ P :=
  fun H0 H hM hm hu => zw_iconst (nI 0) dMo_refer_117 zki_0 <| zw_iret dMo_refer_118 .boolean rfl hn ⟨μ, hq, hM, hm, hu⟩
theorem sMo_refer_119 {G : zG} {d : Nat} {ad : Nat → Nat} {μ : zMm} {P : Option Value → zMm → Prop} {st : List Value} {o1 : Option Value} {o2 : Option Value} {o3 : Option Value} {o4 : Option Value} {o5 : Option Value} {o7 : Option Value} {x6 : Int32} (kt : (¬ x6 = (μ.1 15)) → mW G d ad M_Mo_refer 135 [some (.ref (ad 50)), o1, o2, o3, o4, o5, some (.int x6), o7] st μ P) (kf : (x6 = (μ.1 15)) → mW G d ad M_Mo_refer 128 [some (.ref (ad 50)), o1, o2, o3, o4, o5, some (.int x6), o7] st μ P) : mW G d ad M_Mo_refer 119 [some (.ref (ad 50)), o1, o2, o3, o4, o5, some (.int x6), o7] st μ P :=
  fun H0 H hM hm hu => zw_iload (i := 6) dMo_refer_119 rfl <| zw_aload_n (i := 0) dMo_refer_121 rfl rfl zRf_ref <| zw_getf dMo_refer_122 zf_Mo_73 (hM.fi 15 (Nat.le_of_ble_eq_true rfl) mz_15) <| zw_icmp_ne 135 dMo_refer_125 (by decide) (fun h => kt h H0 H hM hm hu) (fun h => kf h H0 H hM hm hu)
theorem sMo_refer_128 {G : zG} {d : Nat} {ad : Nat → Nat} {μ : zMm} {P : Option Value → zMm → Prop} {st : List Value} {o3 : Option Value} {o4 : Option Value} {o5 : Option Value} {o6 : Option Value} {o7 : Option Value} {aa1 : Nat} {x2 : Int32} {P2 : zMm → Prop} (hd : 1 ≤ d) (hl : st.length ≤ 4) (hc : mC G (d - 1) ad M_Mo_segment [(.ref (ad 50)), (.ref aa1), (.int x2), (.int (nI 0))] μ (mPv P2)) (kk : ∀ μ1 : zMm, P2 μ1 → mW G d ad M_Mo_refer 135 [some (.ref (ad 50)), some (.ref aa1), some (.int x2), o3, o4, o5, o6, o7] st μ1 P) : mW G d ad M_Mo_refer 128 [some (.ref (ad 50)), some (.ref aa1), some (.int x2), o3, o4, o5, o6, o7] st μ P :=
  fun H0 H hM hm hu => zw_aload_n (i := 0) dMo_refer_128 rfl rfl zRf_ref <| zw_aload_n (i := 1) dMo_refer_129 rfl rfl zRf_ref <| zw_iload_n (i := 2) dMo_refer_130 rfl rfl <| zw_iconst (nI 0) dMo_refer_131 zki_0 <| zw_callV [(.ref aa1), (.int x2), (.int (nI 0))] _ dMo_refer_132 hd zk_Mo_80 hM.is rfl rfl hl (hc H hM) (mPv_k kk hm hu)
theorem sMo_refer_135 {G : zG} {d : Nat} {ad : Nat → Nat} {μ : zMm} {P : Option Value → zMm → Prop} {st : List Value} {o1 : Option Value} {o2 : Option Value} {o3 : Option Value} {o4 : Option Value} {o5 : Option Value} {o6 : Option Value} {o7 : Option Value} (kt : (¬ (μ.1 14) = 0) → mW G d ad M_Mo_refer 270 [some (.ref (ad 50)), o1, o2, o3, o4, o5, o6, o7] st μ P) (kf : ((μ.1 14) = 0) → mW G d ad M_Mo_refer 263 [some (.ref (ad 50)), o1, o2, o3, o4, o5, o6, o7] st μ P) : mW G d ad M_Mo_refer 135 [some (.ref (ad 50)), o1, o2, o3, o4, o5, o6, o7] st μ P :=
  fun H0 H hM hm hu => zw_goto 256 dMo_refer_135 (by decide) <| zw_aload_n (i := 0) dMo_refer_256 rfl rfl zRf_ref <| zw_getf dMo_refer_257 zf_Mo_57 (hM.fi 14 (Nat.le_of_ble_eq_true rfl) mz_14) <| zw_if_ne 270 dMo_refer_260 (by decide) (fun h => kt h H0 H hM hm hu) (fun h => kf h H0 H hM hm hu)
theorem sMo_refer_138 {G : zG} {d : Nat} {ad : Nat → Nat} {μ : zMm} {P : Option Value → zMm → Prop} {st : List Value} {o1 : Option Value} {o2 : Option Value} {o3 : Option Value} {o5 : Option Value} {o6 : Option Value} {o7 : Option Value} {x4 : Int32} {P2 : Int32 → zMm → Prop} (hd : 1 ≤ d) (hl : st.length ≤ 4) (hc : mC G (d - 1) ad M_Mo_siteEnd [(.ref (ad 50)), (.int x4)] μ (mPi P2)) (kk : ∀ (r : Int32) (μ1 : zMm), P2 r μ1 → mW G d ad M_Mo_refer 144 [some (.ref (ad 50)), o1, o2, o3, some (.int x4), o5, o6, o7] ((.int r) :: st) μ1 P) : mW G d ad M_Mo_refer 138 [some (.ref (ad 50)), o1, o2, o3, some (.int x4), o5, o6, o7] st μ P :=
  fun H0 H hM hm hu => zw_aload_n (i := 0) dMo_refer_138 rfl rfl zRf_ref <| zw_iload (i := 4) dMo_refer_139 rfl <| zw_callV [(.int x4)] _ dMo_refer_141 hd zk_Mo_50 hM.is rfl rfl hl (hc H hM) (mPi_k kk hm hu)
theorem sMo_refer_144 {G : zG} {d : Nat} {ad : Nat → Nat} {μ : zMm} {P : Option Value → zMm → Prop} {st : List Value} {o0 : Option Value} {o1 : Option Value} {o2 : Option Value} {o3 : Option Value} {o4 : Option Value} {o5 : Option Value} {o6 : Option Value} {o7 : Option Value} {xs0 : Int32} (kk : mW G d ad M_Mo_refer 149 [o0, o1, o2, o3, o4, o5, some (.int xs0), some (.int (nI 0))] st μ P) : mW G d ad M_Mo_refer 144 [o0, o1, o2, o3, o4, o5, o6, o7] ((.int xs0) :: st) μ P :=
  fun H0 H hM hm hu => zw_istore (i := 6) dMo_refer_144 (Nat.le_of_ble_eq_true rfl) <| zw_iconst (nI 0) dMo_refer_146 zki_0 <| zw_istore (i := 7) dMo_refer_147 (Nat.le_of_ble_eq_true rfl) <| kk H0 H hM hm hu
theorem sMo_refer_149 {G : zG} {d : Nat} {ad : Nat → Nat} {μ : zMm} {P : Option Value → zMm → Prop} {st : List Value} {o0 : Option Value} {o1 : Option Value} {o2 : Option Value} {o3 : Option Value} {o4 : Option Value} {o5 : Option Value} {x7 : Int32} {x6 : Int32} (kt : (x6 ≤ x7) → mW G d ad M_Mo_refer 181 [o0, o1, o2, o3, o4, o5, some (.int x6), some (.int x7)] st μ P) (kf : (¬ x6 ≤ x7) → mW G d ad M_Mo_refer 156 [o0, o1, o2, o3, o4, o5, some (.int x6), some (.int x7)] st μ P) : mW G d ad M_Mo_refer 149 [o0, o1, o2, o3, o4, o5, some (.int x6), some (.int x7)] st μ P :=
  fun H0 H hM hm hu => zw_iload (i := 7) dMo_refer_149 rfl <| zw_iload (i := 6) dMo_refer_151 rfl <| zw_icmp_ge 181 dMo_refer_153 (by decide) (fun h => kt h H0 H hM hm hu) (fun h => kf h H0 H hM hm hu)
theorem sMo_refer_156 {G : zG} {d : Nat} {ad : Nat → Nat} {μ : zMm} {P : Option Value → zMm → Prop} {st : List Value} {o1 : Option Value} {o2 : Option Value} {o3 : Option Value} {o5 : Option Value} {o6 : Option Value} {x4 : Int32} {x7 : Int32} {i1 : Nat} {P2 : zMm → Prop} (hx1 : ((x4 * (nI 150)) + x7) = nI i1) (hi1 : i1 < mLn 6) (hd : 1 ≤ d) (hl : st.length ≤ 4) (hc : mC G (d - 1) ad M_Mo_put [(.ref (ad 50)), (.int (nI 0)), (.int (μ.2 6 i1))] μ (mPv P2)) (kk : ∀ μ1 : zMm, P2 μ1 → mW G d ad M_Mo_refer 175 [some (.ref (ad 50)), o1, o2, o3, some (.int x4), o5, o6, some (.int x7)] st μ1 P) : mW G d ad M_Mo_refer 156 [some (.ref (ad 50)), o1, o2, o3, some (.int x4), o5, o6, some (.int x7)] st μ P :=
  fun H0 H hM hm hu => zw_aload_n (i := 0) dMo_refer_156 rfl rfl zRf_ref <| zw_iconst (nI 0) dMo_refer_157 zki_0 <| zw_aload_n (i := 0) dMo_refer_158 rfl rfl zRf_ref <| zw_getf dMo_refer_159 zf_Mo_36 (hM.fa 6 (Nat.le_of_ble_eq_true rfl) mn_6) <| zw_iload (i := 4) dMo_refer_162 rfl <| zw_sipush (nI 150) dMo_refer_164 zks_150 <| zw_imul dMo_refer_167 <| zw_iload (i := 7) dMo_refer_168 rfl <| zw_iadd dMo_refer_170 <| zw_baldN (g := μ.2 6) dMo_refer_171 (hM.ab mk_6) hx1 hi1 (mLn_le _) <| zw_callV [(.int (nI 0)), (.int (μ.2 6 i1))] _ dMo_refer_172 hd zk_Mo_91 hM.is rfl rfl hl (hc H hM) (mPv_k kk hm hu)
theorem sMo_refer_175 {G : zG} {d : Nat} {ad : Nat → Nat} {μ : zMm} {P : Option Value → zMm → Prop} {st : List Value} {o0 : Option Value} {o1 : Option Value} {o2 : Option Value} {o3 : Option Value} {o4 : Option Value} {o5 : Option Value} {o6 : Option Value} {x7 : Int32} (kk : mW G d ad M_Mo_refer 149 [o0, o1, o2, o3, o4, o5, o6, some (.int (x7 + (nI 1)))] st μ P) : mW G d ad M_Mo_refer 175 [o0, o1, o2, o3, o4, o5, o6, some (.int x7)] st μ P :=
  fun H0 H hM hm hu => zw_iinc (i := 7) (x7 + (nI 1)) dMo_refer_175 rfl (congrArg (fun z => x7 + z) zki_1) <| zw_goto 149 dMo_refer_178 (by decide) <| kk H0 H hM hm hu
theorem sMo_refer_181 {G : zG} {d : Nat} {ad : Nat → Nat} {μ : zMm} {P : Option Value → zMm → Prop} {st : List Value} {o0 : Option Value} {o1 : Option Value} {o4 : Option Value} {o5 : Option Value} {o6 : Option Value} {o7 : Option Value} {x2 : Int32} {x3 : Int32} (kt : (x3 ≤ x2) → mW G d ad M_Mo_refer 205 [o0, o1, some (.int x2), some (.int x3), o4, o5, o6, o7] st μ P) (kf : (¬ x3 ≤ x2) → mW G d ad M_Mo_refer 186 [o0, o1, some (.int x2), some (.int x3), o4, o5, o6, o7] st μ P) : mW G d ad M_Mo_refer 181 [o0, o1, some (.int x2), some (.int x3), o4, o5, o6, o7] st μ P :=
  fun H0 H hM hm hu => zw_iload_n (i := 2) dMo_refer_181 rfl rfl <| zw_iload_n (i := 3) dMo_refer_182 rfl rfl <| zw_icmp_ge 205 dMo_refer_183 (by decide) (fun h => kt h H0 H hM hm hu) (fun h => kf h H0 H hM hm hu)
theorem sMo_refer_186 {G : zG} {d : Nat} {ad : Nat → Nat} {μ : zMm} {P : Option Value → zMm → Prop} {st : List Value} {o0 : Option Value} {o3 : Option Value} {o4 : Option Value} {o5 : Option Value} {o6 : Option Value} {o7 : Option Value} {k1 : Nat} {x2 : Int32} {i1 : Nat} (hkk1 : mB k1) (hx1 : x2 = nI i1) (hi1 : i1 < mLn k1) (kt : (¬ (μ.2 k1 i1) = (nI 47)) → mW G d ad M_Mo_refer 205 [o0, some (.ref (ad k1)), some (.int x2), o3, o4, o5, o6, o7] st μ P) (kf : ((μ.2 k1 i1) = (nI 47)) → mW G d ad M_Mo_refer 194 [o0, some (.ref (ad k1)), some (.int x2), o3, o4, o5, o6, o7] st μ P) : mW G d ad M_Mo_refer 186 [o0, some (.ref (ad k1)), some (.int x2), o3, o4, o5, o6, o7] st μ P :=
  fun H0 H hM hm hu => zw_aload_n (i := 1) dMo_refer_186 rfl rfl zRf_ref <| zw_iload_n (i := 2) dMo_refer_187 rfl rfl <| zw_baldN (g := μ.2 k1) dMo_refer_188 (hM.ab hkk1) hx1 hi1 (mLn_le _) <| zw_bipush (nI 47) dMo_refer_189 zkb_47 <| zw_icmp_ne 205 dMo_refer_191 (by decide) (fun h => kt h H0 H hM hm hu) (fun h => kf h H0 H hM hm hu)
theorem sMo_refer_194 {G : zG} {d : Nat} {ad : Nat → Nat} {μ : zMm} {P : Option Value → zMm → Prop} {st : List Value} {o2 : Option Value} {o4 : Option Value} {o5 : Option Value} {o6 : Option Value} {o7 : Option Value} {aa1 : Nat} {x3 : Int32} {P2 : Int32 → zMm → Prop} (hd : 1 ≤ d) (hl : st.length ≤ 4) (hc : mC G (d - 1) ad M_Mo_segments [(.ref (ad 50)), (.ref aa1), (.int x3)] μ (mPi P2)) (kk : ∀ (r : Int32) (μ1 : zMm), P2 r μ1 → mW G d ad M_Mo_refer 200 [some (.ref (ad 50)), some (.ref aa1), o2, some (.int x3), o4, o5, o6, o7] ((.int r) :: st) μ1 P) : mW G d ad M_Mo_refer 194 [some (.ref (ad 50)), some (.ref aa1), o2, some (.int x3), o4, o5, o6, o7] st μ P :=
  fun H0 H hM hm hu => zw_aload_n (i := 0) dMo_refer_194 rfl rfl zRf_ref <| zw_aload_n (i := 1) dMo_refer_195 rfl rfl zRf_ref <| zw_iload_n (i := 3) dMo_refer_196 rfl rfl <| zw_callV [(.ref aa1), (.int x3)] _ dMo_refer_197 hd zk_Mo_95 hM.is rfl rfl hl (hc H hM) (mPi_k kk hm hu)
theorem sMo_refer_200 {G : zG} {d : Nat} {ad : Nat → Nat} {μ : zMm} {P : Option Value → zMm → Prop} {st : List Value} {o0 : Option Value} {o1 : Option Value} {o2 : Option Value} {o3 : Option Value} {o4 : Option Value} {o5 : Option Value} {o6 : Option Value} {o7 : Option Value} {xs0 : Int32} (kt : (¬ xs0 = 0) → mW G d ad M_Mo_refer 256 [o0, o1, o2, o3, o4, o5, o6, o7] st μ P) (kf : (xs0 = 0) → mW G d ad M_Mo_refer 203 [o0, o1, o2, o3, o4, o5, o6, o7] st μ P) : mW G d ad M_Mo_refer 200 [o0, o1, o2, o3, o4, o5, o6, o7] ((.int xs0) :: st) μ P :=
  fun H0 H hM hm hu => zw_if_ne 256 dMo_refer_200 (by decide) (fun h => kt h H0 H hM hm hu) (fun h => kf h H0 H hM hm hu)
theorem sMo_refer_203 {G : zG} {d : Nat} {ad : Nat → Nat} {μ : zMm} {P : Option Value → zMm → Prop} {o0 : Option Value} {o1 : Option Value} {o2 : Option Value} {o3 : Option Value} {o4 : Option Value} {o5 : Option Value} {o6 : Option Value} {o7 : Option Value} (hn : narrow .boolean (.int (nI 0)) = .int (nI 0)) (hq : P (some (.int (nI 0))) μ) : mW G d ad M_Mo_refer 203 [o0, o1, o2, o3, o4, o5, o6, o7] [] μ P :=
  fun H0 H hM hm hu => zw_iconst (nI 0) dMo_refer_203 zki_0 <| zw_iret dMo_refer_204 .boolean rfl hn ⟨μ, hq, hM, hm, hu⟩
theorem sMo_refer_205 {G : zG} {d : Nat} {ad : Nat → Nat} {μ : zMm} {P : Option Value → zMm → Prop} {st : List Value} {o0 : Option Value} {o1 : Option Value} {o4 : Option Value} {o5 : Option Value} {o6 : Option Value} {o7 : Option Value} {x2 : Int32} {x3 : Int32} (kt : (x3 ≤ x2) → mW G d ad M_Mo_refer 246 [o0, o1, some (.int x2), some (.int x3), o4, o5, o6, o7] st μ P) (kf : (¬ x3 ≤ x2) → mW G d ad M_Mo_refer 210 [o0, o1, some (.int x2), some (.int x3), o4, o5, o6, o7] st μ P) : mW G d ad M_Mo_refer 205 [o0, o1, some (.int x2), some (.int x3), o4, o5, o6, o7] st μ P :=
  fun H0 H hM hm hu => zw_iload_n (i := 2) dMo_refer_205 rfl rfl <| zw_iload_n (i := 3) dMo_refer_206 rfl rfl <| zw_icmp_ge 246 dMo_refer_207 (by decide) (fun h => kt h H0 H hM hm hu) (fun h => kf h H0 H hM hm hu)
theorem sMo_refer_210 {G : zG} {d : Nat} {ad : Nat → Nat} {μ : zMm} {P : Option Value → zMm → Prop} {st : List Value} {o0 : Option Value} {o3 : Option Value} {o4 : Option Value} {o5 : Option Value} {o6 : Option Value} {o7 : Option Value} {k1 : Nat} {x2 : Int32} {i1 : Nat} {P2 : Int32 → zMm → Prop} (hkk1 : mB k1) (hx1 : x2 = nI i1) (hi1 : i1 < mLn k1) (hd : 1 ≤ d) (hl : st.length ≤ 4) (hc : mC G (d - 1) ad M_Mo_isSegment [(.int (μ.2 k1 i1))] μ (mPi P2)) (kk : ∀ (r : Int32) (μ1 : zMm), P2 r μ1 → mW G d ad M_Mo_refer 216 [o0, some (.ref (ad k1)), some (.int x2), o3, o4, o5, o6, o7] ((.int r) :: st) μ1 P) : mW G d ad M_Mo_refer 210 [o0, some (.ref (ad k1)), some (.int x2), o3, o4, o5, o6, o7] st μ P :=
  fun H0 H hM hm hu => zw_aload_n (i := 1) dMo_refer_210 rfl rfl zRf_ref <| zw_iload_n (i := 2) dMo_refer_211 rfl rfl <| zw_baldN (g := μ.2 k1) dMo_refer_212 (hM.ab hkk1) hx1 hi1 (mLn_le _) <| zw_callS [(.int (μ.2 k1 i1))] _ dMo_refer_213 hd zk_Mo_54 rfl rfl hl (hc H hM) (mPi_k kk hm hu)
theorem sMo_refer_216 {G : zG} {d : Nat} {ad : Nat → Nat} {μ : zMm} {P : Option Value → zMm → Prop} {st : List Value} {o0 : Option Value} {o1 : Option Value} {o2 : Option Value} {o3 : Option Value} {o4 : Option Value} {o5 : Option Value} {o6 : Option Value} {o7 : Option Value} {xs0 : Int32} (kt : (xs0 = 0) → mW G d ad M_Mo_refer 246 [o0, o1, o2, o3, o4, o5, o6, o7] st μ P) (kf : (¬ xs0 = 0) → mW G d ad M_Mo_refer 219 [o0, o1, o2, o3, o4, o5, o6, o7] st μ P) : mW G d ad M_Mo_refer 216 [o0, o1, o2, o3, o4, o5, o6, o7] ((.int xs0) :: st) μ P :=
  fun H0 H hM hm hu => zw_if_eq 246 dMo_refer_216 (by decide) (fun h => kt h H0 H hM hm hu) (fun h => kf h H0 H hM hm hu)
theorem sMo_refer_219 {G : zG} {d : Nat} {ad : Nat → Nat} {μ : zMm} {P : Option Value → zMm → Prop} {st : List Value} {o1 : Option Value} {o2 : Option Value} {o3 : Option Value} {o5 : Option Value} {o6 : Option Value} {o7 : Option Value} {x4 : Int32} {P2 : zMm → Prop} (hd : 1 ≤ d) (hl : st.length ≤ 4) (hc : mC G (d - 1) ad M_Mo_baseSegments [(.ref (ad 50)), (.int x4), (.int (nI 0))] μ (mPv P2)) (kk : ∀ μ1 : zMm, P2 μ1 → mW G d ad M_Mo_refer 226 [some (.ref (ad 50)), o1, o2, o3, some (.int x4), o5, o6, o7] st μ1 P) : mW G d ad M_Mo_refer 219 [some (.ref (ad 50)), o1, o2, o3, some (.int x4), o5, o6, o7] st μ P :=
  fun H0 H hM hm hu => zw_aload_n (i := 0) dMo_refer_219 rfl rfl zRf_ref <| zw_iload (i := 4) dMo_refer_220 rfl <| zw_iconst (nI 0) dMo_refer_222 zki_0 <| zw_callV [(.int x4), (.int (nI 0))] _ dMo_refer_223 hd zk_Mo_97 hM.is rfl rfl hl (hc H hM) (mPv_k kk hm hu)
theorem sMo_refer_226 {G : zG} {d : Nat} {ad : Nat → Nat} {μ : zMm} {P : Option Value → zMm → Prop} {st : List Value} {o2 : Option Value} {o4 : Option Value} {o5 : Option Value} {o6 : Option Value} {o7 : Option Value} {aa1 : Nat} {x3 : Int32} {P2 : Int32 → zMm → Prop} (hd : 1 ≤ d) (hl : st.length ≤ 4) (hc : mC G (d - 1) ad M_Mo_oneSegment [(.ref (ad 50)), (.ref aa1), (.int x3)] μ (mPi P2)) (kk : ∀ (r : Int32) (μ1 : zMm), P2 r μ1 → mW G d ad M_Mo_refer 232 [some (.ref (ad 50)), some (.ref aa1), o2, some (.int x3), o4, o5, o6, o7] ((.int r) :: st) μ1 P) : mW G d ad M_Mo_refer 226 [some (.ref (ad 50)), some (.ref aa1), o2, some (.int x3), o4, o5, o6, o7] st μ P :=
  fun H0 H hM hm hu => zw_aload_n (i := 0) dMo_refer_226 rfl rfl zRf_ref <| zw_aload_n (i := 1) dMo_refer_227 rfl rfl zRf_ref <| zw_iload_n (i := 3) dMo_refer_228 rfl rfl <| zw_callV [(.ref aa1), (.int x3)] _ dMo_refer_229 hd zk_Mo_76 hM.is rfl rfl hl (hc H hM) (mPi_k kk hm hu)
theorem sMo_refer_232 {G : zG} {d : Nat} {ad : Nat → Nat} {μ : zMm} {P : Option Value → zMm → Prop} {st : List Value} {o0 : Option Value} {o1 : Option Value} {o2 : Option Value} {o3 : Option Value} {o4 : Option Value} {o5 : Option Value} {o6 : Option Value} {o7 : Option Value} {xs0 : Int32} (kt : (xs0 = 0) → mW G d ad M_Mo_refer 244 [o0, o1, o2, o3, o4, o5, o6, o7] st μ P) (kf : (¬ xs0 = 0) → mW G d ad M_Mo_refer 235 [o0, o1, o2, o3, o4, o5, o6, o7] st μ P) : mW G d ad M_Mo_refer 232 [o0, o1, o2, o3, o4, o5, o6, o7] ((.int xs0) :: st) μ P :=
  fun H0 H hM hm hu => zw_if_eq 244 dMo_refer_232 (by decide) (fun h => kt h H0 H hM hm hu) (fun h => kf h H0 H hM hm hu)
theorem sMo_refer_235 {G : zG} {d : Nat} {ad : Nat → Nat} {μ : zMm} {P : Option Value → zMm → Prop} {st : List Value} {o2 : Option Value} {o4 : Option Value} {o5 : Option Value} {o6 : Option Value} {o7 : Option Value} {aa1 : Nat} {x3 : Int32} {P2 : Int32 → zMm → Prop} (hd : 1 ≤ d) (hl : st.length ≤ 4) (hc : mC G (d - 1) ad M_Mo_segments [(.ref (ad 50)), (.ref aa1), (.int x3)] μ (mPi P2)) (kk : ∀ (r : Int32) (μ1 : zMm), P2 r μ1 → mW G d ad M_Mo_refer 241 [some (.ref (ad 50)), some (.ref aa1), o2, some (.int x3), o4, o5, o6, o7] ((.int r) :: st) μ1 P) : mW G d ad M_Mo_refer 235 [some (.ref (ad 50)), some (.ref aa1), o2, some (.int x3), o4, o5, o6, o7] st μ P :=
  fun H0 H hM hm hu => zw_aload_n (i := 0) dMo_refer_235 rfl rfl zRf_ref <| zw_aload_n (i := 1) dMo_refer_236 rfl rfl zRf_ref <| zw_iload_n (i := 3) dMo_refer_237 rfl rfl <| zw_callV [(.ref aa1), (.int x3)] _ dMo_refer_238 hd zk_Mo_95 hM.is rfl rfl hl (hc H hM) (mPi_k kk hm hu)
theorem sMo_refer_241 {G : zG} {d : Nat} {ad : Nat → Nat} {μ : zMm} {P : Option Value → zMm → Prop} {st : List Value} {o0 : Option Value} {o1 : Option Value} {o2 : Option Value} {o3 : Option Value} {o4 : Option Value} {o5 : Option Value} {o6 : Option Value} {o7 : Option Value} {xs0 : Int32} (kt : (¬ xs0 = 0) → mW G d ad M_Mo_refer 256 [o0, o1, o2, o3, o4, o5, o6, o7] st μ P) (kf : (xs0 = 0) → mW G d ad M_Mo_refer 244 [o0, o1, o2, o3, o4, o5, o6, o7] st μ P) : mW G d ad M_Mo_refer 241 [o0, o1, o2, o3, o4, o5, o6, o7] ((.int xs0) :: st) μ P :=
  fun H0 H hM hm hu => zw_if_ne 256 dMo_refer_241 (by decide) (fun h => kt h H0 H hM hm hu) (fun h => kf h H0 H hM hm hu)
theorem sMo_refer_244 {G : zG} {d : Nat} {ad : Nat → Nat} {μ : zMm} {P : Option Value → zMm → Prop} {o0 : Option Value} {o1 : Option Value} {o2 : Option Value} {o3 : Option Value} {o4 : Option Value} {o5 : Option Value} {o6 : Option Value} {o7 : Option Value} (hn : narrow .boolean (.int (nI 0)) = .int (nI 0)) (hq : P (some (.int (nI 0))) μ) : mW G d ad M_Mo_refer 244 [o0, o1, o2, o3, o4, o5, o6, o7] [] μ P :=
  fun H0 H hM hm hu => zw_iconst (nI 0) dMo_refer_244 zki_0 <| zw_iret dMo_refer_245 .boolean rfl hn ⟨μ, hq, hM, hm, hu⟩
theorem sMo_refer_246 {G : zG} {d : Nat} {ad : Nat → Nat} {μ : zMm} {P : Option Value → zMm → Prop} {st : List Value} {o1 : Option Value} {o2 : Option Value} {o3 : Option Value} {o5 : Option Value} {o6 : Option Value} {o7 : Option Value} {x4 : Int32} {P2 : zMm → Prop} (hd : 1 ≤ d) (hl : st.length ≤ 4) (hc : mC G (d - 1) ad M_Mo_baseSegments [(.ref (ad 50)), (.int x4), (.int (nI 1))] μ (mPv P2)) (kk : ∀ μ1 : zMm, P2 μ1 → mW G d ad M_Mo_refer 256 [some (.ref (ad 50)), o1, o2, o3, some (.int x4), some (.int (nI 0)), o6, o7] st μ1 P) : mW G d ad M_Mo_refer 246 [some (.ref (ad 50)), o1, o2, o3, some (.int x4), o5, o6, o7] st μ P :=
  fun H0 H hM hm hu => zw_iconst (nI 0) dMo_refer_246 zki_0 <| zw_istore (i := 5) dMo_refer_247 (Nat.le_of_ble_eq_true rfl) <| zw_aload_n (i := 0) dMo_refer_249 rfl rfl zRf_ref <| zw_iload (i := 4) dMo_refer_250 rfl <| zw_iconst (nI 1) dMo_refer_252 zki_1 <| zw_callV [(.int x4), (.int (nI 1))] _ dMo_refer_253 hd zk_Mo_97 hM.is rfl rfl hl (hc H hM) (mPv_k kk hm hu)
theorem sMo_refer_256 {G : zG} {d : Nat} {ad : Nat → Nat} {μ : zMm} {P : Option Value → zMm → Prop} {st : List Value} {o1 : Option Value} {o2 : Option Value} {o3 : Option Value} {o4 : Option Value} {o5 : Option Value} {o6 : Option Value} {o7 : Option Value} (kt : (¬ (μ.1 14) = 0) → mW G d ad M_Mo_refer 270 [some (.ref (ad 50)), o1, o2, o3, o4, o5, o6, o7] st μ P) (kf : ((μ.1 14) = 0) → mW G d ad M_Mo_refer 263 [some (.ref (ad 50)), o1, o2, o3, o4, o5, o6, o7] st μ P) : mW G d ad M_Mo_refer 256 [some (.ref (ad 50)), o1, o2, o3, o4, o5, o6, o7] st μ P :=
  fun H0 H hM hm hu => zw_aload_n (i := 0) dMo_refer_256 rfl rfl zRf_ref <| zw_getf dMo_refer_257 zf_Mo_57 (hM.fi 14 (Nat.le_of_ble_eq_true rfl) mz_14) <| zw_if_ne 270 dMo_refer_260 (by decide) (fun h => kt h H0 H hM hm hu) (fun h => kf h H0 H hM hm hu)
theorem sMo_refer_263 {G : zG} {d : Nat} {ad : Nat → Nat} {μ : zMm} {P : Option Value → zMm → Prop} {st : List Value} {o1 : Option Value} {o2 : Option Value} {o3 : Option Value} {o4 : Option Value} {o5 : Option Value} {o6 : Option Value} {o7 : Option Value} (kt : (¬ (μ.1 12) = 0) → mW G d ad M_Mo_refer 277 [some (.ref (ad 50)), o1, o2, o3, o4, o5, o6, o7] st μ P) (kf : ((μ.1 12) = 0) → mW G d ad M_Mo_refer 270 [some (.ref (ad 50)), o1, o2, o3, o4, o5, o6, o7] st μ P) : mW G d ad M_Mo_refer 263 [some (.ref (ad 50)), o1, o2, o3, o4, o5, o6, o7] st μ P :=
  fun H0 H hM hm hu => zw_aload_n (i := 0) dMo_refer_263 rfl rfl zRf_ref <| zw_getf dMo_refer_264 zf_Mo_61 (hM.fi 12 (Nat.le_of_ble_eq_true rfl) mz_12) <| zw_if_ne 277 dMo_refer_267 (by decide) (fun h => kt h H0 H hM hm hu) (fun h => kf h H0 H hM hm hu)
theorem sMo_refer_270 {G : zG} {d : Nat} {ad : Nat → Nat} {μ : zMm} {P : Option Value → zMm → Prop} {st : List Value} {o3 : Option Value} {o4 : Option Value} {o5 : Option Value} {o6 : Option Value} {o7 : Option Value} {aa1 : Nat} {x2 : Int32} {P2 : zMm → Prop} (hd : 1 ≤ d) (hl : st.length ≤ 4) (hc : mC G (d - 1) ad M_Mo_segment [(.ref (ad 50)), (.ref aa1), (.int x2), (.int (nI 0))] μ (mPv P2)) (kk : ∀ μ1 : zMm, P2 μ1 → mW G d ad M_Mo_refer 277 [some (.ref (ad 50)), some (.ref aa1), some (.int x2), o3, o4, o5, o6, o7] st μ1 P) : mW G d ad M_Mo_refer 270 [some (.ref (ad 50)), some (.ref aa1), some (.int x2), o3, o4, o5, o6, o7] st μ P :=
  fun H0 H hM hm hu => zw_aload_n (i := 0) dMo_refer_270 rfl rfl zRf_ref <| zw_aload_n (i := 1) dMo_refer_271 rfl rfl zRf_ref <| zw_iload_n (i := 2) dMo_refer_272 rfl rfl <| zw_iconst (nI 0) dMo_refer_273 zki_0 <| zw_callV [(.ref aa1), (.int x2), (.int (nI 0))] _ dMo_refer_274 hd zk_Mo_80 hM.is rfl rfl hl (hc H hM) (mPv_k kk hm hu)
theorem sMo_refer_277 {G : zG} {d : Nat} {ad : Nat → Nat} {μ : zMm} {P : Option Value → zMm → Prop} {st : List Value} {o1 : Option Value} {o2 : Option Value} {o3 : Option Value} {o4 : Option Value} {o5 : Option Value} {o6 : Option Value} {o7 : Option Value} (kt : ((μ.1 12) ≤ (nI 6)) → mW G d ad M_Mo_refer 288 [some (.ref (ad 50)), o1, o2, o3, o4, o5, o6, o7] st μ P) (kf : (¬ (μ.1 12) ≤ (nI 6)) → mW G d ad M_Mo_refer 286 [some (.ref (ad 50)), o1, o2, o3, o4, o5, o6, o7] st μ P) : mW G d ad M_Mo_refer 277 [some (.ref (ad 50)), o1, o2, o3, o4, o5, o6, o7] st μ P :=
  fun H0 H hM hm hu => zw_aload_n (i := 0) dMo_refer_277 rfl rfl zRf_ref <| zw_getf dMo_refer_278 zf_Mo_61 (hM.fi 12 (Nat.le_of_ble_eq_true rfl) mz_12) <| zw_bipush (nI 6) dMo_refer_281 zkb_6 <| zw_icmp_le 288 dMo_refer_283 (by decide) (fun h => kt h H0 H hM hm hu) (fun h => kf h H0 H hM hm hu)
theorem sMo_refer_286 {G : zG} {d : Nat} {ad : Nat → Nat} {μ : zMm} {P : Option Value → zMm → Prop} {o0 : Option Value} {o1 : Option Value} {o2 : Option Value} {o3 : Option Value} {o4 : Option Value} {o5 : Option Value} {o6 : Option Value} {o7 : Option Value} (hn : narrow .boolean (.int (nI 0)) = .int (nI 0)) (hq : P (some (.int (nI 0))) μ) : mW G d ad M_Mo_refer 286 [o0, o1, o2, o3, o4, o5, o6, o7] [] μ P :=
  fun H0 H hM hm hu => zw_iconst (nI 0) dMo_refer_286 zki_0 <| zw_iret dMo_refer_287 .boolean rfl hn ⟨μ, hq, hM, hm, hu⟩
theorem sMo_refer_288 {G : zG} {d : Nat} {ad : Nat → Nat} {μ : zMm} {P : Option Value → zMm → Prop} {st : List Value} {o0 : Option Value} {o1 : Option Value} {o2 : Option Value} {o3 : Option Value} {o4 : Option Value} {o5 : Option Value} {o6 : Option Value} {o7 : Option Value} (kk : mW G d ad M_Mo_refer 291 [o0, o1, o2, o3, o4, o5, some (.int (nI 0)), o7] st μ P) : mW G d ad M_Mo_refer 288 [o0, o1, o2, o3, o4, o5, o6, o7] st μ P :=
  fun H0 H hM hm hu => zw_iconst (nI 0) dMo_refer_288 zki_0 <| zw_istore (i := 6) dMo_refer_289 (Nat.le_of_ble_eq_true rfl) <| kk H0 H hM hm hu
theorem sMo_refer_291 {G : zG} {d : Nat} {ad : Nat → Nat} {μ : zMm} {P : Option Value → zMm → Prop} {st : List Value} {o1 : Option Value} {o2 : Option Value} {o3 : Option Value} {o4 : Option Value} {o5 : Option Value} {o7 : Option Value} {x6 : Int32} (kt : ((μ.1 12) ≤ x6) → mW G d ad M_Mo_refer 354 [some (.ref (ad 50)), o1, o2, o3, o4, o5, some (.int x6), o7] st μ P) (kf : (¬ (μ.1 12) ≤ x6) → mW G d ad M_Mo_refer 300 [some (.ref (ad 50)), o1, o2, o3, o4, o5, some (.int x6), o7] st μ P) : mW G d ad M_Mo_refer 291 [some (.ref (ad 50)), o1, o2, o3, o4, o5, some (.int x6), o7] st μ P :=
  fun H0 H hM hm hu => zw_iload (i := 6) dMo_refer_291 rfl <| zw_aload_n (i := 0) dMo_refer_293 rfl rfl zRf_ref <| zw_getf dMo_refer_294 zf_Mo_61 (hM.fi 12 (Nat.le_of_ble_eq_true rfl) mz_12) <| zw_icmp_ge 354 dMo_refer_297 (by decide) (fun h => kt h H0 H hM hm hu) (fun h => kf h H0 H hM hm hu)
theorem sMo_refer_300 {G : zG} {d : Nat} {ad : Nat → Nat} {μ : zMm} {P : Option Value → zMm → Prop} {st : List Value} {o1 : Option Value} {o2 : Option Value} {o3 : Option Value} {o4 : Option Value} {o5 : Option Value} {o6 : Option Value} {o7 : Option Value} {P2 : zMm → Prop} (hd : 1 ≤ d) (hl : st.length ≤ 4) (hc : mC G (d - 1) ad M_Mo_put [(.ref (ad 50)), (.int (nI 0)), (.int (nI 47))] μ (mPv P2)) (kk : ∀ μ1 : zMm, P2 μ1 → mW G d ad M_Mo_refer 307 [some (.ref (ad 50)), o1, o2, o3, o4, o5, o6, o7] st μ1 P) : mW G d ad M_Mo_refer 300 [some (.ref (ad 50)), o1, o2, o3, o4, o5, o6, o7] st μ P :=
  fun H0 H hM hm hu => zw_aload_n (i := 0) dMo_refer_300 rfl rfl zRf_ref <| zw_iconst (nI 0) dMo_refer_301 zki_0 <| zw_bipush (nI 47) dMo_refer_302 zkb_47 <| zw_callV [(.int (nI 0)), (.int (nI 47))] _ dMo_refer_304 hd zk_Mo_91 hM.is rfl rfl hl (hc H hM) (mPv_k kk hm hu)
theorem sMo_refer_307 {G : zG} {d : Nat} {ad : Nat → Nat} {μ : zMm} {P : Option Value → zMm → Prop} {st : List Value} {o0 : Option Value} {o1 : Option Value} {o2 : Option Value} {o3 : Option Value} {o4 : Option Value} {o5 : Option Value} {o6 : Option Value} {o7 : Option Value} (kk : mW G d ad M_Mo_refer 310 [o0, o1, o2, o3, o4, o5, o6, some (.int (nI 0))] st μ P) : mW G d ad M_Mo_refer 307 [o0, o1, o2, o3, o4, o5, o6, o7] st μ P :=
  fun H0 H hM hm hu => zw_iconst (nI 0) dMo_refer_307 zki_0 <| zw_istore (i := 7) dMo_refer_308 (Nat.le_of_ble_eq_true rfl) <| kk H0 H hM hm hu
theorem sMo_refer_310 {G : zG} {d : Nat} {ad : Nat → Nat} {μ : zMm} {P : Option Value → zMm → Prop} {st : List Value} {o1 : Option Value} {o2 : Option Value} {o3 : Option Value} {o4 : Option Value} {o5 : Option Value} {x7 : Int32} {x6 : Int32} {i1 : Nat} (hx1 : x6 = nI i1) (hi1 : i1 < mLn 11) (kt : ((μ.2 11 i1) ≤ x7) → mW G d ad M_Mo_refer 348 [some (.ref (ad 50)), o1, o2, o3, o4, o5, some (.int x6), some (.int x7)] st μ P) (kf : (¬ (μ.2 11 i1) ≤ x7) → mW G d ad M_Mo_refer 322 [some (.ref (ad 50)), o1, o2, o3, o4, o5, some (.int x6), some (.int x7)] st μ P) : mW G d ad M_Mo_refer 310 [some (.ref (ad 50)), o1, o2, o3, o4, o5, some (.int x6), some (.int x7)] st μ P :=
  fun H0 H hM hm hu => zw_iload (i := 7) dMo_refer_310 rfl <| zw_aload_n (i := 0) dMo_refer_312 rfl rfl zRf_ref <| zw_getf dMo_refer_313 zf_Mo_67 (hM.fa 11 (Nat.le_of_ble_eq_true rfl) mn_11) <| zw_iload (i := 6) dMo_refer_316 rfl <| zw_ialdN (g := μ.2 11) dMo_refer_318 (hM.ai mk_11) hx1 hi1 (mLn_le _) <| zw_icmp_ge 348 dMo_refer_319 (by decide) (fun h => kt h H0 H hM hm hu) (fun h => kf h H0 H hM hm hu)
theorem sMo_refer_322 {G : zG} {d : Nat} {ad : Nat → Nat} {μ : zMm} {P : Option Value → zMm → Prop} {st : List Value} {o1 : Option Value} {o2 : Option Value} {o3 : Option Value} {o4 : Option Value} {o5 : Option Value} {x6 : Int32} {x7 : Int32} {i1 : Nat} {i2 : Nat} {P2 : zMm → Prop} (hx1 : x6 = nI i1) (hi1 : i1 < mLn 10) (hx2 : ((μ.2 10 i1) + x7) = nI i2) (hi2 : i2 < mLn 9) (hd : 1 ≤ d) (hl : st.length ≤ 4) (hc : mC G (d - 1) ad M_Mo_put [(.ref (ad 50)), (.int (nI 0)), (.int (μ.2 9 i2))] μ (mPv P2)) (kk : ∀ μ1 : zMm, P2 μ1 → mW G d ad M_Mo_refer 342 [some (.ref (ad 50)), o1, o2, o3, o4, o5, some (.int x6), some (.int x7)] st μ1 P) : mW G d ad M_Mo_refer 322 [some (.ref (ad 50)), o1, o2, o3, o4, o5, some (.int x6), some (.int x7)] st μ P :=
  fun H0 H hM hm hu => zw_aload_n (i := 0) dMo_refer_322 rfl rfl zRf_ref <| zw_iconst (nI 0) dMo_refer_323 zki_0 <| zw_aload_n (i := 0) dMo_refer_324 rfl rfl zRf_ref <| zw_getf dMo_refer_325 zf_Mo_70 (hM.fa 9 (Nat.le_of_ble_eq_true rfl) mn_9) <| zw_aload_n (i := 0) dMo_refer_328 rfl rfl zRf_ref <| zw_getf dMo_refer_329 zf_Mo_64 (hM.fa 10 (Nat.le_of_ble_eq_true rfl) mn_10) <| zw_iload (i := 6) dMo_refer_332 rfl <| zw_ialdN (g := μ.2 10) dMo_refer_334 (hM.ai mk_10) hx1 hi1 (mLn_le _) <| zw_iload (i := 7) dMo_refer_335 rfl <| zw_iadd dMo_refer_337 <| zw_baldN (g := μ.2 9) dMo_refer_338 (hM.ab mk_9) hx2 hi2 (mLn_le _) <| zw_callV [(.int (nI 0)), (.int (μ.2 9 i2))] _ dMo_refer_339 hd zk_Mo_91 hM.is rfl rfl hl (hc H hM) (mPv_k kk hm hu)
theorem sMo_refer_342 {G : zG} {d : Nat} {ad : Nat → Nat} {μ : zMm} {P : Option Value → zMm → Prop} {st : List Value} {o0 : Option Value} {o1 : Option Value} {o2 : Option Value} {o3 : Option Value} {o4 : Option Value} {o5 : Option Value} {o6 : Option Value} {x7 : Int32} (kk : mW G d ad M_Mo_refer 310 [o0, o1, o2, o3, o4, o5, o6, some (.int (x7 + (nI 1)))] st μ P) : mW G d ad M_Mo_refer 342 [o0, o1, o2, o3, o4, o5, o6, some (.int x7)] st μ P :=
  fun H0 H hM hm hu => zw_iinc (i := 7) (x7 + (nI 1)) dMo_refer_342 rfl (congrArg (fun z => x7 + z) zki_1) <| zw_goto 310 dMo_refer_345 (by decide) <| kk H0 H hM hm hu
theorem sMo_refer_348 {G : zG} {d : Nat} {ad : Nat → Nat} {μ : zMm} {P : Option Value → zMm → Prop} {st : List Value} {o0 : Option Value} {o1 : Option Value} {o2 : Option Value} {o3 : Option Value} {o4 : Option Value} {o5 : Option Value} {o7 : Option Value} {x6 : Int32} (kk : mW G d ad M_Mo_refer 291 [o0, o1, o2, o3, o4, o5, some (.int (x6 + (nI 1))), o7] st μ P) : mW G d ad M_Mo_refer 348 [o0, o1, o2, o3, o4, o5, some (.int x6), o7] st μ P :=
  fun H0 H hM hm hu => zw_iinc (i := 6) (x6 + (nI 1)) dMo_refer_348 rfl (congrArg (fun z => x6 + z) zki_1) <| zw_goto 291 dMo_refer_351 (by decide) <| kk H0 H hM hm hu
theorem sMo_refer_354 {G : zG} {d : Nat} {ad : Nat → Nat} {μ : zMm} {P : Option Value → zMm → Prop} {st : List Value} {o2 : Option Value} {o6 : Option Value} {o7 : Option Value} {aa1 : Nat} {x3 : Int32} {x4 : Int32} {x5 : Int32} {P2 : Int32 → zMm → Prop} (hd : 1 ≤ d) (hl : st.length ≤ 4) (hc : mC G (d - 1) ad M_Mo_query [(.ref (ad 50)), (.ref aa1), (.int x3), (.int x4), (.int x5)] μ (mPi P2)) (kk : ∀ (r : Int32) (μ1 : zMm), P2 r μ1 → mW G d ad M_Mo_refer 364 [some (.ref (ad 50)), some (.ref aa1), o2, some (.int x3), some (.int x4), some (.int x5), o6, o7] ((.int r) :: st) μ1 P) : mW G d ad M_Mo_refer 354 [some (.ref (ad 50)), some (.ref aa1), o2, some (.int x3), some (.int x4), some (.int x5), o6, o7] st μ P :=
  fun H0 H hM hm hu => zw_aload_n (i := 0) dMo_refer_354 rfl rfl zRf_ref <| zw_aload_n (i := 1) dMo_refer_355 rfl rfl zRf_ref <| zw_iload_n (i := 3) dMo_refer_356 rfl rfl <| zw_iload (i := 4) dMo_refer_357 rfl <| zw_iload (i := 5) dMo_refer_359 rfl <| zw_callV [(.ref aa1), (.int x3), (.int x4), (.int x5)] _ dMo_refer_361 hd zk_Mo_101 hM.is rfl rfl hl (hc H hM) (mPi_k kk hm hu)
theorem sMo_refer_364 {G : zG} {d : Nat} {ad : Nat → Nat} {μ : zMm} {P : Option Value → zMm → Prop} {o0 : Option Value} {o1 : Option Value} {o2 : Option Value} {o3 : Option Value} {o4 : Option Value} {o5 : Option Value} {o6 : Option Value} {o7 : Option Value} {xs0 : Int32} (hn : narrow .boolean (.int xs0) = .int xs0) (hq : P (some (.int xs0)) μ) : mW G d ad M_Mo_refer 364 [o0, o1, o2, o3, o4, o5, o6, o7] ((.int xs0) :: []) μ P :=
  fun H0 H hM hm hu => zw_iret dMo_refer_364 .boolean rfl hn ⟨μ, hq, hM, hm, hu⟩
theorem sMo_nameEnd_0 {G : zG} {d : Nat} {ad : Nat → Nat} {μ : zMm} {P : Option Value → zMm → Prop} {st : List Value} {o0 : Option Value} {o3 : Option Value} {x1 : Int32} {x2 : Int32} (kt : (x2 ≤ x1) → mW G d ad M_Mo_nameEnd 14 [o0, some (.int x1), some (.int x2), o3] st μ P) (kf : (¬ x2 ≤ x1) → mW G d ad M_Mo_nameEnd 5 [o0, some (.int x1), some (.int x2), o3] st μ P) : mW G d ad M_Mo_nameEnd 0 [o0, some (.int x1), some (.int x2), o3] st μ P :=
  fun H0 H hM hm hu => zw_iload_n (i := 1) dMo_nameEnd_0 rfl rfl <| zw_iload_n (i := 2) dMo_nameEnd_1 rfl rfl <| zw_icmp_ge 14 dMo_nameEnd_2 (by decide) (fun h => kt h H0 H hM hm hu) (fun h => kf h H0 H hM hm hu)
theorem sMo_nameEnd_5 {G : zG} {d : Nat} {ad : Nat → Nat} {μ : zMm} {P : Option Value → zMm → Prop} {st : List Value} {o2 : Option Value} {o3 : Option Value} {k0 : Nat} {x1 : Int32} {i1 : Nat} {P2 : Int32 → zMm → Prop} (hkk0 : mB k0) (hx1 : x1 = nI i1) (hi1 : i1 < mLn k0) (hd : 1 ≤ d) (hl : st.length ≤ 4) (hc : mC G (d - 1) ad M_Mo_isSmall [(.int (μ.2 k0 i1))] μ (mPi P2)) (kk : ∀ (r : Int32) (μ1 : zMm), P2 r μ1 → mW G d ad M_Mo_nameEnd 11 [some (.ref (ad k0)), some (.int x1), o2, o3] ((.int r) :: st) μ1 P) : mW G d ad M_Mo_nameEnd 5 [some (.ref (ad k0)), some (.int x1), o2, o3] st μ P :=
  fun H0 H hM hm hu => zw_aload_n (i := 0) dMo_nameEnd_5 rfl rfl zRf_ref <| zw_iload_n (i := 1) dMo_nameEnd_6 rfl rfl <| zw_baldN (g := μ.2 k0) dMo_nameEnd_7 (hM.ab hkk0) hx1 hi1 (mLn_le _) <| zw_callS [(.int (μ.2 k0 i1))] _ dMo_nameEnd_8 hd zk_Mo_27 rfl rfl hl (hc H hM) (mPi_k kk hm hu)
theorem sMo_nameEnd_11 {G : zG} {d : Nat} {ad : Nat → Nat} {μ : zMm} {P : Option Value → zMm → Prop} {st : List Value} {o0 : Option Value} {o1 : Option Value} {o2 : Option Value} {o3 : Option Value} {xs0 : Int32} (kt : (¬ xs0 = 0) → mW G d ad M_Mo_nameEnd 16 [o0, o1, o2, o3] st μ P) (kf : (xs0 = 0) → mW G d ad M_Mo_nameEnd 14 [o0, o1, o2, o3] st μ P) : mW G d ad M_Mo_nameEnd 11 [o0, o1, o2, o3] ((.int xs0) :: st) μ P :=
  fun H0 H hM hm hu => zw_if_ne 16 dMo_nameEnd_11 (by decide) (fun h => kt h H0 H hM hm hu) (fun h => kf h H0 H hM hm hu)
theorem sMo_nameEnd_14 {G : zG} {d : Nat} {ad : Nat → Nat} {μ : zMm} {P : Option Value → zMm → Prop} {o0 : Option Value} {o2 : Option Value} {o3 : Option Value} {x1 : Int32} (hq : P (some (.int x1)) μ) : mW G d ad M_Mo_nameEnd 14 [o0, some (.int x1), o2, o3] [] μ P :=
  fun H0 H hM hm hu => zw_iload_n (i := 1) dMo_nameEnd_14 rfl rfl <| zw_iret dMo_nameEnd_15 .int rfl rfl ⟨μ, hq, hM, hm, hu⟩
theorem sMo_nameEnd_16 {G : zG} {d : Nat} {ad : Nat → Nat} {μ : zMm} {P : Option Value → zMm → Prop} {st : List Value} {o0 : Option Value} {o2 : Option Value} {o3 : Option Value} {x1 : Int32} (kk : mW G d ad M_Mo_nameEnd 18 [o0, some (.int x1), o2, some (.int x1)] st μ P) : mW G d ad M_Mo_nameEnd 16 [o0, some (.int x1), o2, o3] st μ P :=
  fun H0 H hM hm hu => zw_iload_n (i := 1) dMo_nameEnd_16 rfl rfl <| zw_istore_n (i := 3) dMo_nameEnd_17 rfl (Nat.le_of_ble_eq_true rfl) <| kk H0 H hM hm hu
theorem sMo_nameEnd_18 {G : zG} {d : Nat} {ad : Nat → Nat} {μ : zMm} {P : Option Value → zMm → Prop} {st : List Value} {o0 : Option Value} {o1 : Option Value} {x3 : Int32} {x2 : Int32} (kt : (x2 ≤ x3) → mW G d ad M_Mo_nameEnd 47 [o0, o1, some (.int x2), some (.int x3)] st μ P) (kf : (¬ x2 ≤ x3) → mW G d ad M_Mo_nameEnd 23 [o0, o1, some (.int x2), some (.int x3)] st μ P) : mW G d ad M_Mo_nameEnd 18 [o0, o1, some (.int x2), some (.int x3)] st μ P :=
  fun H0 H hM hm hu => zw_iload_n (i := 3) dMo_nameEnd_18 rfl rfl <| zw_iload_n (i := 2) dMo_nameEnd_19 rfl rfl <| zw_icmp_ge 47 dMo_nameEnd_20 (by decide) (fun h => kt h H0 H hM hm hu) (fun h => kf h H0 H hM hm hu)
theorem sMo_nameEnd_23 {G : zG} {d : Nat} {ad : Nat → Nat} {μ : zMm} {P : Option Value → zMm → Prop} {st : List Value} {o1 : Option Value} {o2 : Option Value} {k0 : Nat} {x3 : Int32} {i1 : Nat} {P2 : Int32 → zMm → Prop} (hkk0 : mB k0) (hx1 : x3 = nI i1) (hi1 : i1 < mLn k0) (hd : 1 ≤ d) (hl : st.length ≤ 4) (hc : mC G (d - 1) ad M_Mo_isSmall [(.int (μ.2 k0 i1))] μ (mPi P2)) (kk : ∀ (r : Int32) (μ1 : zMm), P2 r μ1 → mW G d ad M_Mo_nameEnd 29 [some (.ref (ad k0)), o1, o2, some (.int x3)] ((.int r) :: st) μ1 P) : mW G d ad M_Mo_nameEnd 23 [some (.ref (ad k0)), o1, o2, some (.int x3)] st μ P :=
  fun H0 H hM hm hu => zw_aload_n (i := 0) dMo_nameEnd_23 rfl rfl zRf_ref <| zw_iload_n (i := 3) dMo_nameEnd_24 rfl rfl <| zw_baldN (g := μ.2 k0) dMo_nameEnd_25 (hM.ab hkk0) hx1 hi1 (mLn_le _) <| zw_callS [(.int (μ.2 k0 i1))] _ dMo_nameEnd_26 hd zk_Mo_27 rfl rfl hl (hc H hM) (mPi_k kk hm hu)
theorem sMo_nameEnd_29 {G : zG} {d : Nat} {ad : Nat → Nat} {μ : zMm} {P : Option Value → zMm → Prop} {st : List Value} {o0 : Option Value} {o1 : Option Value} {o2 : Option Value} {o3 : Option Value} {xs0 : Int32} (kt : (¬ xs0 = 0) → mW G d ad M_Mo_nameEnd 41 [o0, o1, o2, o3] st μ P) (kf : (xs0 = 0) → mW G d ad M_Mo_nameEnd 32 [o0, o1, o2, o3] st μ P) : mW G d ad M_Mo_nameEnd 29 [o0, o1, o2, o3] ((.int xs0) :: st) μ P :=
  fun H0 H hM hm hu => zw_if_ne 41 dMo_nameEnd_29 (by decide) (fun h => kt h H0 H hM hm hu) (fun h => kf h H0 H hM hm hu)
theorem sMo_nameEnd_32 {G : zG} {d : Nat} {ad : Nat → Nat} {μ : zMm} {P : Option Value → zMm → Prop} {st : List Value} {o1 : Option Value} {o2 : Option Value} {k0 : Nat} {x3 : Int32} {i1 : Nat} {P2 : Int32 → zMm → Prop} (hkk0 : mB k0) (hx1 : x3 = nI i1) (hi1 : i1 < mLn k0) (hd : 1 ≤ d) (hl : st.length ≤ 4) (hc : mC G (d - 1) ad M_Mo_isDigit [(.int (μ.2 k0 i1))] μ (mPi P2)) (kk : ∀ (r : Int32) (μ1 : zMm), P2 r μ1 → mW G d ad M_Mo_nameEnd 38 [some (.ref (ad k0)), o1, o2, some (.int x3)] ((.int r) :: st) μ1 P) : mW G d ad M_Mo_nameEnd 32 [some (.ref (ad k0)), o1, o2, some (.int x3)] st μ P :=
  fun H0 H hM hm hu => zw_aload_n (i := 0) dMo_nameEnd_32 rfl rfl zRf_ref <| zw_iload_n (i := 3) dMo_nameEnd_33 rfl rfl <| zw_baldN (g := μ.2 k0) dMo_nameEnd_34 (hM.ab hkk0) hx1 hi1 (mLn_le _) <| zw_callS [(.int (μ.2 k0 i1))] _ dMo_nameEnd_35 hd zk_Mo_31 rfl rfl hl (hc H hM) (mPi_k kk hm hu)
theorem sMo_nameEnd_38 {G : zG} {d : Nat} {ad : Nat → Nat} {μ : zMm} {P : Option Value → zMm → Prop} {st : List Value} {o0 : Option Value} {o1 : Option Value} {o2 : Option Value} {o3 : Option Value} {xs0 : Int32} (kt : (xs0 = 0) → mW G d ad M_Mo_nameEnd 47 [o0, o1, o2, o3] st μ P) (kf : (¬ xs0 = 0) → mW G d ad M_Mo_nameEnd 41 [o0, o1, o2, o3] st μ P) : mW G d ad M_Mo_nameEnd 38 [o0, o1, o2, o3] ((.int xs0) :: st) μ P :=
  fun H0 H hM hm hu => zw_if_eq 47 dMo_nameEnd_38 (by decide) (fun h => kt h H0 H hM hm hu) (fun h => kf h H0 H hM hm hu)
theorem sMo_nameEnd_41 {G : zG} {d : Nat} {ad : Nat → Nat} {μ : zMm} {P : Option Value → zMm → Prop} {st : List Value} {o0 : Option Value} {o1 : Option Value} {o2 : Option Value} {x3 : Int32} (kk : mW G d ad M_Mo_nameEnd 18 [o0, o1, o2, some (.int (x3 + (nI 1)))] st μ P) : mW G d ad M_Mo_nameEnd 41 [o0, o1, o2, some (.int x3)] st μ P :=
  fun H0 H hM hm hu => zw_iinc (i := 3) (x3 + (nI 1)) dMo_nameEnd_41 rfl (congrArg (fun z => x3 + z) zki_1) <| zw_goto 18 dMo_nameEnd_44 (by decide) <| kk H0 H hM hm hu
theorem sMo_nameEnd_47 {G : zG} {d : Nat} {ad : Nat → Nat} {μ : zMm} {P : Option Value → zMm → Prop} {st : List Value} {o0 : Option Value} {o2 : Option Value} {x3 : Int32} {x1 : Int32} (kt : ((x3 - x1) ≤ (nI 8)) → mW G d ad M_Mo_nameEnd 59 [o0, some (.int x1), o2, some (.int x3)] st μ P) (kf : (¬ (x3 - x1) ≤ (nI 8)) → mW G d ad M_Mo_nameEnd 55 [o0, some (.int x1), o2, some (.int x3)] st μ P) : mW G d ad M_Mo_nameEnd 47 [o0, some (.int x1), o2, some (.int x3)] st μ P :=
  fun H0 H hM hm hu => zw_iload_n (i := 3) dMo_nameEnd_47 rfl rfl <| zw_iload_n (i := 1) dMo_nameEnd_48 rfl rfl <| zw_isub dMo_nameEnd_49 <| zw_bipush (nI 8) dMo_nameEnd_50 zkb_8 <| zw_icmp_le 59 dMo_nameEnd_52 (by decide) (fun h => kt h H0 H hM hm hu) (fun h => kf h H0 H hM hm hu)
theorem sMo_nameEnd_55 {G : zG} {d : Nat} {ad : Nat → Nat} {μ : zMm} {P : Option Value → zMm → Prop} {o0 : Option Value} {o2 : Option Value} {o3 : Option Value} {x1 : Int32} (hq : P (some (.int x1)) μ) : mW G d ad M_Mo_nameEnd 55 [o0, some (.int x1), o2, o3] [] μ P :=
  fun H0 H hM hm hu => zw_iload_n (i := 1) dMo_nameEnd_55 rfl rfl <| zw_goto 60 dMo_nameEnd_56 (by decide) <| zw_iret dMo_nameEnd_60 .int rfl rfl ⟨μ, hq, hM, hm, hu⟩
theorem sMo_nameEnd_59 {G : zG} {d : Nat} {ad : Nat → Nat} {μ : zMm} {P : Option Value → zMm → Prop} {o0 : Option Value} {o1 : Option Value} {o2 : Option Value} {x3 : Int32} (hq : P (some (.int x3)) μ) : mW G d ad M_Mo_nameEnd 59 [o0, o1, o2, some (.int x3)] [] μ P :=
  fun H0 H hM hm hu => zw_iload_n (i := 3) dMo_nameEnd_59 rfl rfl <| zw_iret dMo_nameEnd_60 .int rfl rfl ⟨μ, hq, hM, hm, hu⟩
theorem sMo_nameEnd_60 {G : zG} {d : Nat} {ad : Nat → Nat} {μ : zMm} {P : Option Value → zMm → Prop} {o0 : Option Value} {o1 : Option Value} {o2 : Option Value} {o3 : Option Value} {xs0 : Int32} (hq : P (some (.int xs0)) μ) : mW G d ad M_Mo_nameEnd 60 [o0, o1, o2, o3] ((.int xs0) :: []) μ P :=
  fun H0 H hM hm hu => zw_iret dMo_nameEnd_60 .int rfl rfl ⟨μ, hq, hM, hm, hu⟩
theorem sMo_isSmall_0 {G : zG} {d : Nat} {ad : Nat → Nat} {μ : zMm} {P : Option Value → zMm → Prop} {st : List Value} {x0 : Int32} (kt : (x0 < (nI 97)) → mW G d ad M_Mo_isSmall 16 [some (.int x0)] st μ P) (kf : (¬ x0 < (nI 97)) → mW G d ad M_Mo_isSmall 6 [some (.int x0)] st μ P) : mW G d ad M_Mo_isSmall 0 [some (.int x0)] st μ P :=
  fun H0 H hM hm hu => zw_iload_n (i := 0) dMo_isSmall_0 rfl rfl <| zw_bipush (nI 97) dMo_isSmall_1 zkb_97 <| zw_icmp_lt 16 dMo_isSmall_3 (by decide) (fun h => kt h H0 H hM hm hu) (fun h => kf h H0 H hM hm hu)
theorem sMo_isSmall_6 {G : zG} {d : Nat} {ad : Nat → Nat} {μ : zMm} {P : Option Value → zMm → Prop} {st : List Value} {x0 : Int32} (kt : ((nI 122) < x0) → mW G d ad M_Mo_isSmall 16 [some (.int x0)] st μ P) (kf : (¬ (nI 122) < x0) → mW G d ad M_Mo_isSmall 12 [some (.int x0)] st μ P) : mW G d ad M_Mo_isSmall 6 [some (.int x0)] st μ P :=
  fun H0 H hM hm hu => zw_iload_n (i := 0) dMo_isSmall_6 rfl rfl <| zw_bipush (nI 122) dMo_isSmall_7 zkb_122 <| zw_icmp_gt 16 dMo_isSmall_9 (by decide) (fun h => kt h H0 H hM hm hu) (fun h => kf h H0 H hM hm hu)
theorem sMo_isSmall_12 {G : zG} {d : Nat} {ad : Nat → Nat} {μ : zMm} {P : Option Value → zMm → Prop} {o0 : Option Value} (hn : narrow .boolean (.int (nI 1)) = .int (nI 1)) (hq : P (some (.int (nI 1))) μ) : mW G d ad M_Mo_isSmall 12 [o0] [] μ P :=
  fun H0 H hM hm hu => zw_iconst (nI 1) dMo_isSmall_12 zki_1 <| zw_goto 17 dMo_isSmall_13 (by decide) <| zw_iret dMo_isSmall_17 .boolean rfl hn ⟨μ, hq, hM, hm, hu⟩
theorem sMo_isSmall_16 {G : zG} {d : Nat} {ad : Nat → Nat} {μ : zMm} {P : Option Value → zMm → Prop} {o0 : Option Value} (hn : narrow .boolean (.int (nI 0)) = .int (nI 0)) (hq : P (some (.int (nI 0))) μ) : mW G d ad M_Mo_isSmall 16 [o0] [] μ P :=
  fun H0 H hM hm hu => zw_iconst (nI 0) dMo_isSmall_16 zki_0 <| zw_iret dMo_isSmall_17 .boolean rfl hn ⟨μ, hq, hM, hm, hu⟩
theorem sMo_isSmall_17 {G : zG} {d : Nat} {ad : Nat → Nat} {μ : zMm} {P : Option Value → zMm → Prop} {o0 : Option Value} {xs0 : Int32} (hn : narrow .boolean (.int xs0) = .int xs0) (hq : P (some (.int xs0)) μ) : mW G d ad M_Mo_isSmall 17 [o0] ((.int xs0) :: []) μ P :=
  fun H0 H hM hm hu => zw_iret dMo_isSmall_17 .boolean rfl hn ⟨μ, hq, hM, hm, hu⟩
theorem sMo_isDigit_0 {G : zG} {d : Nat} {ad : Nat → Nat} {μ : zMm} {P : Option Value → zMm → Prop} {st : List Value} {x0 : Int32} (kt : (x0 < (nI 48)) → mW G d ad M_Mo_isDigit 16 [some (.int x0)] st μ P) (kf : (¬ x0 < (nI 48)) → mW G d ad M_Mo_isDigit 6 [some (.int x0)] st μ P) : mW G d ad M_Mo_isDigit 0 [some (.int x0)] st μ P :=
  fun H0 H hM hm hu => zw_iload_n (i := 0) dMo_isDigit_0 rfl rfl <| zw_bipush (nI 48) dMo_isDigit_1 zkb_48 <| zw_icmp_lt 16 dMo_isDigit_3 (by decide) (fun h => kt h H0 H hM hm hu) (fun h => kf h H0 H hM hm hu)
theorem sMo_isDigit_6 {G : zG} {d : Nat} {ad : Nat → Nat} {μ : zMm} {P : Option Value → zMm → Prop} {st : List Value} {x0 : Int32} (kt : ((nI 57) < x0) → mW G d ad M_Mo_isDigit 16 [some (.int x0)] st μ P) (kf : (¬ (nI 57) < x0) → mW G d ad M_Mo_isDigit 12 [some (.int x0)] st μ P) : mW G d ad M_Mo_isDigit 6 [some (.int x0)] st μ P :=
  fun H0 H hM hm hu => zw_iload_n (i := 0) dMo_isDigit_6 rfl rfl <| zw_bipush (nI 57) dMo_isDigit_7 zkb_57 <| zw_icmp_gt 16 dMo_isDigit_9 (by decide) (fun h => kt h H0 H hM hm hu) (fun h => kf h H0 H hM hm hu)
theorem sMo_isDigit_12 {G : zG} {d : Nat} {ad : Nat → Nat} {μ : zMm} {P : Option Value → zMm → Prop} {o0 : Option Value} (hn : narrow .boolean (.int (nI 1)) = .int (nI 1)) (hq : P (some (.int (nI 1))) μ) : mW G d ad M_Mo_isDigit 12 [o0] [] μ P :=
  fun H0 H hM hm hu => zw_iconst (nI 1) dMo_isDigit_12 zki_1 <| zw_goto 17 dMo_isDigit_13 (by decide) <| zw_iret dMo_isDigit_17 .boolean rfl hn ⟨μ, hq, hM, hm, hu⟩
theorem sMo_isDigit_16 {G : zG} {d : Nat} {ad : Nat → Nat} {μ : zMm} {P : Option Value → zMm → Prop} {o0 : Option Value} (hn : narrow .boolean (.int (nI 0)) = .int (nI 0)) (hq : P (some (.int (nI 0))) μ) : mW G d ad M_Mo_isDigit 16 [o0] [] μ P :=
  fun H0 H hM hm hu => zw_iconst (nI 0) dMo_isDigit_16 zki_0 <| zw_iret dMo_isDigit_17 .boolean rfl hn ⟨μ, hq, hM, hm, hu⟩
theorem sMo_isDigit_17 {G : zG} {d : Nat} {ad : Nat → Nat} {μ : zMm} {P : Option Value → zMm → Prop} {o0 : Option Value} {xs0 : Int32} (hn : narrow .boolean (.int xs0) = .int xs0) (hq : P (some (.int xs0)) μ) : mW G d ad M_Mo_isDigit 17 [o0] ((.int xs0) :: []) μ P :=
  fun H0 H hM hm hu => zw_iret dMo_isDigit_17 .boolean rfl hn ⟨μ, hq, hM, hm, hu⟩
theorem sMo_put_0 {G : zG} {d : Nat} {ad : Nat → Nat} {μ : zMm} {P : Option Value → zMm → Prop} {st : List Value} {x1 : Int32} {x2 : Int32} {i1 : Nat} {i : Nat} (hx1 : x1 = nI i1) (hi1 : i1 < mLn 7) (hx : ((x1 * (nI 150)) + (μ.2 7 i1)) = nI i) (hi : i < mLn 6) (kk : mW G d ad M_Mo_put 19 [some (.ref (ad 50)), some (.int x1), some (.int x2)] st (μ.1, updA μ.2 6 i ((x2).toInt8.toInt32).toInt8.toInt32) P) : mW G d ad M_Mo_put 0 [some (.ref (ad 50)), some (.int x1), some (.int x2)] st μ P :=
  fun H0 H hM hm hu => zw_aload_n (i := 0) dMo_put_0 rfl rfl zRf_ref <| zw_getf dMo_put_1 zf_Mo_36 (hM.fa 6 (Nat.le_of_ble_eq_true rfl) mn_6) <| zw_iload_n (i := 1) dMo_put_4 rfl rfl <| zw_sipush (nI 150) dMo_put_5 zks_150 <| zw_imul dMo_put_8 <| zw_aload_n (i := 0) dMo_put_9 rfl rfl zRf_ref <| zw_getf dMo_put_10 zf_Mo_39 (hM.fa 7 (Nat.le_of_ble_eq_true rfl) mn_7) <| zw_iload_n (i := 1) dMo_put_13 rfl rfl <| zw_ialdN (g := μ.2 7) dMo_put_14 (hM.ai mk_7) hx1 hi1 (mLn_le _) <| zw_iadd dMo_put_15 <| zw_iload_n (i := 2) dMo_put_16 rfl rfl <| zw_i2b dMo_put_17 <| (mw_bast (M := M_Mo_put) (pc := 18) (k := 6) dMo_put_18 mk_6 hx hi kk) H0 H hM hm hu
theorem sMo_put_19 {G : zG} {d : Nat} {ad : Nat → Nat} {μ : zMm} {P : Option Value → zMm → Prop} {st : List Value} {o2 : Option Value} {x1 : Int32} {i1 : Nat} {i : Nat} (hx1 : x1 = nI i1) (hi1 : i1 < mLn 7) (hx : x1 = nI i) (hi : i < mLn 7) (kk : mW G d ad M_Mo_put 29 [some (.ref (ad 50)), some (.int x1), o2] st (μ.1, updA μ.2 7 i ((μ.2 7 i1) + (nI 1))) P) : mW G d ad M_Mo_put 19 [some (.ref (ad 50)), some (.int x1), o2] st μ P :=
  fun H0 H hM hm hu => zw_aload_n (i := 0) dMo_put_19 rfl rfl zRf_ref <| zw_getf dMo_put_20 zf_Mo_39 (hM.fa 7 (Nat.le_of_ble_eq_true rfl) mn_7) <| zw_iload_n (i := 1) dMo_put_23 rfl rfl <| zw_dup2 dMo_put_24 rfl rfl <| zw_ialdN (g := μ.2 7) dMo_put_25 (hM.ai mk_7) hx1 hi1 (mLn_le _) <| zw_iconst (nI 1) dMo_put_26 zki_1 <| zw_iadd dMo_put_27 <| (mw_iast (M := M_Mo_put) (pc := 28) (k := 7) dMo_put_28 mk_7 hx hi kk) H0 H hM hm hu
theorem sMo_put_29 {G : zG} {d : Nat} {ad : Nat → Nat} {μ : zMm} {P : Option Value → zMm → Prop} {o0 : Option Value} {o1 : Option Value} {o2 : Option Value} (hq : P none μ) : mW G d ad M_Mo_put 29 [o0, o1, o2] [] μ P :=
  fun H0 H hM hm hu => zw_vret dMo_put_29 rfl ⟨μ, hq, hM, hm, hu⟩
theorem sMo_segments_0 {G : zG} {d : Nat} {ad : Nat → Nat} {μ : zMm} {P : Option Value → zMm → Prop} {st : List Value} {o1 : Option Value} {x2 : Int32} (kt : (x2 ≤ (μ.1 15)) → mW G d ad M_Mo_segments 40 [some (.ref (ad 50)), o1, some (.int x2)] st μ P) (kf : (¬ x2 ≤ (μ.1 15)) → mW G d ad M_Mo_segments 8 [some (.ref (ad 50)), o1, some (.int x2)] st μ P) : mW G d ad M_Mo_segments 0 [some (.ref (ad 50)), o1, some (.int x2)] st μ P :=
  fun H0 H hM hm hu => zw_aload_n (i := 0) dMo_segments_0 rfl rfl zRf_ref <| zw_getf dMo_segments_1 zf_Mo_73 (hM.fi 15 (Nat.le_of_ble_eq_true rfl) mz_15) <| zw_iload_n (i := 2) dMo_segments_4 rfl rfl <| zw_icmp_ge 40 dMo_segments_5 (by decide) (fun h => kt h H0 H hM hm hu) (fun h => kf h H0 H hM hm hu)
theorem sMo_segments_8 {G : zG} {d : Nat} {ad : Nat → Nat} {μ : zMm} {P : Option Value → zMm → Prop} {st : List Value} {o2 : Option Value} {k1 : Nat} {i1 : Nat} (hkk1 : mB k1) (hx1 : (μ.1 15) = nI i1) (hi1 : i1 < mLn k1) (kt : (¬ (μ.2 k1 i1) = (nI 47)) → mW G d ad M_Mo_segments 40 [some (.ref (ad 50)), some (.ref (ad k1)), o2] st μ P) (kf : ((μ.2 k1 i1) = (nI 47)) → mW G d ad M_Mo_segments 19 [some (.ref (ad 50)), some (.ref (ad k1)), o2] st μ P) : mW G d ad M_Mo_segments 8 [some (.ref (ad 50)), some (.ref (ad k1)), o2] st μ P :=
  fun H0 H hM hm hu => zw_aload_n (i := 1) dMo_segments_8 rfl rfl zRf_ref <| zw_aload_n (i := 0) dMo_segments_9 rfl rfl zRf_ref <| zw_getf dMo_segments_10 zf_Mo_73 (hM.fi 15 (Nat.le_of_ble_eq_true rfl) mz_15) <| zw_baldN (g := μ.2 k1) dMo_segments_13 (hM.ab hkk1) hx1 hi1 (mLn_le _) <| zw_bipush (nI 47) dMo_segments_14 zkb_47 <| zw_icmp_ne 40 dMo_segments_16 (by decide) (fun h => kt h H0 H hM hm hu) (fun h => kf h H0 H hM hm hu)
theorem sMo_segments_19 {G : zG} {d : Nat} {ad : Nat → Nat} {μ : zMm} {P : Option Value → zMm → Prop} {st : List Value} {o1 : Option Value} {o2 : Option Value} (kk : mW G d ad M_Mo_segments 29 [some (.ref (ad 50)), o1, o2] st (upd μ.1 15 ((μ.1 15) + (nI 1)), μ.2) P) : mW G d ad M_Mo_segments 19 [some (.ref (ad 50)), o1, o2] st μ P :=
  fun H0 H hM hm hu => zw_aload_n (i := 0) dMo_segments_19 rfl rfl zRf_ref <| zw_dup dMo_segments_20 rfl <| zw_getf dMo_segments_21 zf_Mo_73 (hM.fi 15 (Nat.le_of_ble_eq_true rfl) mz_15) <| zw_iconst (nI 1) dMo_segments_24 zki_1 <| zw_iadd dMo_segments_25 <| (mw_puti (M := M_Mo_segments) (pc := 26) (k := 15) (v := ((μ.1 15) + (nI 1))) dMo_segments_26 zp_Mo_segments_73 (Nat.le_of_ble_eq_true rfl) mz_15 rfl rfl kk) H0 H hM hm hu
theorem sMo_segments_29 {G : zG} {d : Nat} {ad : Nat → Nat} {μ : zMm} {P : Option Value → zMm → Prop} {st : List Value} {aa1 : Nat} {x2 : Int32} {P2 : Int32 → zMm → Prop} (hd : 1 ≤ d) (hl : st.length ≤ 4) (hc : mC G (d - 1) ad M_Mo_oneSegment [(.ref (ad 50)), (.ref aa1), (.int x2)] μ (mPi P2)) (kk : ∀ (r : Int32) (μ1 : zMm), P2 r μ1 → mW G d ad M_Mo_segments 35 [some (.ref (ad 50)), some (.ref aa1), some (.int x2)] ((.int r) :: st) μ1 P) : mW G d ad M_Mo_segments 29 [some (.ref (ad 50)), some (.ref aa1), some (.int x2)] st μ P :=
  fun H0 H hM hm hu => zw_aload_n (i := 0) dMo_segments_29 rfl rfl zRf_ref <| zw_aload_n (i := 1) dMo_segments_30 rfl rfl zRf_ref <| zw_iload_n (i := 2) dMo_segments_31 rfl rfl <| zw_callV [(.ref aa1), (.int x2)] _ dMo_segments_32 hd zk_Mo_76 hM.is rfl rfl hl (hc H hM) (mPi_k kk hm hu)
theorem sMo_segments_35 {G : zG} {d : Nat} {ad : Nat → Nat} {μ : zMm} {P : Option Value → zMm → Prop} {st : List Value} {o0 : Option Value} {o1 : Option Value} {o2 : Option Value} {xs0 : Int32} (kt : (¬ xs0 = 0) → mW G d ad M_Mo_segments 0 [o0, o1, o2] st μ P) (kf : (xs0 = 0) → mW G d ad M_Mo_segments 38 [o0, o1, o2] st μ P) : mW G d ad M_Mo_segments 35 [o0, o1, o2] ((.int xs0) :: st) μ P :=
  fun H0 H hM hm hu => zw_if_ne 0 dMo_segments_35 (by decide) (fun h => kt h H0 H hM hm hu) (fun h => kf h H0 H hM hm hu)
theorem sMo_segments_38 {G : zG} {d : Nat} {ad : Nat → Nat} {μ : zMm} {P : Option Value → zMm → Prop} {o0 : Option Value} {o1 : Option Value} {o2 : Option Value} (hn : narrow .boolean (.int (nI 0)) = .int (nI 0)) (hq : P (some (.int (nI 0))) μ) : mW G d ad M_Mo_segments 38 [o0, o1, o2] [] μ P :=
  fun H0 H hM hm hu => zw_iconst (nI 0) dMo_segments_38 zki_0 <| zw_iret dMo_segments_39 .boolean rfl hn ⟨μ, hq, hM, hm, hu⟩
theorem sMo_segments_40 {G : zG} {d : Nat} {ad : Nat → Nat} {μ : zMm} {P : Option Value → zMm → Prop} {o0 : Option Value} {o1 : Option Value} {o2 : Option Value} (hn : narrow .boolean (.int (nI 1)) = .int (nI 1)) (hq : P (some (.int (nI 1))) μ) : mW G d ad M_Mo_segments 40 [o0, o1, o2] [] μ P :=
  fun H0 H hM hm hu => zw_iconst (nI 1) dMo_segments_40 zki_1 <| zw_iret dMo_segments_41 .boolean rfl hn ⟨μ, hq, hM, hm, hu⟩
theorem sMo_oneSegment_0 {G : zG} {d : Nat} {ad : Nat → Nat} {μ : zMm} {P : Option Value → zMm → Prop} {st : List Value} {o1 : Option Value} {o2 : Option Value} {o3 : Option Value} (kk : mW G d ad M_Mo_oneSegment 5 [some (.ref (ad 50)), o1, o2, some (.int (μ.1 15))] st μ P) : mW G d ad M_Mo_oneSegment 0 [some (.ref (ad 50)), o1, o2, o3] st μ P :=
  fun H0 H hM hm hu => zw_aload_n (i := 0) dMo_oneSegment_0 rfl rfl zRf_ref <| zw_getf dMo_oneSegment_1 zf_Mo_73 (hM.fi 15 (Nat.le_of_ble_eq_true rfl) mz_15) <| zw_istore_n (i := 3) dMo_oneSegment_4 rfl (Nat.le_of_ble_eq_true rfl) <| kk H0 H hM hm hu
theorem sMo_oneSegment_5 {G : zG} {d : Nat} {ad : Nat → Nat} {μ : zMm} {P : Option Value → zMm → Prop} {st : List Value} {o0 : Option Value} {o1 : Option Value} {x3 : Int32} {x2 : Int32} (kt : (x2 ≤ x3) → mW G d ad M_Mo_oneSegment 25 [o0, o1, some (.int x2), some (.int x3)] st μ P) (kf : (¬ x2 ≤ x3) → mW G d ad M_Mo_oneSegment 10 [o0, o1, some (.int x2), some (.int x3)] st μ P) : mW G d ad M_Mo_oneSegment 5 [o0, o1, some (.int x2), some (.int x3)] st μ P :=
  fun H0 H hM hm hu => zw_iload_n (i := 3) dMo_oneSegment_5 rfl rfl <| zw_iload_n (i := 2) dMo_oneSegment_6 rfl rfl <| zw_icmp_ge 25 dMo_oneSegment_7 (by decide) (fun h => kt h H0 H hM hm hu) (fun h => kf h H0 H hM hm hu)
theorem sMo_oneSegment_10 {G : zG} {d : Nat} {ad : Nat → Nat} {μ : zMm} {P : Option Value → zMm → Prop} {st : List Value} {o0 : Option Value} {o2 : Option Value} {k1 : Nat} {x3 : Int32} {i1 : Nat} {P2 : Int32 → zMm → Prop} (hkk1 : mB k1) (hx1 : x3 = nI i1) (hi1 : i1 < mLn k1) (hd : 1 ≤ d) (hl : st.length ≤ 4) (hc : mC G (d - 1) ad M_Mo_isSegment [(.int (μ.2 k1 i1))] μ (mPi P2)) (kk : ∀ (r : Int32) (μ1 : zMm), P2 r μ1 → mW G d ad M_Mo_oneSegment 16 [o0, some (.ref (ad k1)), o2, some (.int x3)] ((.int r) :: st) μ1 P) : mW G d ad M_Mo_oneSegment 10 [o0, some (.ref (ad k1)), o2, some (.int x3)] st μ P :=
  fun H0 H hM hm hu => zw_aload_n (i := 1) dMo_oneSegment_10 rfl rfl zRf_ref <| zw_iload_n (i := 3) dMo_oneSegment_11 rfl rfl <| zw_baldN (g := μ.2 k1) dMo_oneSegment_12 (hM.ab hkk1) hx1 hi1 (mLn_le _) <| zw_callS [(.int (μ.2 k1 i1))] _ dMo_oneSegment_13 hd zk_Mo_54 rfl rfl hl (hc H hM) (mPi_k kk hm hu)
theorem sMo_oneSegment_16 {G : zG} {d : Nat} {ad : Nat → Nat} {μ : zMm} {P : Option Value → zMm → Prop} {st : List Value} {o0 : Option Value} {o1 : Option Value} {o2 : Option Value} {o3 : Option Value} {xs0 : Int32} (kt : (xs0 = 0) → mW G d ad M_Mo_oneSegment 25 [o0, o1, o2, o3] st μ P) (kf : (¬ xs0 = 0) → mW G d ad M_Mo_oneSegment 19 [o0, o1, o2, o3] st μ P) : mW G d ad M_Mo_oneSegment 16 [o0, o1, o2, o3] ((.int xs0) :: st) μ P :=
  fun H0 H hM hm hu => zw_if_eq 25 dMo_oneSegment_16 (by decide) (fun h => kt h H0 H hM hm hu) (fun h => kf h H0 H hM hm hu)
theorem sMo_oneSegment_19 {G : zG} {d : Nat} {ad : Nat → Nat} {μ : zMm} {P : Option Value → zMm → Prop} {st : List Value} {o0 : Option Value} {o1 : Option Value} {o2 : Option Value} {x3 : Int32} (kk : mW G d ad M_Mo_oneSegment 5 [o0, o1, o2, some (.int (x3 + (nI 1)))] st μ P) : mW G d ad M_Mo_oneSegment 19 [o0, o1, o2, some (.int x3)] st μ P :=
  fun H0 H hM hm hu => zw_iinc (i := 3) (x3 + (nI 1)) dMo_oneSegment_19 rfl (congrArg (fun z => x3 + z) zki_1) <| zw_goto 5 dMo_oneSegment_22 (by decide) <| kk H0 H hM hm hu
theorem sMo_oneSegment_25 {G : zG} {d : Nat} {ad : Nat → Nat} {μ : zMm} {P : Option Value → zMm → Prop} {st : List Value} {o1 : Option Value} {o2 : Option Value} {x3 : Int32} (kt : ((x3 - (μ.1 15)) ≤ (nI 12)) → mW G d ad M_Mo_oneSegment 38 [some (.ref (ad 50)), o1, o2, some (.int x3)] st μ P) (kf : (¬ (x3 - (μ.1 15)) ≤ (nI 12)) → mW G d ad M_Mo_oneSegment 36 [some (.ref (ad 50)), o1, o2, some (.int x3)] st μ P) : mW G d ad M_Mo_oneSegment 25 [some (.ref (ad 50)), o1, o2, some (.int x3)] st μ P :=
  fun H0 H hM hm hu => zw_iload_n (i := 3) dMo_oneSegment_25 rfl rfl <| zw_aload_n (i := 0) dMo_oneSegment_26 rfl rfl zRf_ref <| zw_getf dMo_oneSegment_27 zf_Mo_73 (hM.fi 15 (Nat.le_of_ble_eq_true rfl) mz_15) <| zw_isub dMo_oneSegment_30 <| zw_bipush (nI 12) dMo_oneSegment_31 zkb_12 <| zw_icmp_le 38 dMo_oneSegment_33 (by decide) (fun h => kt h H0 H hM hm hu) (fun h => kf h H0 H hM hm hu)
theorem sMo_oneSegment_36 {G : zG} {d : Nat} {ad : Nat → Nat} {μ : zMm} {P : Option Value → zMm → Prop} {o0 : Option Value} {o1 : Option Value} {o2 : Option Value} {o3 : Option Value} (hn : narrow .boolean (.int (nI 0)) = .int (nI 0)) (hq : P (some (.int (nI 0))) μ) : mW G d ad M_Mo_oneSegment 36 [o0, o1, o2, o3] [] μ P :=
  fun H0 H hM hm hu => zw_iconst (nI 0) dMo_oneSegment_36 zki_0 <| zw_iret dMo_oneSegment_37 .boolean rfl hn ⟨μ, hq, hM, hm, hu⟩
theorem sMo_oneSegment_38 {G : zG} {d : Nat} {ad : Nat → Nat} {μ : zMm} {P : Option Value → zMm → Prop} {st : List Value} {o2 : Option Value} {aa1 : Nat} {x3 : Int32} {P2 : zMm → Prop} (hd : 1 ≤ d) (hl : st.length ≤ 4) (hc : mC G (d - 1) ad M_Mo_segment [(.ref (ad 50)), (.ref aa1), (.int (μ.1 15)), (.int (x3 - (μ.1 15)))] μ (mPv P2)) (kk : ∀ μ1 : zMm, P2 μ1 → mW G d ad M_Mo_oneSegment 53 [some (.ref (ad 50)), some (.ref aa1), o2, some (.int x3)] st μ1 P) : mW G d ad M_Mo_oneSegment 38 [some (.ref (ad 50)), some (.ref aa1), o2, some (.int x3)] st μ P :=
  fun H0 H hM hm hu => zw_aload_n (i := 0) dMo_oneSegment_38 rfl rfl zRf_ref <| zw_aload_n (i := 1) dMo_oneSegment_39 rfl rfl zRf_ref <| zw_aload_n (i := 0) dMo_oneSegment_40 rfl rfl zRf_ref <| zw_getf dMo_oneSegment_41 zf_Mo_73 (hM.fi 15 (Nat.le_of_ble_eq_true rfl) mz_15) <| zw_iload_n (i := 3) dMo_oneSegment_44 rfl rfl <| zw_aload_n (i := 0) dMo_oneSegment_45 rfl rfl zRf_ref <| zw_getf dMo_oneSegment_46 zf_Mo_73 (hM.fi 15 (Nat.le_of_ble_eq_true rfl) mz_15) <| zw_isub dMo_oneSegment_49 <| zw_callV [(.ref aa1), (.int (μ.1 15)), (.int (x3 - (μ.1 15)))] _ dMo_oneSegment_50 hd zk_Mo_80 hM.is rfl rfl hl (hc H hM) (mPv_k kk hm hu)
theorem sMo_oneSegment_53 {G : zG} {d : Nat} {ad : Nat → Nat} {μ : zMm} {P : Option Value → zMm → Prop} {st : List Value} {o1 : Option Value} {o2 : Option Value} {x3 : Int32} (kk : mW G d ad M_Mo_oneSegment 58 [some (.ref (ad 50)), o1, o2, some (.int x3)] st (upd μ.1 15 x3, μ.2) P) : mW G d ad M_Mo_oneSegment 53 [some (.ref (ad 50)), o1, o2, some (.int x3)] st μ P :=
  fun H0 H hM hm hu => zw_aload_n (i := 0) dMo_oneSegment_53 rfl rfl zRf_ref <| zw_iload_n (i := 3) dMo_oneSegment_54 rfl rfl <| (mw_puti (M := M_Mo_oneSegment) (pc := 55) (k := 15) (v := x3) dMo_oneSegment_55 zp_Mo_oneSegment_73 (Nat.le_of_ble_eq_true rfl) mz_15 rfl rfl kk) H0 H hM hm hu
theorem sMo_oneSegment_58 {G : zG} {d : Nat} {ad : Nat → Nat} {μ : zMm} {P : Option Value → zMm → Prop} {o0 : Option Value} {o1 : Option Value} {o2 : Option Value} {o3 : Option Value} (hn : narrow .boolean (.int (nI 1)) = .int (nI 1)) (hq : P (some (.int (nI 1))) μ) : mW G d ad M_Mo_oneSegment 58 [o0, o1, o2, o3] [] μ P :=
  fun H0 H hM hm hu => zw_iconst (nI 1) dMo_oneSegment_58 zki_1 <| zw_iret dMo_oneSegment_59 .boolean rfl hn ⟨μ, hq, hM, hm, hu⟩
theorem sMo_isSegment_0 {G : zG} {d : Nat} {ad : Nat → Nat} {μ : zMm} {P : Option Value → zMm → Prop} {st : List Value} {x0 : Int32} {P2 : Int32 → zMm → Prop} (hd : 1 ≤ d) (hl : st.length ≤ 4) (hc : mC G (d - 1) ad M_Mo_isSmall [(.int x0)] μ (mPi P2)) (kk : ∀ (r : Int32) (μ1 : zMm), P2 r μ1 → mW G d ad M_Mo_isSegment 4 [some (.int x0)] ((.int r) :: st) μ1 P) : mW G d ad M_Mo_isSegment 0 [some (.int x0)] st μ P :=
  fun H0 H hM hm hu => zw_iload_n (i := 0) dMo_isSegment_0 rfl rfl <| zw_callS [(.int x0)] _ dMo_isSegment_1 hd zk_Mo_27 rfl rfl hl (hc H hM) (mPi_k kk hm hu)
theorem sMo_isSegment_4 {G : zG} {d : Nat} {ad : Nat → Nat} {μ : zMm} {P : Option Value → zMm → Prop} {st : List Value} {o0 : Option Value} {xs0 : Int32} (kt : (¬ xs0 = 0) → mW G d ad M_Mo_isSegment 32 [o0] st μ P) (kf : (xs0 = 0) → mW G d ad M_Mo_isSegment 7 [o0] st μ P) : mW G d ad M_Mo_isSegment 4 [o0] ((.int xs0) :: st) μ P :=
  fun H0 H hM hm hu => zw_if_ne 32 dMo_isSegment_4 (by decide) (fun h => kt h H0 H hM hm hu) (fun h => kf h H0 H hM hm hu)
theorem sMo_isSegment_7 {G : zG} {d : Nat} {ad : Nat → Nat} {μ : zMm} {P : Option Value → zMm → Prop} {st : List Value} {x0 : Int32} {P2 : Int32 → zMm → Prop} (hd : 1 ≤ d) (hl : st.length ≤ 4) (hc : mC G (d - 1) ad M_Mo_isDigit [(.int x0)] μ (mPi P2)) (kk : ∀ (r : Int32) (μ1 : zMm), P2 r μ1 → mW G d ad M_Mo_isSegment 11 [some (.int x0)] ((.int r) :: st) μ1 P) : mW G d ad M_Mo_isSegment 7 [some (.int x0)] st μ P :=
  fun H0 H hM hm hu => zw_iload_n (i := 0) dMo_isSegment_7 rfl rfl <| zw_callS [(.int x0)] _ dMo_isSegment_8 hd zk_Mo_31 rfl rfl hl (hc H hM) (mPi_k kk hm hu)
theorem sMo_isSegment_11 {G : zG} {d : Nat} {ad : Nat → Nat} {μ : zMm} {P : Option Value → zMm → Prop} {st : List Value} {o0 : Option Value} {xs0 : Int32} (kt : (¬ xs0 = 0) → mW G d ad M_Mo_isSegment 32 [o0] st μ P) (kf : (xs0 = 0) → mW G d ad M_Mo_isSegment 14 [o0] st μ P) : mW G d ad M_Mo_isSegment 11 [o0] ((.int xs0) :: st) μ P :=
  fun H0 H hM hm hu => zw_if_ne 32 dMo_isSegment_11 (by decide) (fun h => kt h H0 H hM hm hu) (fun h => kf h H0 H hM hm hu)
theorem sMo_isSegment_14 {G : zG} {d : Nat} {ad : Nat → Nat} {μ : zMm} {P : Option Value → zMm → Prop} {st : List Value} {x0 : Int32} (kt : (x0 = (nI 46)) → mW G d ad M_Mo_isSegment 32 [some (.int x0)] st μ P) (kf : (¬ x0 = (nI 46)) → mW G d ad M_Mo_isSegment 20 [some (.int x0)] st μ P) : mW G d ad M_Mo_isSegment 14 [some (.int x0)] st μ P :=
  fun H0 H hM hm hu => zw_iload_n (i := 0) dMo_isSegment_14 rfl rfl <| zw_bipush (nI 46) dMo_isSegment_15 zkb_46 <| zw_icmp_eq 32 dMo_isSegment_17 (by decide) (fun h => kt h H0 H hM hm hu) (fun h => kf h H0 H hM hm hu)
theorem sMo_isSegment_20 {G : zG} {d : Nat} {ad : Nat → Nat} {μ : zMm} {P : Option Value → zMm → Prop} {st : List Value} {x0 : Int32} (kt : (x0 = (nI 45)) → mW G d ad M_Mo_isSegment 32 [some (.int x0)] st μ P) (kf : (¬ x0 = (nI 45)) → mW G d ad M_Mo_isSegment 26 [some (.int x0)] st μ P) : mW G d ad M_Mo_isSegment 20 [some (.int x0)] st μ P :=
  fun H0 H hM hm hu => zw_iload_n (i := 0) dMo_isSegment_20 rfl rfl <| zw_bipush (nI 45) dMo_isSegment_21 zkb_45 <| zw_icmp_eq 32 dMo_isSegment_23 (by decide) (fun h => kt h H0 H hM hm hu) (fun h => kf h H0 H hM hm hu)
theorem sMo_isSegment_26 {G : zG} {d : Nat} {ad : Nat → Nat} {μ : zMm} {P : Option Value → zMm → Prop} {st : List Value} {x0 : Int32} (kt : (¬ x0 = (nI 95)) → mW G d ad M_Mo_isSegment 36 [some (.int x0)] st μ P) (kf : (x0 = (nI 95)) → mW G d ad M_Mo_isSegment 32 [some (.int x0)] st μ P) : mW G d ad M_Mo_isSegment 26 [some (.int x0)] st μ P :=
  fun H0 H hM hm hu => zw_iload_n (i := 0) dMo_isSegment_26 rfl rfl <| zw_bipush (nI 95) dMo_isSegment_27 zkb_95 <| zw_icmp_ne 36 dMo_isSegment_29 (by decide) (fun h => kt h H0 H hM hm hu) (fun h => kf h H0 H hM hm hu)
theorem sMo_isSegment_32 {G : zG} {d : Nat} {ad : Nat → Nat} {μ : zMm} {P : Option Value → zMm → Prop} {o0 : Option Value} (hn : narrow .boolean (.int (nI 1)) = .int (nI 1)) (hq : P (some (.int (nI 1))) μ) : mW G d ad M_Mo_isSegment 32 [o0] [] μ P :=
  fun H0 H hM hm hu => zw_iconst (nI 1) dMo_isSegment_32 zki_1 <| zw_goto 37 dMo_isSegment_33 (by decide) <| zw_iret dMo_isSegment_37 .boolean rfl hn ⟨μ, hq, hM, hm, hu⟩
theorem sMo_isSegment_36 {G : zG} {d : Nat} {ad : Nat → Nat} {μ : zMm} {P : Option Value → zMm → Prop} {o0 : Option Value} (hn : narrow .boolean (.int (nI 0)) = .int (nI 0)) (hq : P (some (.int (nI 0))) μ) : mW G d ad M_Mo_isSegment 36 [o0] [] μ P :=
  fun H0 H hM hm hu => zw_iconst (nI 0) dMo_isSegment_36 zki_0 <| zw_iret dMo_isSegment_37 .boolean rfl hn ⟨μ, hq, hM, hm, hu⟩
theorem sMo_isSegment_37 {G : zG} {d : Nat} {ad : Nat → Nat} {μ : zMm} {P : Option Value → zMm → Prop} {o0 : Option Value} {xs0 : Int32} (hn : narrow .boolean (.int xs0) = .int xs0) (hq : P (some (.int xs0)) μ) : mW G d ad M_Mo_isSegment 37 [o0] ((.int xs0) :: []) μ P :=
  fun H0 H hM hm hu => zw_iret dMo_isSegment_37 .boolean rfl hn ⟨μ, hq, hM, hm, hu⟩
theorem sMo_segment_0 {G : zG} {d : Nat} {ad : Nat → Nat} {μ : zMm} {P : Option Value → zMm → Prop} {st : List Value} {o1 : Option Value} {o2 : Option Value} {o4 : Option Value} {aa0 : Nat} {x3 : Int32} (kt : (¬ x3 = (nI 1)) → mW G d ad M_Mo_segment 14 [some (.ref aa0), o1, o2, some (.int x3), o4] ((.ref aa0) :: st) μ P) (kf : (x3 = (nI 1)) → mW G d ad M_Mo_segment 6 [some (.ref aa0), o1, o2, some (.int x3), o4] ((.ref aa0) :: st) μ P) : mW G d ad M_Mo_segment 0 [some (.ref aa0), o1, o2, some (.int x3), o4] st μ P :=
  fun H0 H hM hm hu => zw_aload_n (i := 0) dMo_segment_0 rfl rfl zRf_ref <| zw_iload_n (i := 3) dMo_segment_1 rfl rfl <| zw_iconst (nI 1) dMo_segment_2 zki_1 <| zw_icmp_ne 14 dMo_segment_3 (by decide) (fun h => kt h H0 H hM hm hu) (fun h => kf h H0 H hM hm hu)
theorem sMo_segment_6 {G : zG} {d : Nat} {ad : Nat → Nat} {μ : zMm} {P : Option Value → zMm → Prop} {st : List Value} {o0 : Option Value} {o3 : Option Value} {o4 : Option Value} {k1 : Nat} {x2 : Int32} {i1 : Nat} (hkk1 : mB k1) (hx1 : x2 = nI i1) (hi1 : i1 < mLn k1) (kt : ((μ.2 k1 i1) = (nI 46)) → mW G d ad M_Mo_segment 37 [o0, some (.ref (ad k1)), some (.int x2), o3, o4] st μ P) (kf : (¬ (μ.2 k1 i1) = (nI 46)) → mW G d ad M_Mo_segment 14 [o0, some (.ref (ad k1)), some (.int x2), o3, o4] st μ P) : mW G d ad M_Mo_segment 6 [o0, some (.ref (ad k1)), some (.int x2), o3, o4] st μ P :=
  fun H0 H hM hm hu => zw_aload_n (i := 1) dMo_segment_6 rfl rfl zRf_ref <| zw_iload_n (i := 2) dMo_segment_7 rfl rfl <| zw_baldN (g := μ.2 k1) dMo_segment_8 (hM.ab hkk1) hx1 hi1 (mLn_le _) <| zw_bipush (nI 46) dMo_segment_9 zkb_46 <| zw_icmp_eq 37 dMo_segment_11 (by decide) (fun h => kt h H0 H hM hm hu) (fun h => kf h H0 H hM hm hu)
theorem sMo_segment_14 {G : zG} {d : Nat} {ad : Nat → Nat} {μ : zMm} {P : Option Value → zMm → Prop} {st : List Value} {o0 : Option Value} {o1 : Option Value} {o2 : Option Value} {o4 : Option Value} {x3 : Int32} (kt : (¬ x3 = (nI 2)) → mW G d ad M_Mo_segment 41 [o0, o1, o2, some (.int x3), o4] st μ P) (kf : (x3 = (nI 2)) → mW G d ad M_Mo_segment 19 [o0, o1, o2, some (.int x3), o4] st μ P) : mW G d ad M_Mo_segment 14 [o0, o1, o2, some (.int x3), o4] st μ P :=
  fun H0 H hM hm hu => zw_iload_n (i := 3) dMo_segment_14 rfl rfl <| zw_iconst (nI 2) dMo_segment_15 zki_2 <| zw_icmp_ne 41 dMo_segment_16 (by decide) (fun h => kt h H0 H hM hm hu) (fun h => kf h H0 H hM hm hu)
theorem sMo_segment_19 {G : zG} {d : Nat} {ad : Nat → Nat} {μ : zMm} {P : Option Value → zMm → Prop} {st : List Value} {o0 : Option Value} {o3 : Option Value} {o4 : Option Value} {k1 : Nat} {x2 : Int32} {i1 : Nat} (hkk1 : mB k1) (hx1 : x2 = nI i1) (hi1 : i1 < mLn k1) (kt : (¬ (μ.2 k1 i1) = (nI 46)) → mW G d ad M_Mo_segment 41 [o0, some (.ref (ad k1)), some (.int x2), o3, o4] st μ P) (kf : ((μ.2 k1 i1) = (nI 46)) → mW G d ad M_Mo_segment 27 [o0, some (.ref (ad k1)), some (.int x2), o3, o4] st μ P) : mW G d ad M_Mo_segment 19 [o0, some (.ref (ad k1)), some (.int x2), o3, o4] st μ P :=
  fun H0 H hM hm hu => zw_aload_n (i := 1) dMo_segment_19 rfl rfl zRf_ref <| zw_iload_n (i := 2) dMo_segment_20 rfl rfl <| zw_baldN (g := μ.2 k1) dMo_segment_21 (hM.ab hkk1) hx1 hi1 (mLn_le _) <| zw_bipush (nI 46) dMo_segment_22 zkb_46 <| zw_icmp_ne 41 dMo_segment_24 (by decide) (fun h => kt h H0 H hM hm hu) (fun h => kf h H0 H hM hm hu)
theorem sMo_segment_27 {G : zG} {d : Nat} {ad : Nat → Nat} {μ : zMm} {P : Option Value → zMm → Prop} {st : List Value} {o0 : Option Value} {o3 : Option Value} {o4 : Option Value} {k1 : Nat} {x2 : Int32} {i1 : Nat} (hkk1 : mB k1) (hx1 : (x2 + (nI 1)) = nI i1) (hi1 : i1 < mLn k1) (kt : (¬ (μ.2 k1 i1) = (nI 46)) → mW G d ad M_Mo_segment 41 [o0, some (.ref (ad k1)), some (.int x2), o3, o4] st μ P) (kf : ((μ.2 k1 i1) = (nI 46)) → mW G d ad M_Mo_segment 37 [o0, some (.ref (ad k1)), some (.int x2), o3, o4] st μ P) : mW G d ad M_Mo_segment 27 [o0, some (.ref (ad k1)), some (.int x2), o3, o4] st μ P :=
  fun H0 H hM hm hu => zw_aload_n (i := 1) dMo_segment_27 rfl rfl zRf_ref <| zw_iload_n (i := 2) dMo_segment_28 rfl rfl <| zw_iconst (nI 1) dMo_segment_29 zki_1 <| zw_iadd dMo_segment_30 <| zw_baldN (g := μ.2 k1) dMo_segment_31 (hM.ab hkk1) hx1 hi1 (mLn_le _) <| zw_bipush (nI 46) dMo_segment_32 zkb_46 <| zw_icmp_ne 41 dMo_segment_34 (by decide) (fun h => kt h H0 H hM hm hu) (fun h => kf h H0 H hM hm hu)
theorem sMo_segment_37 {G : zG} {d : Nat} {ad : Nat → Nat} {μ : zMm} {P : Option Value → zMm → Prop} {st : List Value} {o0 : Option Value} {o1 : Option Value} {o2 : Option Value} {o3 : Option Value} {o4 : Option Value} (hn : narrow .boolean (.int (nI 1)) = .int (nI 1)) (hfit : fits .boolean (.int (nI 1)) = true) (kk : mW G d ad M_Mo_segment 45 [o0, o1, o2, o3, o4] st (upd μ.1 14 (nI 1), μ.2) P) : mW G d ad M_Mo_segment 37 [o0, o1, o2, o3, o4] ((.ref (ad 50)) :: st) μ P :=
  fun H0 H hM hm hu => zw_iconst (nI 1) dMo_segment_37 zki_1 <| zw_goto 42 dMo_segment_38 (by decide) <| (mw_puti (M := M_Mo_segment) (pc := 42) (k := 14) (v := (nI 1)) dMo_segment_42 zp_Mo_segment_57 (Nat.le_of_ble_eq_true rfl) mz_14 hn hfit kk) H0 H hM hm hu
theorem sMo_segment_41 {G : zG} {d : Nat} {ad : Nat → Nat} {μ : zMm} {P : Option Value → zMm → Prop} {st : List Value} {o0 : Option Value} {o1 : Option Value} {o2 : Option Value} {o3 : Option Value} {o4 : Option Value} (hn : narrow .boolean (.int (nI 0)) = .int (nI 0)) (hfit : fits .boolean (.int (nI 0)) = true) (kk : mW G d ad M_Mo_segment 45 [o0, o1, o2, o3, o4] st (upd μ.1 14 (nI 0), μ.2) P) : mW G d ad M_Mo_segment 41 [o0, o1, o2, o3, o4] ((.ref (ad 50)) :: st) μ P :=
  fun H0 H hM hm hu => zw_iconst (nI 0) dMo_segment_41 zki_0 <| (mw_puti (M := M_Mo_segment) (pc := 42) (k := 14) (v := (nI 0)) dMo_segment_42 zp_Mo_segment_57 (Nat.le_of_ble_eq_true rfl) mz_14 hn hfit kk) H0 H hM hm hu
theorem sMo_segment_42 {G : zG} {d : Nat} {ad : Nat → Nat} {μ : zMm} {P : Option Value → zMm → Prop} {st : List Value} {o0 : Option Value} {o1 : Option Value} {o2 : Option Value} {o3 : Option Value} {o4 : Option Value} {xs0 : Int32} (hn : narrow .boolean (.int xs0) = .int xs0) (hfit : fits .boolean (.int xs0) = true) (kk : mW G d ad M_Mo_segment 45 [o0, o1, o2, o3, o4] st (upd μ.1 14 xs0, μ.2) P) : mW G d ad M_Mo_segment 42 [o0, o1, o2, o3, o4] ((.int xs0) :: (.ref (ad 50)) :: st) μ P :=
  fun H0 H hM hm hu => (mw_puti (M := M_Mo_segment) (pc := 42) (k := 14) (v := xs0) dMo_segment_42 zp_Mo_segment_57 (Nat.le_of_ble_eq_true rfl) mz_14 hn hfit kk) H0 H hM hm hu
theorem sMo_segment_45 {G : zG} {d : Nat} {ad : Nat → Nat} {μ : zMm} {P : Option Value → zMm → Prop} {st : List Value} {o0 : Option Value} {o1 : Option Value} {o2 : Option Value} {o4 : Option Value} {x3 : Int32} (kt : (¬ x3 = (nI 2)) → mW G d ad M_Mo_segment 74 [o0, o1, o2, some (.int x3), o4] st μ P) (kf : (x3 = (nI 2)) → mW G d ad M_Mo_segment 50 [o0, o1, o2, some (.int x3), o4] st μ P) : mW G d ad M_Mo_segment 45 [o0, o1, o2, some (.int x3), o4] st μ P :=
  fun H0 H hM hm hu => zw_iload_n (i := 3) dMo_segment_45 rfl rfl <| zw_iconst (nI 2) dMo_segment_46 zki_2 <| zw_icmp_ne 74 dMo_segment_47 (by decide) (fun h => kt h H0 H hM hm hu) (fun h => kf h H0 H hM hm hu)
theorem sMo_segment_50 {G : zG} {d : Nat} {ad : Nat → Nat} {μ : zMm} {P : Option Value → zMm → Prop} {st : List Value} {o1 : Option Value} {o2 : Option Value} {o3 : Option Value} {o4 : Option Value} (kt : ((μ.1 14) = 0) → mW G d ad M_Mo_segment 74 [some (.ref (ad 50)), o1, o2, o3, o4] st μ P) (kf : (¬ (μ.1 14) = 0) → mW G d ad M_Mo_segment 57 [some (.ref (ad 50)), o1, o2, o3, o4] st μ P) : mW G d ad M_Mo_segment 50 [some (.ref (ad 50)), o1, o2, o3, o4] st μ P :=
  fun H0 H hM hm hu => zw_aload_n (i := 0) dMo_segment_50 rfl rfl zRf_ref <| zw_getf dMo_segment_51 zf_Mo_57 (hM.fi 14 (Nat.le_of_ble_eq_true rfl) mz_14) <| zw_if_eq 74 dMo_segment_54 (by decide) (fun h => kt h H0 H hM hm hu) (fun h => kf h H0 H hM hm hu)
theorem sMo_segment_57 {G : zG} {d : Nat} {ad : Nat → Nat} {μ : zMm} {P : Option Value → zMm → Prop} {st : List Value} {o1 : Option Value} {o2 : Option Value} {o3 : Option Value} {o4 : Option Value} (kt : ((μ.1 12) ≤ 0) → mW G d ad M_Mo_segment 74 [some (.ref (ad 50)), o1, o2, o3, o4] st μ P) (kf : (¬ (μ.1 12) ≤ 0) → mW G d ad M_Mo_segment 64 [some (.ref (ad 50)), o1, o2, o3, o4] st μ P) : mW G d ad M_Mo_segment 57 [some (.ref (ad 50)), o1, o2, o3, o4] st μ P :=
  fun H0 H hM hm hu => zw_aload_n (i := 0) dMo_segment_57 rfl rfl zRf_ref <| zw_getf dMo_segment_58 zf_Mo_61 (hM.fi 12 (Nat.le_of_ble_eq_true rfl) mz_12) <| zw_if_le 74 dMo_segment_61 (by decide) (fun h => kt h H0 H hM hm hu) (fun h => kf h H0 H hM hm hu)
theorem sMo_segment_64 {G : zG} {d : Nat} {ad : Nat → Nat} {μ : zMm} {P : Option Value → zMm → Prop} {st : List Value} {o1 : Option Value} {o2 : Option Value} {o3 : Option Value} {o4 : Option Value} (kk : mW G d ad M_Mo_segment 74 [some (.ref (ad 50)), o1, o2, o3, o4] st (upd μ.1 12 ((μ.1 12) - (nI 1)), μ.2) P) : mW G d ad M_Mo_segment 64 [some (.ref (ad 50)), o1, o2, o3, o4] st μ P :=
  fun H0 H hM hm hu => zw_aload_n (i := 0) dMo_segment_64 rfl rfl zRf_ref <| zw_dup dMo_segment_65 rfl <| zw_getf dMo_segment_66 zf_Mo_61 (hM.fi 12 (Nat.le_of_ble_eq_true rfl) mz_12) <| zw_iconst (nI 1) dMo_segment_69 zki_1 <| zw_isub dMo_segment_70 <| (mw_puti (M := M_Mo_segment) (pc := 71) (k := 12) (v := ((μ.1 12) - (nI 1))) dMo_segment_71 zp_Mo_segment_61 (Nat.le_of_ble_eq_true rfl) mz_12 rfl rfl kk) H0 H hM hm hu
theorem sMo_segment_74 {G : zG} {d : Nat} {ad : Nat → Nat} {μ : zMm} {P : Option Value → zMm → Prop} {st : List Value} {o1 : Option Value} {o2 : Option Value} {o3 : Option Value} {o4 : Option Value} (kt : ((μ.1 14) = 0) → mW G d ad M_Mo_segment 82 [some (.ref (ad 50)), o1, o2, o3, o4] st μ P) (kf : (¬ (μ.1 14) = 0) → mW G d ad M_Mo_segment 81 [some (.ref (ad 50)), o1, o2, o3, o4] st μ P) : mW G d ad M_Mo_segment 74 [some (.ref (ad 50)), o1, o2, o3, o4] st μ P :=
  fun H0 H hM hm hu => zw_aload_n (i := 0) dMo_segment_74 rfl rfl zRf_ref <| zw_getf dMo_segment_75 zf_Mo_57 (hM.fi 14 (Nat.le_of_ble_eq_true rfl) mz_14) <| zw_if_eq 82 dMo_segment_78 (by decide) (fun h => kt h H0 H hM hm hu) (fun h => kf h H0 H hM hm hu)
theorem sMo_segment_81 {G : zG} {d : Nat} {ad : Nat → Nat} {μ : zMm} {P : Option Value → zMm → Prop} {o0 : Option Value} {o1 : Option Value} {o2 : Option Value} {o3 : Option Value} {o4 : Option Value} (hq : P none μ) : mW G d ad M_Mo_segment 81 [o0, o1, o2, o3, o4] [] μ P :=
  fun H0 H hM hm hu => zw_vret dMo_segment_81 rfl ⟨μ, hq, hM, hm, hu⟩
theorem sMo_segment_82 {G : zG} {d : Nat} {ad : Nat → Nat} {μ : zMm} {P : Option Value → zMm → Prop} {st : List Value} {o1 : Option Value} {o2 : Option Value} {o3 : Option Value} {o4 : Option Value} (kt : (¬ (μ.1 12) = 0) → mW G d ad M_Mo_segment 101 [some (.ref (ad 50)), o1, o2, o3, o4] ((.int (μ.1 12)) :: (.ref (ad 10)) :: st) μ P) (kf : ((μ.1 12) = 0) → mW G d ad M_Mo_segment 97 [some (.ref (ad 50)), o1, o2, o3, o4] ((.int (μ.1 12)) :: (.ref (ad 10)) :: st) μ P) : mW G d ad M_Mo_segment 82 [some (.ref (ad 50)), o1, o2, o3, o4] st μ P :=
  fun H0 H hM hm hu => zw_aload_n (i := 0) dMo_segment_82 rfl rfl zRf_ref <| zw_getf dMo_segment_83 zf_Mo_64 (hM.fa 10 (Nat.le_of_ble_eq_true rfl) mn_10) <| zw_aload_n (i := 0) dMo_segment_86 rfl rfl zRf_ref <| zw_getf dMo_segment_87 zf_Mo_61 (hM.fi 12 (Nat.le_of_ble_eq_true rfl) mz_12) <| zw_aload_n (i := 0) dMo_segment_90 rfl rfl zRf_ref <| zw_getf dMo_segment_91 zf_Mo_61 (hM.fi 12 (Nat.le_of_ble_eq_true rfl) mz_12) <| zw_if_ne 101 dMo_segment_94 (by decide) (fun h => kt h H0 H hM hm hu) (fun h => kf h H0 H hM hm hu)
theorem sMo_segment_97 {G : zG} {d : Nat} {ad : Nat → Nat} {μ : zMm} {P : Option Value → zMm → Prop} {st : List Value} {o0 : Option Value} {o1 : Option Value} {o2 : Option Value} {o3 : Option Value} {o4 : Option Value} {xs0 : Int32} {ks1 : Nat} {i : Nat} (hkks1 : mI ks1) (hx : xs0 = nI i) (hi : i < mLn ks1) (kk : mW G d ad M_Mo_segment 125 [o0, o1, o2, o3, o4] st (μ.1, updA μ.2 ks1 i (nI 0)) P) : mW G d ad M_Mo_segment 97 [o0, o1, o2, o3, o4] ((.int xs0) :: (.ref (ad ks1)) :: st) μ P :=
  fun H0 H hM hm hu => zw_iconst (nI 0) dMo_segment_97 zki_0 <| zw_goto 124 dMo_segment_98 (by decide) <| (mw_iast (M := M_Mo_segment) (pc := 124) (k := ks1) dMo_segment_124 hkks1 hx hi kk) H0 H hM hm hu
theorem sMo_segment_101 {G : zG} {d : Nat} {ad : Nat → Nat} {μ : zMm} {P : Option Value → zMm → Prop} {st : List Value} {o1 : Option Value} {o2 : Option Value} {o3 : Option Value} {o4 : Option Value} {xs0 : Int32} {ks1 : Nat} {i1 : Nat} {i2 : Nat} {i : Nat} (hx1 : ((μ.1 12) - (nI 1)) = nI i1) (hi1 : i1 < mLn 10) (hx2 : ((μ.1 12) - (nI 1)) = nI i2) (hi2 : i2 < mLn 11) (hkks1 : mI ks1) (hx : xs0 = nI i) (hi : i < mLn ks1) (kk : mW G d ad M_Mo_segment 125 [some (.ref (ad 50)), o1, o2, o3, o4] st (μ.1, updA μ.2 ks1 i ((μ.2 10 i1) + (μ.2 11 i2))) P) : mW G d ad M_Mo_segment 101 [some (.ref (ad 50)), o1, o2, o3, o4] ((.int xs0) :: (.ref (ad ks1)) :: st) μ P :=
  fun H0 H hM hm hu => zw_aload_n (i := 0) dMo_segment_101 rfl rfl zRf_ref <| zw_getf dMo_segment_102 zf_Mo_64 (hM.fa 10 (Nat.le_of_ble_eq_true rfl) mn_10) <| zw_aload_n (i := 0) dMo_segment_105 rfl rfl zRf_ref <| zw_getf dMo_segment_106 zf_Mo_61 (hM.fi 12 (Nat.le_of_ble_eq_true rfl) mz_12) <| zw_iconst (nI 1) dMo_segment_109 zki_1 <| zw_isub dMo_segment_110 <| zw_ialdN (g := μ.2 10) dMo_segment_111 (hM.ai mk_10) hx1 hi1 (mLn_le _) <| zw_aload_n (i := 0) dMo_segment_112 rfl rfl zRf_ref <| zw_getf dMo_segment_113 zf_Mo_67 (hM.fa 11 (Nat.le_of_ble_eq_true rfl) mn_11) <| zw_aload_n (i := 0) dMo_segment_116 rfl rfl zRf_ref <| zw_getf dMo_segment_117 zf_Mo_61 (hM.fi 12 (Nat.le_of_ble_eq_true rfl) mz_12) <| zw_iconst (nI 1) dMo_segment_120 zki_1 <| zw_isub dMo_segment_121 <| zw_ialdN (g := μ.2 11) dMo_segment_122 (hM.ai mk_11) hx2 hi2 (mLn_le _) <| zw_iadd dMo_segment_123 <| (mw_iast (M := M_Mo_segment) (pc := 124) (k := ks1) dMo_segment_124 hkks1 hx hi kk) H0 H hM hm hu
theorem sMo_segment_124 {G : zG} {d : Nat} {ad : Nat → Nat} {μ : zMm} {P : Option Value → zMm → Prop} {st : List Value} {o0 : Option Value} {o1 : Option Value} {o2 : Option Value} {o3 : Option Value} {o4 : Option Value} {xs0 : Int32} {xs1 : Int32} {ks2 : Nat} {i : Nat} (hkks2 : mI ks2) (hx : xs1 = nI i) (hi : i < mLn ks2) (kk : mW G d ad M_Mo_segment 125 [o0, o1, o2, o3, o4] st (μ.1, updA μ.2 ks2 i xs0) P) : mW G d ad M_Mo_segment 124 [o0, o1, o2, o3, o4] ((.int xs0) :: (.int xs1) :: (.ref (ad ks2)) :: st) μ P :=
  fun H0 H hM hm hu => (mw_iast (M := M_Mo_segment) (pc := 124) (k := ks2) dMo_segment_124 hkks2 hx hi kk) H0 H hM hm hu
theorem sMo_segment_125 {G : zG} {d : Nat} {ad : Nat → Nat} {μ : zMm} {P : Option Value → zMm → Prop} {st : List Value} {o1 : Option Value} {o2 : Option Value} {o4 : Option Value} {x3 : Int32} {i : Nat} (hx : (μ.1 12) = nI i) (hi : i < mLn 11) (kk : mW G d ad M_Mo_segment 135 [some (.ref (ad 50)), o1, o2, some (.int x3), o4] st (μ.1, updA μ.2 11 i x3) P) : mW G d ad M_Mo_segment 125 [some (.ref (ad 50)), o1, o2, some (.int x3), o4] st μ P :=
  fun H0 H hM hm hu => zw_aload_n (i := 0) dMo_segment_125 rfl rfl zRf_ref <| zw_getf dMo_segment_126 zf_Mo_67 (hM.fa 11 (Nat.le_of_ble_eq_true rfl) mn_11) <| zw_aload_n (i := 0) dMo_segment_129 rfl rfl zRf_ref <| zw_getf dMo_segment_130 zf_Mo_61 (hM.fi 12 (Nat.le_of_ble_eq_true rfl) mz_12) <| zw_iload_n (i := 3) dMo_segment_133 rfl rfl <| (mw_iast (M := M_Mo_segment) (pc := 134) (k := 11) dMo_segment_134 mk_11 hx hi kk) H0 H hM hm hu
theorem sMo_segment_135 {G : zG} {d : Nat} {ad : Nat → Nat} {μ : zMm} {P : Option Value → zMm → Prop} {st : List Value} {o0 : Option Value} {o1 : Option Value} {o2 : Option Value} {o3 : Option Value} {o4 : Option Value} (kk : mW G d ad M_Mo_segment 138 [o0, o1, o2, o3, some (.int (nI 0))] st μ P) : mW G d ad M_Mo_segment 135 [o0, o1, o2, o3, o4] st μ P :=
  fun H0 H hM hm hu => zw_iconst (nI 0) dMo_segment_135 zki_0 <| zw_istore (i := 4) dMo_segment_136 (Nat.le_of_ble_eq_true rfl) <| kk H0 H hM hm hu
theorem sMo_segment_138 {G : zG} {d : Nat} {ad : Nat → Nat} {μ : zMm} {P : Option Value → zMm → Prop} {st : List Value} {o0 : Option Value} {o1 : Option Value} {o2 : Option Value} {x4 : Int32} {x3 : Int32} (kt : (x3 ≤ x4) → mW G d ad M_Mo_segment 173 [o0, o1, o2, some (.int x3), some (.int x4)] st μ P) (kf : (¬ x3 ≤ x4) → mW G d ad M_Mo_segment 144 [o0, o1, o2, some (.int x3), some (.int x4)] st μ P) : mW G d ad M_Mo_segment 138 [o0, o1, o2, some (.int x3), some (.int x4)] st μ P :=
  fun H0 H hM hm hu => zw_iload (i := 4) dMo_segment_138 rfl <| zw_iload_n (i := 3) dMo_segment_140 rfl rfl <| zw_icmp_ge 173 dMo_segment_141 (by decide) (fun h => kt h H0 H hM hm hu) (fun h => kf h H0 H hM hm hu)
theorem sMo_segment_144 {G : zG} {d : Nat} {ad : Nat → Nat} {μ : zMm} {P : Option Value → zMm → Prop} {st : List Value} {o3 : Option Value} {x4 : Int32} {k1 : Nat} {x2 : Int32} {i1 : Nat} {i2 : Nat} {i : Nat} (hx1 : (μ.1 12) = nI i1) (hi1 : i1 < mLn 10) (hkk1 : mB k1) (hx2 : (x2 + x4) = nI i2) (hi2 : i2 < mLn k1) (hx : ((μ.2 10 i1) + x4) = nI i) (hi : i < mLn 9) (kk : mW G d ad M_Mo_segment 167 [some (.ref (ad 50)), some (.ref (ad k1)), some (.int x2), o3, some (.int x4)] st (μ.1, updA μ.2 9 i ((μ.2 k1 i2)).toInt8.toInt32) P) : mW G d ad M_Mo_segment 144 [some (.ref (ad 50)), some (.ref (ad k1)), some (.int x2), o3, some (.int x4)] st μ P :=
  fun H0 H hM hm hu => zw_aload_n (i := 0) dMo_segment_144 rfl rfl zRf_ref <| zw_getf dMo_segment_145 zf_Mo_70 (hM.fa 9 (Nat.le_of_ble_eq_true rfl) mn_9) <| zw_aload_n (i := 0) dMo_segment_148 rfl rfl zRf_ref <| zw_getf dMo_segment_149 zf_Mo_64 (hM.fa 10 (Nat.le_of_ble_eq_true rfl) mn_10) <| zw_aload_n (i := 0) dMo_segment_152 rfl rfl zRf_ref <| zw_getf dMo_segment_153 zf_Mo_61 (hM.fi 12 (Nat.le_of_ble_eq_true rfl) mz_12) <| zw_ialdN (g := μ.2 10) dMo_segment_156 (hM.ai mk_10) hx1 hi1 (mLn_le _) <| zw_iload (i := 4) dMo_segment_157 rfl <| zw_iadd dMo_segment_159 <| zw_aload_n (i := 1) dMo_segment_160 rfl rfl zRf_ref <| zw_iload_n (i := 2) dMo_segment_161 rfl rfl <| zw_iload (i := 4) dMo_segment_162 rfl <| zw_iadd dMo_segment_164 <| zw_baldN (g := μ.2 k1) dMo_segment_165 (hM.ab hkk1) hx2 hi2 (mLn_le _) <| (mw_bast (M := M_Mo_segment) (pc := 166) (k := 9) dMo_segment_166 mk_9 hx hi kk) H0 H hM hm hu
theorem sMo_segment_167 {G : zG} {d : Nat} {ad : Nat → Nat} {μ : zMm} {P : Option Value → zMm → Prop} {st : List Value} {o0 : Option Value} {o1 : Option Value} {o2 : Option Value} {o3 : Option Value} {x4 : Int32} (kk : mW G d ad M_Mo_segment 138 [o0, o1, o2, o3, some (.int (x4 + (nI 1)))] st μ P) : mW G d ad M_Mo_segment 167 [o0, o1, o2, o3, some (.int x4)] st μ P :=
  fun H0 H hM hm hu => zw_iinc (i := 4) (x4 + (nI 1)) dMo_segment_167 rfl (congrArg (fun z => x4 + z) zki_1) <| zw_goto 138 dMo_segment_170 (by decide) <| kk H0 H hM hm hu
theorem sMo_segment_173 {G : zG} {d : Nat} {ad : Nat → Nat} {μ : zMm} {P : Option Value → zMm → Prop} {st : List Value} {o1 : Option Value} {o2 : Option Value} {o3 : Option Value} {o4 : Option Value} (kk : mW G d ad M_Mo_segment 183 [some (.ref (ad 50)), o1, o2, o3, o4] st (upd μ.1 12 ((μ.1 12) + (nI 1)), μ.2) P) : mW G d ad M_Mo_segment 173 [some (.ref (ad 50)), o1, o2, o3, o4] st μ P :=
  fun H0 H hM hm hu => zw_aload_n (i := 0) dMo_segment_173 rfl rfl zRf_ref <| zw_dup dMo_segment_174 rfl <| zw_getf dMo_segment_175 zf_Mo_61 (hM.fi 12 (Nat.le_of_ble_eq_true rfl) mz_12) <| zw_iconst (nI 1) dMo_segment_178 zki_1 <| zw_iadd dMo_segment_179 <| (mw_puti (M := M_Mo_segment) (pc := 180) (k := 12) (v := ((μ.1 12) + (nI 1))) dMo_segment_180 zp_Mo_segment_61 (Nat.le_of_ble_eq_true rfl) mz_12 rfl rfl kk) H0 H hM hm hu
theorem sMo_segment_183 {G : zG} {d : Nat} {ad : Nat → Nat} {μ : zMm} {P : Option Value → zMm → Prop} {o0 : Option Value} {o1 : Option Value} {o2 : Option Value} {o3 : Option Value} {o4 : Option Value} (hq : P none μ) : mW G d ad M_Mo_segment 183 [o0, o1, o2, o3, o4] [] μ P :=
  fun H0 H hM hm hu => zw_vret dMo_segment_183 rfl ⟨μ, hq, hM, hm, hu⟩
theorem sMo_siteEnd_0 {G : zG} {d : Nat} {ad : Nat → Nat} {μ : zMm} {P : Option Value → zMm → Prop} {st : List Value} {o0 : Option Value} {o1 : Option Value} {o2 : Option Value} (kk : mW G d ad M_Mo_siteEnd 2 [o0, o1, some (.int (nI 2))] st μ P) : mW G d ad M_Mo_siteEnd 0 [o0, o1, o2] st μ P :=
  fun H0 H hM hm hu => zw_iconst (nI 2) dMo_siteEnd_0 zki_2 <| zw_istore_n (i := 2) dMo_siteEnd_1 rfl (Nat.le_of_ble_eq_true rfl) <| kk H0 H hM hm hu
theorem sMo_siteEnd_2 {G : zG} {d : Nat} {ad : Nat → Nat} {μ : zMm} {P : Option Value → zMm → Prop} {st : List Value} {x1 : Int32} {x2 : Int32} {i1 : Nat} (hx1 : ((x1 * (nI 150)) + x2) = nI i1) (hi1 : i1 < mLn 6) (kt : ((μ.2 6 i1) = (nI 47)) → mW G d ad M_Mo_siteEnd 25 [some (.ref (ad 50)), some (.int x1), some (.int x2)] st μ P) (kf : (¬ (μ.2 6 i1) = (nI 47)) → mW G d ad M_Mo_siteEnd 19 [some (.ref (ad 50)), some (.int x1), some (.int x2)] st μ P) : mW G d ad M_Mo_siteEnd 2 [some (.ref (ad 50)), some (.int x1), some (.int x2)] st μ P :=
  fun H0 H hM hm hu => zw_aload_n (i := 0) dMo_siteEnd_2 rfl rfl zRf_ref <| zw_getf dMo_siteEnd_3 zf_Mo_36 (hM.fa 6 (Nat.le_of_ble_eq_true rfl) mn_6) <| zw_iload_n (i := 1) dMo_siteEnd_6 rfl rfl <| zw_sipush (nI 150) dMo_siteEnd_7 zks_150 <| zw_imul dMo_siteEnd_10 <| zw_iload_n (i := 2) dMo_siteEnd_11 rfl rfl <| zw_iadd dMo_siteEnd_12 <| zw_baldN (g := μ.2 6) dMo_siteEnd_13 (hM.ab mk_6) hx1 hi1 (mLn_le _) <| zw_bipush (nI 47) dMo_siteEnd_14 zkb_47 <| zw_icmp_eq 25 dMo_siteEnd_16 (by decide) (fun h => kt h H0 H hM hm hu) (fun h => kf h H0 H hM hm hu)
theorem sMo_siteEnd_19 {G : zG} {d : Nat} {ad : Nat → Nat} {μ : zMm} {P : Option Value → zMm → Prop} {st : List Value} {o0 : Option Value} {o1 : Option Value} {x2 : Int32} (kk : mW G d ad M_Mo_siteEnd 2 [o0, o1, some (.int (x2 + (nI 1)))] st μ P) : mW G d ad M_Mo_siteEnd 19 [o0, o1, some (.int x2)] st μ P :=
  fun H0 H hM hm hu => zw_iinc (i := 2) (x2 + (nI 1)) dMo_siteEnd_19 rfl (congrArg (fun z => x2 + z) zki_1) <| zw_goto 2 dMo_siteEnd_22 (by decide) <| kk H0 H hM hm hu
theorem sMo_siteEnd_25 {G : zG} {d : Nat} {ad : Nat → Nat} {μ : zMm} {P : Option Value → zMm → Prop} {o0 : Option Value} {o1 : Option Value} {x2 : Int32} (hq : P (some (.int x2)) μ) : mW G d ad M_Mo_siteEnd 25 [o0, o1, some (.int x2)] [] μ P :=
  fun H0 H hM hm hu => zw_iload_n (i := 2) dMo_siteEnd_25 rfl rfl <| zw_iret dMo_siteEnd_26 .int rfl rfl ⟨μ, hq, hM, hm, hu⟩
theorem sMo_baseSegments_0 {G : zG} {d : Nat} {ad : Nat → Nat} {μ : zMm} {P : Option Value → zMm → Prop} {st : List Value} {o2 : Option Value} {o3 : Option Value} {o4 : Option Value} {o5 : Option Value} {x1 : Int32} {P2 : Int32 → zMm → Prop} (hd : 1 ≤ d) (hl : st.length ≤ 4) (hc : mC G (d - 1) ad M_Mo_siteEnd [(.ref (ad 50)), (.int x1)] μ (mPi P2)) (kk : ∀ (r : Int32) (μ1 : zMm), P2 r μ1 → mW G d ad M_Mo_baseSegments 5 [some (.ref (ad 50)), some (.int x1), o2, o3, o4, o5] ((.int r) :: st) μ1 P) : mW G d ad M_Mo_baseSegments 0 [some (.ref (ad 50)), some (.int x1), o2, o3, o4, o5] st μ P :=
  fun H0 H hM hm hu => zw_aload_n (i := 0) dMo_baseSegments_0 rfl rfl zRf_ref <| zw_iload_n (i := 1) dMo_baseSegments_1 rfl rfl <| zw_callV [(.int x1)] _ dMo_baseSegments_2 hd zk_Mo_50 hM.is rfl rfl hl (hc H hM) (mPi_k kk hm hu)
theorem sMo_baseSegments_5 {G : zG} {d : Nat} {ad : Nat → Nat} {μ : zMm} {P : Option Value → zMm → Prop} {st : List Value} {o2 : Option Value} {o3 : Option Value} {o4 : Option Value} {o5 : Option Value} {xs0 : Int32} {x1 : Int32} {P2 : Int32 → zMm → Prop} (hd : 1 ≤ d) (hl : st.length ≤ 4) (hc : mC G (d - 1) ad M_Mo_queryAt [(.ref (ad 50)), (.int x1)] μ (mPi P2)) (kk : ∀ (r : Int32) (μ1 : zMm), P2 r μ1 → mW G d ad M_Mo_baseSegments 11 [some (.ref (ad 50)), some (.int x1), o2, some (.int xs0), o4, o5] ((.int r) :: st) μ1 P) : mW G d ad M_Mo_baseSegments 5 [some (.ref (ad 50)), some (.int x1), o2, o3, o4, o5] ((.int xs0) :: st) μ P :=
  fun H0 H hM hm hu => zw_istore_n (i := 3) dMo_baseSegments_5 rfl (Nat.le_of_ble_eq_true rfl) <| zw_aload_n (i := 0) dMo_baseSegments_6 rfl rfl zRf_ref <| zw_iload_n (i := 1) dMo_baseSegments_7 rfl rfl <| zw_callV [(.int x1)] _ dMo_baseSegments_8 hd zk_Mo_84 hM.is rfl rfl hl (hc H hM) (mPi_k kk hm hu)
theorem sMo_baseSegments_11 {G : zG} {d : Nat} {ad : Nat → Nat} {μ : zMm} {P : Option Value → zMm → Prop} {st : List Value} {o0 : Option Value} {o1 : Option Value} {o2 : Option Value} {o3 : Option Value} {o4 : Option Value} {o5 : Option Value} {xs0 : Int32} (kk : mW G d ad M_Mo_baseSegments 13 [o0, o1, o2, o3, some (.int xs0), o5] st μ P) : mW G d ad M_Mo_baseSegments 11 [o0, o1, o2, o3, o4, o5] ((.int xs0) :: st) μ P :=
  fun H0 H hM hm hu => zw_istore (i := 4) dMo_baseSegments_11 (Nat.le_of_ble_eq_true rfl) <| kk H0 H hM hm hu
theorem sMo_baseSegments_13 {G : zG} {d : Nat} {ad : Nat → Nat} {μ : zMm} {P : Option Value → zMm → Prop} {st : List Value} {o0 : Option Value} {o1 : Option Value} {o2 : Option Value} {o5 : Option Value} {x3 : Int32} {x4 : Int32} (kt : (x4 ≤ x3) → mW G d ad M_Mo_baseSegments 95 [o0, o1, o2, some (.int x3), some (.int x4), o5] st μ P) (kf : (¬ x4 ≤ x3) → mW G d ad M_Mo_baseSegments 19 [o0, o1, o2, some (.int x3), some (.int x4), o5] st μ P) : mW G d ad M_Mo_baseSegments 13 [o0, o1, o2, some (.int x3), some (.int x4), o5] st μ P :=
  fun H0 H hM hm hu => zw_iload_n (i := 3) dMo_baseSegments_13 rfl rfl <| zw_iload (i := 4) dMo_baseSegments_14 rfl <| zw_icmp_ge 95 dMo_baseSegments_16 (by decide) (fun h => kt h H0 H hM hm hu) (fun h => kf h H0 H hM hm hu)
theorem sMo_baseSegments_19 {G : zG} {d : Nat} {ad : Nat → Nat} {μ : zMm} {P : Option Value → zMm → Prop} {st : List Value} {o0 : Option Value} {o1 : Option Value} {o2 : Option Value} {o4 : Option Value} {o5 : Option Value} {x3 : Int32} (kk : mW G d ad M_Mo_baseSegments 24 [o0, o1, o2, some (.int x3), o4, some (.int (x3 + (nI 1)))] st μ P) : mW G d ad M_Mo_baseSegments 19 [o0, o1, o2, some (.int x3), o4, o5] st μ P :=
  fun H0 H hM hm hu => zw_iload_n (i := 3) dMo_baseSegments_19 rfl rfl <| zw_iconst (nI 1) dMo_baseSegments_20 zki_1 <| zw_iadd dMo_baseSegments_21 <| zw_istore (i := 5) dMo_baseSegments_22 (Nat.le_of_ble_eq_true rfl) <| kk H0 H hM hm hu
theorem sMo_baseSegments_24 {G : zG} {d : Nat} {ad : Nat → Nat} {μ : zMm} {P : Option Value → zMm → Prop} {st : List Value} {o0 : Option Value} {o1 : Option Value} {o2 : Option Value} {o3 : Option Value} {x5 : Int32} {x4 : Int32} (kt : (x4 ≤ x5) → mW G d ad M_Mo_baseSegments 55 [o0, o1, o2, o3, some (.int x4), some (.int x5)] st μ P) (kf : (¬ x4 ≤ x5) → mW G d ad M_Mo_baseSegments 31 [o0, o1, o2, o3, some (.int x4), some (.int x5)] st μ P) : mW G d ad M_Mo_baseSegments 24 [o0, o1, o2, o3, some (.int x4), some (.int x5)] st μ P :=
  fun H0 H hM hm hu => zw_iload (i := 5) dMo_baseSegments_24 rfl <| zw_iload (i := 4) dMo_baseSegments_26 rfl <| zw_icmp_ge 55 dMo_baseSegments_28 (by decide) (fun h => kt h H0 H hM hm hu) (fun h => kf h H0 H hM hm hu)
theorem sMo_baseSegments_31 {G : zG} {d : Nat} {ad : Nat → Nat} {μ : zMm} {P : Option Value → zMm → Prop} {st : List Value} {o2 : Option Value} {o3 : Option Value} {o4 : Option Value} {x1 : Int32} {x5 : Int32} {i1 : Nat} (hx1 : ((x1 * (nI 150)) + x5) = nI i1) (hi1 : i1 < mLn 6) (kt : ((μ.2 6 i1) = (nI 47)) → mW G d ad M_Mo_baseSegments 55 [some (.ref (ad 50)), some (.int x1), o2, o3, o4, some (.int x5)] st μ P) (kf : (¬ (μ.2 6 i1) = (nI 47)) → mW G d ad M_Mo_baseSegments 49 [some (.ref (ad 50)), some (.int x1), o2, o3, o4, some (.int x5)] st μ P) : mW G d ad M_Mo_baseSegments 31 [some (.ref (ad 50)), some (.int x1), o2, o3, o4, some (.int x5)] st μ P :=
  fun H0 H hM hm hu => zw_aload_n (i := 0) dMo_baseSegments_31 rfl rfl zRf_ref <| zw_getf dMo_baseSegments_32 zf_Mo_36 (hM.fa 6 (Nat.le_of_ble_eq_true rfl) mn_6) <| zw_iload_n (i := 1) dMo_baseSegments_35 rfl rfl <| zw_sipush (nI 150) dMo_baseSegments_36 zks_150 <| zw_imul dMo_baseSegments_39 <| zw_iload (i := 5) dMo_baseSegments_40 rfl <| zw_iadd dMo_baseSegments_42 <| zw_baldN (g := μ.2 6) dMo_baseSegments_43 (hM.ab mk_6) hx1 hi1 (mLn_le _) <| zw_bipush (nI 47) dMo_baseSegments_44 zkb_47 <| zw_icmp_eq 55 dMo_baseSegments_46 (by decide) (fun h => kt h H0 H hM hm hu) (fun h => kf h H0 H hM hm hu)
theorem sMo_baseSegments_49 {G : zG} {d : Nat} {ad : Nat → Nat} {μ : zMm} {P : Option Value → zMm → Prop} {st : List Value} {o0 : Option Value} {o1 : Option Value} {o2 : Option Value} {o3 : Option Value} {o4 : Option Value} {x5 : Int32} (kk : mW G d ad M_Mo_baseSegments 24 [o0, o1, o2, o3, o4, some (.int (x5 + (nI 1)))] st μ P) : mW G d ad M_Mo_baseSegments 49 [o0, o1, o2, o3, o4, some (.int x5)] st μ P :=
  fun H0 H hM hm hu => zw_iinc (i := 5) (x5 + (nI 1)) dMo_baseSegments_49 rfl (congrArg (fun z => x5 + z) zki_1) <| zw_goto 24 dMo_baseSegments_52 (by decide) <| kk H0 H hM hm hu
theorem sMo_baseSegments_55 {G : zG} {d : Nat} {ad : Nat → Nat} {μ : zMm} {P : Option Value → zMm → Prop} {st : List Value} {o0 : Option Value} {o1 : Option Value} {o3 : Option Value} {o4 : Option Value} {o5 : Option Value} {x2 : Int32} (kt : (¬ x2 = 0) → mW G d ad M_Mo_baseSegments 66 [o0, o1, some (.int x2), o3, o4, o5] st μ P) (kf : (x2 = 0) → mW G d ad M_Mo_baseSegments 59 [o0, o1, some (.int x2), o3, o4, o5] st μ P) : mW G d ad M_Mo_baseSegments 55 [o0, o1, some (.int x2), o3, o4, o5] st μ P :=
  fun H0 H hM hm hu => zw_iload_n (i := 2) dMo_baseSegments_55 rfl rfl <| zw_if_ne 66 dMo_baseSegments_56 (by decide) (fun h => kt h H0 H hM hm hu) (fun h => kf h H0 H hM hm hu)
theorem sMo_baseSegments_59 {G : zG} {d : Nat} {ad : Nat → Nat} {μ : zMm} {P : Option Value → zMm → Prop} {st : List Value} {o0 : Option Value} {o1 : Option Value} {o2 : Option Value} {o3 : Option Value} {x5 : Int32} {x4 : Int32} (kt : (x4 ≤ x5) → mW G d ad M_Mo_baseSegments 89 [o0, o1, o2, o3, some (.int x4), some (.int x5)] st μ P) (kf : (¬ x4 ≤ x5) → mW G d ad M_Mo_baseSegments 66 [o0, o1, o2, o3, some (.int x4), some (.int x5)] st μ P) : mW G d ad M_Mo_baseSegments 59 [o0, o1, o2, o3, some (.int x4), some (.int x5)] st μ P :=
  fun H0 H hM hm hu => zw_iload (i := 5) dMo_baseSegments_59 rfl <| zw_iload (i := 4) dMo_baseSegments_61 rfl <| zw_icmp_ge 89 dMo_baseSegments_63 (by decide) (fun h => kt h H0 H hM hm hu) (fun h => kf h H0 H hM hm hu)
theorem sMo_baseSegments_66 {G : zG} {d : Nat} {ad : Nat → Nat} {μ : zMm} {P : Option Value → zMm → Prop} {st : List Value} {o2 : Option Value} {o4 : Option Value} {x1 : Int32} {x3 : Int32} {x5 : Int32} {P2 : zMm → Prop} (hd : 1 ≤ d) (hl : st.length ≤ 4) (hc : mC G (d - 1) ad M_Mo_segment [(.ref (ad 50)), (.ref (ad 6)), (.int (((x1 * (nI 150)) + x3) + (nI 1))), (.int ((x5 - x3) - (nI 1)))] μ (mPv P2)) (kk : ∀ μ1 : zMm, P2 μ1 → mW G d ad M_Mo_baseSegments 89 [some (.ref (ad 50)), some (.int x1), o2, some (.int x3), o4, some (.int x5)] st μ1 P) : mW G d ad M_Mo_baseSegments 66 [some (.ref (ad 50)), some (.int x1), o2, some (.int x3), o4, some (.int x5)] st μ P :=
  fun H0 H hM hm hu => zw_aload_n (i := 0) dMo_baseSegments_66 rfl rfl zRf_ref <| zw_aload_n (i := 0) dMo_baseSegments_67 rfl rfl zRf_ref <| zw_getf dMo_baseSegments_68 zf_Mo_36 (hM.fa 6 (Nat.le_of_ble_eq_true rfl) mn_6) <| zw_iload_n (i := 1) dMo_baseSegments_71 rfl rfl <| zw_sipush (nI 150) dMo_baseSegments_72 zks_150 <| zw_imul dMo_baseSegments_75 <| zw_iload_n (i := 3) dMo_baseSegments_76 rfl rfl <| zw_iadd dMo_baseSegments_77 <| zw_iconst (nI 1) dMo_baseSegments_78 zki_1 <| zw_iadd dMo_baseSegments_79 <| zw_iload (i := 5) dMo_baseSegments_80 rfl <| zw_iload_n (i := 3) dMo_baseSegments_82 rfl rfl <| zw_isub dMo_baseSegments_83 <| zw_iconst (nI 1) dMo_baseSegments_84 zki_1 <| zw_isub dMo_baseSegments_85 <| zw_callV [(.ref (ad 6)), (.int (((x1 * (nI 150)) + x3) + (nI 1))), (.int ((x5 - x3) - (nI 1)))] _ dMo_baseSegments_86 hd zk_Mo_80 hM.is rfl rfl hl (hc H hM) (mPv_k kk hm hu)
theorem sMo_baseSegments_89 {G : zG} {d : Nat} {ad : Nat → Nat} {μ : zMm} {P : Option Value → zMm → Prop} {st : List Value} {o0 : Option Value} {o1 : Option Value} {o2 : Option Value} {o3 : Option Value} {o4 : Option Value} {x5 : Int32} (kk : mW G d ad M_Mo_baseSegments 13 [o0, o1, o2, some (.int x5), o4, some (.int x5)] st μ P) : mW G d ad M_Mo_baseSegments 89 [o0, o1, o2, o3, o4, some (.int x5)] st μ P :=
  fun H0 H hM hm hu => zw_iload (i := 5) dMo_baseSegments_89 rfl <| zw_istore_n (i := 3) dMo_baseSegments_91 rfl (Nat.le_of_ble_eq_true rfl) <| zw_goto 13 dMo_baseSegments_92 (by decide) <| kk H0 H hM hm hu
theorem sMo_baseSegments_95 {G : zG} {d : Nat} {ad : Nat → Nat} {μ : zMm} {P : Option Value → zMm → Prop} {o0 : Option Value} {o1 : Option Value} {o2 : Option Value} {o3 : Option Value} {o4 : Option Value} {o5 : Option Value} (hq : P none μ) : mW G d ad M_Mo_baseSegments 95 [o0, o1, o2, o3, o4, o5] [] μ P :=
  fun H0 H hM hm hu => zw_vret dMo_baseSegments_95 rfl ⟨μ, hq, hM, hm, hu⟩
theorem sMo_queryAt_0 {G : zG} {d : Nat} {ad : Nat → Nat} {μ : zMm} {P : Option Value → zMm → Prop} {st : List Value} {o0 : Option Value} {o1 : Option Value} {o2 : Option Value} (kk : mW G d ad M_Mo_queryAt 2 [o0, o1, some (.int (nI 0))] st μ P) : mW G d ad M_Mo_queryAt 0 [o0, o1, o2] st μ P :=
  fun H0 H hM hm hu => zw_iconst (nI 0) dMo_queryAt_0 zki_0 <| zw_istore_n (i := 2) dMo_queryAt_1 rfl (Nat.le_of_ble_eq_true rfl) <| kk H0 H hM hm hu
theorem sMo_queryAt_2 {G : zG} {d : Nat} {ad : Nat → Nat} {μ : zMm} {P : Option Value → zMm → Prop} {st : List Value} {x2 : Int32} {x1 : Int32} {i1 : Nat} (hx1 : x1 = nI i1) (hi1 : i1 < mLn 7) (kt : ((μ.2 7 i1) ≤ x2) → mW G d ad M_Mo_queryAt 35 [some (.ref (ad 50)), some (.int x1), some (.int x2)] st μ P) (kf : (¬ (μ.2 7 i1) ≤ x2) → mW G d ad M_Mo_queryAt 12 [some (.ref (ad 50)), some (.int x1), some (.int x2)] st μ P) : mW G d ad M_Mo_queryAt 2 [some (.ref (ad 50)), some (.int x1), some (.int x2)] st μ P :=
  fun H0 H hM hm hu => zw_iload_n (i := 2) dMo_queryAt_2 rfl rfl <| zw_aload_n (i := 0) dMo_queryAt_3 rfl rfl zRf_ref <| zw_getf dMo_queryAt_4 zf_Mo_39 (hM.fa 7 (Nat.le_of_ble_eq_true rfl) mn_7) <| zw_iload_n (i := 1) dMo_queryAt_7 rfl rfl <| zw_ialdN (g := μ.2 7) dMo_queryAt_8 (hM.ai mk_7) hx1 hi1 (mLn_le _) <| zw_icmp_ge 35 dMo_queryAt_9 (by decide) (fun h => kt h H0 H hM hm hu) (fun h => kf h H0 H hM hm hu)
theorem sMo_queryAt_12 {G : zG} {d : Nat} {ad : Nat → Nat} {μ : zMm} {P : Option Value → zMm → Prop} {st : List Value} {x1 : Int32} {x2 : Int32} {i1 : Nat} (hx1 : ((x1 * (nI 150)) + x2) = nI i1) (hi1 : i1 < mLn 6) (kt : ((μ.2 6 i1) = (nI 63)) → mW G d ad M_Mo_queryAt 35 [some (.ref (ad 50)), some (.int x1), some (.int x2)] st μ P) (kf : (¬ (μ.2 6 i1) = (nI 63)) → mW G d ad M_Mo_queryAt 29 [some (.ref (ad 50)), some (.int x1), some (.int x2)] st μ P) : mW G d ad M_Mo_queryAt 12 [some (.ref (ad 50)), some (.int x1), some (.int x2)] st μ P :=
  fun H0 H hM hm hu => zw_aload_n (i := 0) dMo_queryAt_12 rfl rfl zRf_ref <| zw_getf dMo_queryAt_13 zf_Mo_36 (hM.fa 6 (Nat.le_of_ble_eq_true rfl) mn_6) <| zw_iload_n (i := 1) dMo_queryAt_16 rfl rfl <| zw_sipush (nI 150) dMo_queryAt_17 zks_150 <| zw_imul dMo_queryAt_20 <| zw_iload_n (i := 2) dMo_queryAt_21 rfl rfl <| zw_iadd dMo_queryAt_22 <| zw_baldN (g := μ.2 6) dMo_queryAt_23 (hM.ab mk_6) hx1 hi1 (mLn_le _) <| zw_bipush (nI 63) dMo_queryAt_24 zkb_63 <| zw_icmp_eq 35 dMo_queryAt_26 (by decide) (fun h => kt h H0 H hM hm hu) (fun h => kf h H0 H hM hm hu)
theorem sMo_queryAt_29 {G : zG} {d : Nat} {ad : Nat → Nat} {μ : zMm} {P : Option Value → zMm → Prop} {st : List Value} {o0 : Option Value} {o1 : Option Value} {x2 : Int32} (kk : mW G d ad M_Mo_queryAt 2 [o0, o1, some (.int (x2 + (nI 1)))] st μ P) : mW G d ad M_Mo_queryAt 29 [o0, o1, some (.int x2)] st μ P :=
  fun H0 H hM hm hu => zw_iinc (i := 2) (x2 + (nI 1)) dMo_queryAt_29 rfl (congrArg (fun z => x2 + z) zki_1) <| zw_goto 2 dMo_queryAt_32 (by decide) <| kk H0 H hM hm hu
theorem sMo_queryAt_35 {G : zG} {d : Nat} {ad : Nat → Nat} {μ : zMm} {P : Option Value → zMm → Prop} {o0 : Option Value} {o1 : Option Value} {x2 : Int32} (hq : P (some (.int x2)) μ) : mW G d ad M_Mo_queryAt 35 [o0, o1, some (.int x2)] [] μ P :=
  fun H0 H hM hm hu => zw_iload_n (i := 2) dMo_queryAt_35 rfl rfl <| zw_iret dMo_queryAt_36 .int rfl rfl ⟨μ, hq, hM, hm, hu⟩
theorem sMo_query_0 {G : zG} {d : Nat} {ad : Nat → Nat} {μ : zMm} {P : Option Value → zMm → Prop} {st : List Value} {o1 : Option Value} {o3 : Option Value} {o4 : Option Value} {o5 : Option Value} {o6 : Option Value} {x2 : Int32} (kt : (x2 ≤ (μ.1 15)) → mW G d ad M_Mo_query 102 [some (.ref (ad 50)), o1, some (.int x2), o3, o4, o5, o6] st μ P) (kf : (¬ x2 ≤ (μ.1 15)) → mW G d ad M_Mo_query 8 [some (.ref (ad 50)), o1, some (.int x2), o3, o4, o5, o6] st μ P) : mW G d ad M_Mo_query 0 [some (.ref (ad 50)), o1, some (.int x2), o3, o4, o5, o6] st μ P :=
  fun H0 H hM hm hu => zw_aload_n (i := 0) dMo_query_0 rfl rfl zRf_ref <| zw_getf dMo_query_1 zf_Mo_73 (hM.fi 15 (Nat.le_of_ble_eq_true rfl) mz_15) <| zw_iload_n (i := 2) dMo_query_4 rfl rfl <| zw_icmp_ge 102 dMo_query_5 (by decide) (fun h => kt h H0 H hM hm hu) (fun h => kf h H0 H hM hm hu)
theorem sMo_query_8 {G : zG} {d : Nat} {ad : Nat → Nat} {μ : zMm} {P : Option Value → zMm → Prop} {st : List Value} {o2 : Option Value} {o3 : Option Value} {o4 : Option Value} {o5 : Option Value} {o6 : Option Value} {k1 : Nat} {i1 : Nat} (hkk1 : mB k1) (hx1 : (μ.1 15) = nI i1) (hi1 : i1 < mLn k1) (kt : (¬ (μ.2 k1 i1) = (nI 63)) → mW G d ad M_Mo_query 102 [some (.ref (ad 50)), some (.ref (ad k1)), o2, o3, o4, o5, o6] st μ P) (kf : ((μ.2 k1 i1) = (nI 63)) → mW G d ad M_Mo_query 19 [some (.ref (ad 50)), some (.ref (ad k1)), o2, o3, o4, o5, o6] st μ P) : mW G d ad M_Mo_query 8 [some (.ref (ad 50)), some (.ref (ad k1)), o2, o3, o4, o5, o6] st μ P :=
  fun H0 H hM hm hu => zw_aload_n (i := 1) dMo_query_8 rfl rfl zRf_ref <| zw_aload_n (i := 0) dMo_query_9 rfl rfl zRf_ref <| zw_getf dMo_query_10 zf_Mo_73 (hM.fi 15 (Nat.le_of_ble_eq_true rfl) mz_15) <| zw_baldN (g := μ.2 k1) dMo_query_13 (hM.ab hkk1) hx1 hi1 (mLn_le _) <| zw_bipush (nI 63) dMo_query_14 zkb_63 <| zw_icmp_ne 102 dMo_query_16 (by decide) (fun h => kt h H0 H hM hm hu) (fun h => kf h H0 H hM hm hu)
theorem sMo_query_19 {G : zG} {d : Nat} {ad : Nat → Nat} {μ : zMm} {P : Option Value → zMm → Prop} {st : List Value} {o1 : Option Value} {o2 : Option Value} {o3 : Option Value} {o4 : Option Value} {o5 : Option Value} {o6 : Option Value} (kk : mW G d ad M_Mo_query 27 [some (.ref (ad 50)), o1, o2, o3, o4, some (.int ((μ.1 15) + (nI 1))), o6] st μ P) : mW G d ad M_Mo_query 19 [some (.ref (ad 50)), o1, o2, o3, o4, o5, o6] st μ P :=
  fun H0 H hM hm hu => zw_aload_n (i := 0) dMo_query_19 rfl rfl zRf_ref <| zw_getf dMo_query_20 zf_Mo_73 (hM.fi 15 (Nat.le_of_ble_eq_true rfl) mz_15) <| zw_iconst (nI 1) dMo_query_23 zki_1 <| zw_iadd dMo_query_24 <| zw_istore (i := 5) dMo_query_25 (Nat.le_of_ble_eq_true rfl) <| kk H0 H hM hm hu
theorem sMo_query_27 {G : zG} {d : Nat} {ad : Nat → Nat} {μ : zMm} {P : Option Value → zMm → Prop} {st : List Value} {o0 : Option Value} {o1 : Option Value} {o3 : Option Value} {o4 : Option Value} {o6 : Option Value} {x5 : Int32} {x2 : Int32} (kt : (x2 ≤ x5) → mW G d ad M_Mo_query 49 [o0, o1, some (.int x2), o3, o4, some (.int x5), o6] st μ P) (kf : (¬ x2 ≤ x5) → mW G d ad M_Mo_query 33 [o0, o1, some (.int x2), o3, o4, some (.int x5), o6] st μ P) : mW G d ad M_Mo_query 27 [o0, o1, some (.int x2), o3, o4, some (.int x5), o6] st μ P :=
  fun H0 H hM hm hu => zw_iload (i := 5) dMo_query_27 rfl <| zw_iload_n (i := 2) dMo_query_29 rfl rfl <| zw_icmp_ge 49 dMo_query_30 (by decide) (fun h => kt h H0 H hM hm hu) (fun h => kf h H0 H hM hm hu)
theorem sMo_query_33 {G : zG} {d : Nat} {ad : Nat → Nat} {μ : zMm} {P : Option Value → zMm → Prop} {st : List Value} {o0 : Option Value} {o2 : Option Value} {o3 : Option Value} {o4 : Option Value} {o6 : Option Value} {k1 : Nat} {x5 : Int32} {i1 : Nat} {P2 : Int32 → zMm → Prop} (hkk1 : mB k1) (hx1 : x5 = nI i1) (hi1 : i1 < mLn k1) (hd : 1 ≤ d) (hl : st.length ≤ 4) (hc : mC G (d - 1) ad M_Mo_isQuery [(.int (μ.2 k1 i1))] μ (mPi P2)) (kk : ∀ (r : Int32) (μ1 : zMm), P2 r μ1 → mW G d ad M_Mo_query 40 [o0, some (.ref (ad k1)), o2, o3, o4, some (.int x5), o6] ((.int r) :: st) μ1 P) : mW G d ad M_Mo_query 33 [o0, some (.ref (ad k1)), o2, o3, o4, some (.int x5), o6] st μ P :=
  fun H0 H hM hm hu => zw_aload_n (i := 1) dMo_query_33 rfl rfl zRf_ref <| zw_iload (i := 5) dMo_query_34 rfl <| zw_baldN (g := μ.2 k1) dMo_query_36 (hM.ab hkk1) hx1 hi1 (mLn_le _) <| zw_callS [(.int (μ.2 k1 i1))] _ dMo_query_37 hd zk_Mo_105 rfl rfl hl (hc H hM) (mPi_k kk hm hu)
theorem sMo_query_40 {G : zG} {d : Nat} {ad : Nat → Nat} {μ : zMm} {P : Option Value → zMm → Prop} {st : List Value} {o0 : Option Value} {o1 : Option Value} {o2 : Option Value} {o3 : Option Value} {o4 : Option Value} {o5 : Option Value} {o6 : Option Value} {xs0 : Int32} (kt : (xs0 = 0) → mW G d ad M_Mo_query 49 [o0, o1, o2, o3, o4, o5, o6] st μ P) (kf : (¬ xs0 = 0) → mW G d ad M_Mo_query 43 [o0, o1, o2, o3, o4, o5, o6] st μ P) : mW G d ad M_Mo_query 40 [o0, o1, o2, o3, o4, o5, o6] ((.int xs0) :: st) μ P :=
  fun H0 H hM hm hu => zw_if_eq 49 dMo_query_40 (by decide) (fun h => kt h H0 H hM hm hu) (fun h => kf h H0 H hM hm hu)
theorem sMo_query_43 {G : zG} {d : Nat} {ad : Nat → Nat} {μ : zMm} {P : Option Value → zMm → Prop} {st : List Value} {o0 : Option Value} {o1 : Option Value} {o2 : Option Value} {o3 : Option Value} {o4 : Option Value} {o6 : Option Value} {x5 : Int32} (kk : mW G d ad M_Mo_query 27 [o0, o1, o2, o3, o4, some (.int (x5 + (nI 1))), o6] st μ P) : mW G d ad M_Mo_query 43 [o0, o1, o2, o3, o4, some (.int x5), o6] st μ P :=
  fun H0 H hM hm hu => zw_iinc (i := 5) (x5 + (nI 1)) dMo_query_43 rfl (congrArg (fun z => x5 + z) zki_1) <| zw_goto 27 dMo_query_46 (by decide) <| kk H0 H hM hm hu
theorem sMo_query_49 {G : zG} {d : Nat} {ad : Nat → Nat} {μ : zMm} {P : Option Value → zMm → Prop} {st : List Value} {o1 : Option Value} {o2 : Option Value} {o3 : Option Value} {o4 : Option Value} {o6 : Option Value} {x5 : Int32} (kt : (((x5 - (μ.1 15)) - (nI 1)) ≤ (nI 40)) → mW G d ad M_Mo_query 65 [some (.ref (ad 50)), o1, o2, o3, o4, some (.int x5), o6] st μ P) (kf : (¬ ((x5 - (μ.1 15)) - (nI 1)) ≤ (nI 40)) → mW G d ad M_Mo_query 63 [some (.ref (ad 50)), o1, o2, o3, o4, some (.int x5), o6] st μ P) : mW G d ad M_Mo_query 49 [some (.ref (ad 50)), o1, o2, o3, o4, some (.int x5), o6] st μ P :=
  fun H0 H hM hm hu => zw_iload (i := 5) dMo_query_49 rfl <| zw_aload_n (i := 0) dMo_query_51 rfl rfl zRf_ref <| zw_getf dMo_query_52 zf_Mo_73 (hM.fi 15 (Nat.le_of_ble_eq_true rfl) mz_15) <| zw_isub dMo_query_55 <| zw_iconst (nI 1) dMo_query_56 zki_1 <| zw_isub dMo_query_57 <| zw_bipush (nI 40) dMo_query_58 zkb_40 <| zw_icmp_le 65 dMo_query_60 (by decide) (fun h => kt h H0 H hM hm hu) (fun h => kf h H0 H hM hm hu)
theorem sMo_query_63 {G : zG} {d : Nat} {ad : Nat → Nat} {μ : zMm} {P : Option Value → zMm → Prop} {o0 : Option Value} {o1 : Option Value} {o2 : Option Value} {o3 : Option Value} {o4 : Option Value} {o5 : Option Value} {o6 : Option Value} (hn : narrow .boolean (.int (nI 0)) = .int (nI 0)) (hq : P (some (.int (nI 0))) μ) : mW G d ad M_Mo_query 63 [o0, o1, o2, o3, o4, o5, o6] [] μ P :=
  fun H0 H hM hm hu => zw_iconst (nI 0) dMo_query_63 zki_0 <| zw_iret dMo_query_64 .boolean rfl hn ⟨μ, hq, hM, hm, hu⟩
theorem sMo_query_65 {G : zG} {d : Nat} {ad : Nat → Nat} {μ : zMm} {P : Option Value → zMm → Prop} {st : List Value} {o1 : Option Value} {o2 : Option Value} {o3 : Option Value} {o4 : Option Value} {o5 : Option Value} {o6 : Option Value} (kk : mW G d ad M_Mo_query 71 [some (.ref (ad 50)), o1, o2, o3, o4, o5, some (.int (μ.1 15))] st μ P) : mW G d ad M_Mo_query 65 [some (.ref (ad 50)), o1, o2, o3, o4, o5, o6] st μ P :=
  fun H0 H hM hm hu => zw_aload_n (i := 0) dMo_query_65 rfl rfl zRf_ref <| zw_getf dMo_query_66 zf_Mo_73 (hM.fi 15 (Nat.le_of_ble_eq_true rfl) mz_15) <| zw_istore (i := 6) dMo_query_69 (Nat.le_of_ble_eq_true rfl) <| kk H0 H hM hm hu
theorem sMo_query_71 {G : zG} {d : Nat} {ad : Nat → Nat} {μ : zMm} {P : Option Value → zMm → Prop} {st : List Value} {o0 : Option Value} {o1 : Option Value} {o2 : Option Value} {o3 : Option Value} {o4 : Option Value} {x6 : Int32} {x5 : Int32} (kt : (x5 ≤ x6) → mW G d ad M_Mo_query 93 [o0, o1, o2, o3, o4, some (.int x5), some (.int x6)] st μ P) (kf : (¬ x5 ≤ x6) → mW G d ad M_Mo_query 78 [o0, o1, o2, o3, o4, some (.int x5), some (.int x6)] st μ P) : mW G d ad M_Mo_query 71 [o0, o1, o2, o3, o4, some (.int x5), some (.int x6)] st μ P :=
  fun H0 H hM hm hu => zw_iload (i := 6) dMo_query_71 rfl <| zw_iload (i := 5) dMo_query_73 rfl <| zw_icmp_ge 93 dMo_query_75 (by decide) (fun h => kt h H0 H hM hm hu) (fun h => kf h H0 H hM hm hu)
theorem sMo_query_78 {G : zG} {d : Nat} {ad : Nat → Nat} {μ : zMm} {P : Option Value → zMm → Prop} {st : List Value} {o2 : Option Value} {o3 : Option Value} {o4 : Option Value} {o5 : Option Value} {k1 : Nat} {x6 : Int32} {i1 : Nat} {P2 : zMm → Prop} (hkk1 : mB k1) (hx1 : x6 = nI i1) (hi1 : i1 < mLn k1) (hd : 1 ≤ d) (hl : st.length ≤ 4) (hc : mC G (d - 1) ad M_Mo_put [(.ref (ad 50)), (.int (nI 0)), (.int (μ.2 k1 i1))] μ (mPv P2)) (kk : ∀ μ1 : zMm, P2 μ1 → mW G d ad M_Mo_query 87 [some (.ref (ad 50)), some (.ref (ad k1)), o2, o3, o4, o5, some (.int x6)] st μ1 P) : mW G d ad M_Mo_query 78 [some (.ref (ad 50)), some (.ref (ad k1)), o2, o3, o4, o5, some (.int x6)] st μ P :=
  fun H0 H hM hm hu => zw_aload_n (i := 0) dMo_query_78 rfl rfl zRf_ref <| zw_iconst (nI 0) dMo_query_79 zki_0 <| zw_aload_n (i := 1) dMo_query_80 rfl rfl zRf_ref <| zw_iload (i := 6) dMo_query_81 rfl <| zw_baldN (g := μ.2 k1) dMo_query_83 (hM.ab hkk1) hx1 hi1 (mLn_le _) <| zw_callV [(.int (nI 0)), (.int (μ.2 k1 i1))] _ dMo_query_84 hd zk_Mo_91 hM.is rfl rfl hl (hc H hM) (mPv_k kk hm hu)
theorem sMo_query_87 {G : zG} {d : Nat} {ad : Nat → Nat} {μ : zMm} {P : Option Value → zMm → Prop} {st : List Value} {o0 : Option Value} {o1 : Option Value} {o2 : Option Value} {o3 : Option Value} {o4 : Option Value} {o5 : Option Value} {x6 : Int32} (kk : mW G d ad M_Mo_query 71 [o0, o1, o2, o3, o4, o5, some (.int (x6 + (nI 1)))] st μ P) : mW G d ad M_Mo_query 87 [o0, o1, o2, o3, o4, o5, some (.int x6)] st μ P :=
  fun H0 H hM hm hu => zw_iinc (i := 6) (x6 + (nI 1)) dMo_query_87 rfl (congrArg (fun z => x6 + z) zki_1) <| zw_goto 71 dMo_query_90 (by decide) <| kk H0 H hM hm hu
theorem sMo_query_93 {G : zG} {d : Nat} {ad : Nat → Nat} {μ : zMm} {P : Option Value → zMm → Prop} {st : List Value} {o1 : Option Value} {o2 : Option Value} {o3 : Option Value} {o4 : Option Value} {o6 : Option Value} {x5 : Int32} (kk : mW G d ad M_Mo_query 99 [some (.ref (ad 50)), o1, o2, o3, o4, some (.int x5), o6] st (upd μ.1 15 x5, μ.2) P) : mW G d ad M_Mo_query 93 [some (.ref (ad 50)), o1, o2, o3, o4, some (.int x5), o6] st μ P :=
  fun H0 H hM hm hu => zw_aload_n (i := 0) dMo_query_93 rfl rfl zRf_ref <| zw_iload (i := 5) dMo_query_94 rfl <| (mw_puti (M := M_Mo_query) (pc := 96) (k := 15) (v := x5) dMo_query_96 zp_Mo_query_73 (Nat.le_of_ble_eq_true rfl) mz_15 rfl rfl kk) H0 H hM hm hu
theorem sMo_query_99 {G : zG} {d : Nat} {ad : Nat → Nat} {μ : zMm} {P : Option Value → zMm → Prop} {st : List Value} {o1 : Option Value} {o3 : Option Value} {o4 : Option Value} {o5 : Option Value} {o6 : Option Value} {x2 : Int32} (kt : (x2 ≤ (μ.1 15)) → mW G d ad M_Mo_query 257 [some (.ref (ad 50)), o1, some (.int x2), o3, o4, o5, o6] st μ P) (kf : (¬ x2 ≤ (μ.1 15)) → mW G d ad M_Mo_query 157 [some (.ref (ad 50)), o1, some (.int x2), o3, o4, o5, o6] st μ P) : mW G d ad M_Mo_query 99 [some (.ref (ad 50)), o1, some (.int x2), o3, o4, o5, o6] st μ P :=
  fun H0 H hM hm hu => zw_goto 149 dMo_query_99 (by decide) <| zw_aload_n (i := 0) dMo_query_149 rfl rfl zRf_ref <| zw_getf dMo_query_150 zf_Mo_73 (hM.fi 15 (Nat.le_of_ble_eq_true rfl) mz_15) <| zw_iload_n (i := 2) dMo_query_153 rfl rfl <| zw_icmp_ge 257 dMo_query_154 (by decide) (fun h => kt h H0 H hM hm hu) (fun h => kf h H0 H hM hm hu)
theorem sMo_query_102 {G : zG} {d : Nat} {ad : Nat → Nat} {μ : zMm} {P : Option Value → zMm → Prop} {st : List Value} {o0 : Option Value} {o1 : Option Value} {o2 : Option Value} {o3 : Option Value} {o5 : Option Value} {o6 : Option Value} {x4 : Int32} (kt : (¬ x4 = 0) → mW G d ad M_Mo_query 149 [o0, o1, o2, o3, some (.int x4), o5, o6] st μ P) (kf : (x4 = 0) → mW G d ad M_Mo_query 107 [o0, o1, o2, o3, some (.int x4), o5, o6] st μ P) : mW G d ad M_Mo_query 102 [o0, o1, o2, o3, some (.int x4), o5, o6] st μ P :=
  fun H0 H hM hm hu => zw_iload (i := 4) dMo_query_102 rfl <| zw_if_ne 149 dMo_query_104 (by decide) (fun h => kt h H0 H hM hm hu) (fun h => kf h H0 H hM hm hu)
theorem sMo_query_107 {G : zG} {d : Nat} {ad : Nat → Nat} {μ : zMm} {P : Option Value → zMm → Prop} {st : List Value} {o1 : Option Value} {o2 : Option Value} {o4 : Option Value} {o5 : Option Value} {o6 : Option Value} {x3 : Int32} {P2 : Int32 → zMm → Prop} (hd : 1 ≤ d) (hl : st.length ≤ 4) (hc : mC G (d - 1) ad M_Mo_queryAt [(.ref (ad 50)), (.int x3)] μ (mPi P2)) (kk : ∀ (r : Int32) (μ1 : zMm), P2 r μ1 → mW G d ad M_Mo_query 112 [some (.ref (ad 50)), o1, o2, some (.int x3), o4, o5, o6] ((.int r) :: st) μ1 P) : mW G d ad M_Mo_query 107 [some (.ref (ad 50)), o1, o2, some (.int x3), o4, o5, o6] st μ P :=
  fun H0 H hM hm hu => zw_aload_n (i := 0) dMo_query_107 rfl rfl zRf_ref <| zw_iload_n (i := 3) dMo_query_108 rfl rfl <| zw_callV [(.int x3)] _ dMo_query_109 hd zk_Mo_84 hM.is rfl rfl hl (hc H hM) (mPi_k kk hm hu)
theorem sMo_query_112 {G : zG} {d : Nat} {ad : Nat → Nat} {μ : zMm} {P : Option Value → zMm → Prop} {st : List Value} {o0 : Option Value} {o1 : Option Value} {o2 : Option Value} {o3 : Option Value} {o4 : Option Value} {o5 : Option Value} {o6 : Option Value} {xs0 : Int32} (kk : mW G d ad M_Mo_query 114 [o0, o1, o2, o3, o4, some (.int xs0), o6] st μ P) : mW G d ad M_Mo_query 112 [o0, o1, o2, o3, o4, o5, o6] ((.int xs0) :: st) μ P :=
  fun H0 H hM hm hu => zw_istore (i := 5) dMo_query_112 (Nat.le_of_ble_eq_true rfl) <| kk H0 H hM hm hu
theorem sMo_query_114 {G : zG} {d : Nat} {ad : Nat → Nat} {μ : zMm} {P : Option Value → zMm → Prop} {st : List Value} {o1 : Option Value} {o2 : Option Value} {o4 : Option Value} {o6 : Option Value} {x5 : Int32} {x3 : Int32} {i1 : Nat} (hx1 : x3 = nI i1) (hi1 : i1 < mLn 7) (kt : ((μ.2 7 i1) ≤ x5) → mW G d ad M_Mo_query 149 [some (.ref (ad 50)), o1, o2, some (.int x3), o4, some (.int x5), o6] st μ P) (kf : (¬ (μ.2 7 i1) ≤ x5) → mW G d ad M_Mo_query 125 [some (.ref (ad 50)), o1, o2, some (.int x3), o4, some (.int x5), o6] st μ P) : mW G d ad M_Mo_query 114 [some (.ref (ad 50)), o1, o2, some (.int x3), o4, some (.int x5), o6] st μ P :=
  fun H0 H hM hm hu => zw_iload (i := 5) dMo_query_114 rfl <| zw_aload_n (i := 0) dMo_query_116 rfl rfl zRf_ref <| zw_getf dMo_query_117 zf_Mo_39 (hM.fa 7 (Nat.le_of_ble_eq_true rfl) mn_7) <| zw_iload_n (i := 3) dMo_query_120 rfl rfl <| zw_ialdN (g := μ.2 7) dMo_query_121 (hM.ai mk_7) hx1 hi1 (mLn_le _) <| zw_icmp_ge 149 dMo_query_122 (by decide) (fun h => kt h H0 H hM hm hu) (fun h => kf h H0 H hM hm hu)
theorem sMo_query_125 {G : zG} {d : Nat} {ad : Nat → Nat} {μ : zMm} {P : Option Value → zMm → Prop} {st : List Value} {o1 : Option Value} {o2 : Option Value} {o4 : Option Value} {o6 : Option Value} {x3 : Int32} {x5 : Int32} {i1 : Nat} {P2 : zMm → Prop} (hx1 : ((x3 * (nI 150)) + x5) = nI i1) (hi1 : i1 < mLn 6) (hd : 1 ≤ d) (hl : st.length ≤ 4) (hc : mC G (d - 1) ad M_Mo_put [(.ref (ad 50)), (.int (nI 0)), (.int (μ.2 6 i1))] μ (mPv P2)) (kk : ∀ μ1 : zMm, P2 μ1 → mW G d ad M_Mo_query 143 [some (.ref (ad 50)), o1, o2, some (.int x3), o4, some (.int x5), o6] st μ1 P) : mW G d ad M_Mo_query 125 [some (.ref (ad 50)), o1, o2, some (.int x3), o4, some (.int x5), o6] st μ P :=
  fun H0 H hM hm hu => zw_aload_n (i := 0) dMo_query_125 rfl rfl zRf_ref <| zw_iconst (nI 0) dMo_query_126 zki_0 <| zw_aload_n (i := 0) dMo_query_127 rfl rfl zRf_ref <| zw_getf dMo_query_128 zf_Mo_36 (hM.fa 6 (Nat.le_of_ble_eq_true rfl) mn_6) <| zw_iload_n (i := 3) dMo_query_131 rfl rfl <| zw_sipush (nI 150) dMo_query_132 zks_150 <| zw_imul dMo_query_135 <| zw_iload (i := 5) dMo_query_136 rfl <| zw_iadd dMo_query_138 <| zw_baldN (g := μ.2 6) dMo_query_139 (hM.ab mk_6) hx1 hi1 (mLn_le _) <| zw_callV [(.int (nI 0)), (.int (μ.2 6 i1))] _ dMo_query_140 hd zk_Mo_91 hM.is rfl rfl hl (hc H hM) (mPv_k kk hm hu)
theorem sMo_query_143 {G : zG} {d : Nat} {ad : Nat → Nat} {μ : zMm} {P : Option Value → zMm → Prop} {st : List Value} {o0 : Option Value} {o1 : Option Value} {o2 : Option Value} {o3 : Option Value} {o4 : Option Value} {o6 : Option Value} {x5 : Int32} (kk : mW G d ad M_Mo_query 114 [o0, o1, o2, o3, o4, some (.int (x5 + (nI 1))), o6] st μ P) : mW G d ad M_Mo_query 143 [o0, o1, o2, o3, o4, some (.int x5), o6] st μ P :=
  fun H0 H hM hm hu => zw_iinc (i := 5) (x5 + (nI 1)) dMo_query_143 rfl (congrArg (fun z => x5 + z) zki_1) <| zw_goto 114 dMo_query_146 (by decide) <| kk H0 H hM hm hu
theorem sMo_query_149 {G : zG} {d : Nat} {ad : Nat → Nat} {μ : zMm} {P : Option Value → zMm → Prop} {st : List Value} {o1 : Option Value} {o3 : Option Value} {o4 : Option Value} {o5 : Option Value} {o6 : Option Value} {x2 : Int32} (kt : (x2 ≤ (μ.1 15)) → mW G d ad M_Mo_query 257 [some (.ref (ad 50)), o1, some (.int x2), o3, o4, o5, o6] st μ P) (kf : (¬ x2 ≤ (μ.1 15)) → mW G d ad M_Mo_query 157 [some (.ref (ad 50)), o1, some (.int x2), o3, o4, o5, o6] st μ P) : mW G d ad M_Mo_query 149 [some (.ref (ad 50)), o1, some (.int x2), o3, o4, o5, o6] st μ P :=
  fun H0 H hM hm hu => zw_aload_n (i := 0) dMo_query_149 rfl rfl zRf_ref <| zw_getf dMo_query_150 zf_Mo_73 (hM.fi 15 (Nat.le_of_ble_eq_true rfl) mz_15) <| zw_iload_n (i := 2) dMo_query_153 rfl rfl <| zw_icmp_ge 257 dMo_query_154 (by decide) (fun h => kt h H0 H hM hm hu) (fun h => kf h H0 H hM hm hu)
theorem sMo_query_157 {G : zG} {d : Nat} {ad : Nat → Nat} {μ : zMm} {P : Option Value → zMm → Prop} {st : List Value} {o2 : Option Value} {o3 : Option Value} {o4 : Option Value} {o5 : Option Value} {o6 : Option Value} {k1 : Nat} {i1 : Nat} (hkk1 : mB k1) (hx1 : (μ.1 15) = nI i1) (hi1 : i1 < mLn k1) (kt : (¬ (μ.2 k1 i1) = (nI 35)) → mW G d ad M_Mo_query 257 [some (.ref (ad 50)), some (.ref (ad k1)), o2, o3, o4, o5, o6] st μ P) (kf : ((μ.2 k1 i1) = (nI 35)) → mW G d ad M_Mo_query 168 [some (.ref (ad 50)), some (.ref (ad k1)), o2, o3, o4, o5, o6] st μ P) : mW G d ad M_Mo_query 157 [some (.ref (ad 50)), some (.ref (ad k1)), o2, o3, o4, o5, o6] st μ P :=
  fun H0 H hM hm hu => zw_aload_n (i := 1) dMo_query_157 rfl rfl zRf_ref <| zw_aload_n (i := 0) dMo_query_158 rfl rfl zRf_ref <| zw_getf dMo_query_159 zf_Mo_73 (hM.fi 15 (Nat.le_of_ble_eq_true rfl) mz_15) <| zw_baldN (g := μ.2 k1) dMo_query_162 (hM.ab hkk1) hx1 hi1 (mLn_le _) <| zw_bipush (nI 35) dMo_query_163 zkb_35 <| zw_icmp_ne 257 dMo_query_165 (by decide) (fun h => kt h H0 H hM hm hu) (fun h => kf h H0 H hM hm hu)
theorem sMo_query_168 {G : zG} {d : Nat} {ad : Nat → Nat} {μ : zMm} {P : Option Value → zMm → Prop} {st : List Value} {o3 : Option Value} {o4 : Option Value} {o5 : Option Value} {o6 : Option Value} {aa1 : Nat} {x2 : Int32} {P2 : Int32 → zMm → Prop} (hd : 1 ≤ d) (hl : st.length ≤ 4) (hc : mC G (d - 1) ad M_Mo_nameEnd [(.ref aa1), (.int ((μ.1 15) + (nI 1))), (.int x2)] μ (mPi P2)) (kk : ∀ (r : Int32) (μ1 : zMm), P2 r μ1 → mW G d ad M_Mo_query 179 [some (.ref (ad 50)), some (.ref aa1), some (.int x2), o3, o4, o5, o6] ((.int r) :: st) μ1 P) : mW G d ad M_Mo_query 168 [some (.ref (ad 50)), some (.ref aa1), some (.int x2), o3, o4, o5, o6] st μ P :=
  fun H0 H hM hm hu => zw_aload_n (i := 1) dMo_query_168 rfl rfl zRf_ref <| zw_aload_n (i := 0) dMo_query_169 rfl rfl zRf_ref <| zw_getf dMo_query_170 zf_Mo_73 (hM.fi 15 (Nat.le_of_ble_eq_true rfl) mz_15) <| zw_iconst (nI 1) dMo_query_173 zki_1 <| zw_iadd dMo_query_174 <| zw_iload_n (i := 2) dMo_query_175 rfl rfl <| zw_callS [(.ref aa1), (.int ((μ.1 15) + (nI 1))), (.int x2)] _ dMo_query_176 hd zk_Mo_87 rfl rfl hl (hc H hM) (mPi_k kk hm hu)
theorem sMo_query_179 {G : zG} {d : Nat} {ad : Nat → Nat} {μ : zMm} {P : Option Value → zMm → Prop} {st : List Value} {o1 : Option Value} {o2 : Option Value} {o3 : Option Value} {o4 : Option Value} {o5 : Option Value} {o6 : Option Value} {xs0 : Int32} (kt : (¬ xs0 = ((μ.1 15) + (nI 1))) → mW G d ad M_Mo_query 194 [some (.ref (ad 50)), o1, o2, o3, o4, some (.int xs0), o6] st μ P) (kf : (xs0 = ((μ.1 15) + (nI 1))) → mW G d ad M_Mo_query 192 [some (.ref (ad 50)), o1, o2, o3, o4, some (.int xs0), o6] st μ P) : mW G d ad M_Mo_query 179 [some (.ref (ad 50)), o1, o2, o3, o4, o5, o6] ((.int xs0) :: st) μ P :=
  fun H0 H hM hm hu => zw_istore (i := 5) dMo_query_179 (Nat.le_of_ble_eq_true rfl) <| zw_iload (i := 5) dMo_query_181 rfl <| zw_aload_n (i := 0) dMo_query_183 rfl rfl zRf_ref <| zw_getf dMo_query_184 zf_Mo_73 (hM.fi 15 (Nat.le_of_ble_eq_true rfl) mz_15) <| zw_iconst (nI 1) dMo_query_187 zki_1 <| zw_iadd dMo_query_188 <| zw_icmp_ne 194 dMo_query_189 (by decide) (fun h => kt h H0 H hM hm hu) (fun h => kf h H0 H hM hm hu)
theorem sMo_query_192 {G : zG} {d : Nat} {ad : Nat → Nat} {μ : zMm} {P : Option Value → zMm → Prop} {o0 : Option Value} {o1 : Option Value} {o2 : Option Value} {o3 : Option Value} {o4 : Option Value} {o5 : Option Value} {o6 : Option Value} (hn : narrow .boolean (.int (nI 0)) = .int (nI 0)) (hq : P (some (.int (nI 0))) μ) : mW G d ad M_Mo_query 192 [o0, o1, o2, o3, o4, o5, o6] [] μ P :=
  fun H0 H hM hm hu => zw_iconst (nI 0) dMo_query_192 zki_0 <| zw_iret dMo_query_193 .boolean rfl hn ⟨μ, hq, hM, hm, hu⟩
theorem sMo_query_194 {G : zG} {d : Nat} {ad : Nat → Nat} {μ : zMm} {P : Option Value → zMm → Prop} {st : List Value} {o1 : Option Value} {o2 : Option Value} {o3 : Option Value} {o4 : Option Value} {o6 : Option Value} {x5 : Int32} {i : Nat} (hx : (nI 0) = nI i) (hi : i < mLn 8) (kk : mW G d ad M_Mo_query 209 [some (.ref (ad 50)), o1, o2, o3, o4, some (.int x5), o6] st (μ.1, updA μ.2 8 i ((x5 - (μ.1 15)) - (nI 1))) P) : mW G d ad M_Mo_query 194 [some (.ref (ad 50)), o1, o2, o3, o4, some (.int x5), o6] st μ P :=
  fun H0 H hM hm hu => zw_aload_n (i := 0) dMo_query_194 rfl rfl zRf_ref <| zw_getf dMo_query_195 zf_Mo_43 (hM.fa 8 (Nat.le_of_ble_eq_true rfl) mn_8) <| zw_iconst (nI 0) dMo_query_198 zki_0 <| zw_iload (i := 5) dMo_query_199 rfl <| zw_aload_n (i := 0) dMo_query_201 rfl rfl zRf_ref <| zw_getf dMo_query_202 zf_Mo_73 (hM.fi 15 (Nat.le_of_ble_eq_true rfl) mz_15) <| zw_isub dMo_query_205 <| zw_iconst (nI 1) dMo_query_206 zki_1 <| zw_isub dMo_query_207 <| (mw_iast (M := M_Mo_query) (pc := 208) (k := 8) dMo_query_208 mk_8 hx hi kk) H0 H hM hm hu
theorem sMo_query_209 {G : zG} {d : Nat} {ad : Nat → Nat} {μ : zMm} {P : Option Value → zMm → Prop} {st : List Value} {o0 : Option Value} {o1 : Option Value} {o2 : Option Value} {o3 : Option Value} {o4 : Option Value} {o5 : Option Value} {o6 : Option Value} (kk : mW G d ad M_Mo_query 212 [o0, o1, o2, o3, o4, o5, some (.int (nI 0))] st μ P) : mW G d ad M_Mo_query 209 [o0, o1, o2, o3, o4, o5, o6] st μ P :=
  fun H0 H hM hm hu => zw_iconst (nI 0) dMo_query_209 zki_0 <| zw_istore (i := 6) dMo_query_210 (Nat.le_of_ble_eq_true rfl) <| kk H0 H hM hm hu
theorem sMo_query_212 {G : zG} {d : Nat} {ad : Nat → Nat} {μ : zMm} {P : Option Value → zMm → Prop} {st : List Value} {o1 : Option Value} {o2 : Option Value} {o3 : Option Value} {o4 : Option Value} {o5 : Option Value} {x6 : Int32} {i1 : Nat} (hx1 : (nI 0) = nI i1) (hi1 : i1 < mLn 8) (kt : ((μ.2 8 i1) ≤ x6) → mW G d ad M_Mo_query 251 [some (.ref (ad 50)), o1, o2, o3, o4, o5, some (.int x6)] st μ P) (kf : (¬ (μ.2 8 i1) ≤ x6) → mW G d ad M_Mo_query 223 [some (.ref (ad 50)), o1, o2, o3, o4, o5, some (.int x6)] st μ P) : mW G d ad M_Mo_query 212 [some (.ref (ad 50)), o1, o2, o3, o4, o5, some (.int x6)] st μ P :=
  fun H0 H hM hm hu => zw_iload (i := 6) dMo_query_212 rfl <| zw_aload_n (i := 0) dMo_query_214 rfl rfl zRf_ref <| zw_getf dMo_query_215 zf_Mo_43 (hM.fa 8 (Nat.le_of_ble_eq_true rfl) mn_8) <| zw_iconst (nI 0) dMo_query_218 zki_0 <| zw_ialdN (g := μ.2 8) dMo_query_219 (hM.ai mk_8) hx1 hi1 (mLn_le _) <| zw_icmp_ge 251 dMo_query_220 (by decide) (fun h => kt h H0 H hM hm hu) (fun h => kf h H0 H hM hm hu)
theorem sMo_query_223 {G : zG} {d : Nat} {ad : Nat → Nat} {μ : zMm} {P : Option Value → zMm → Prop} {st : List Value} {o2 : Option Value} {o3 : Option Value} {o4 : Option Value} {o5 : Option Value} {x6 : Int32} {k1 : Nat} {i1 : Nat} {i : Nat} (hkk1 : mB k1) (hx1 : (((μ.1 15) + (nI 1)) + x6) = nI i1) (hi1 : i1 < mLn k1) (hx : ((nI 135) + x6) = nI i) (hi : i < mLn 6) (kk : mW G d ad M_Mo_query 245 [some (.ref (ad 50)), some (.ref (ad k1)), o2, o3, o4, o5, some (.int x6)] st (μ.1, updA μ.2 6 i ((μ.2 k1 i1)).toInt8.toInt32) P) : mW G d ad M_Mo_query 223 [some (.ref (ad 50)), some (.ref (ad k1)), o2, o3, o4, o5, some (.int x6)] st μ P :=
  fun H0 H hM hm hu => zw_aload_n (i := 0) dMo_query_223 rfl rfl zRf_ref <| zw_getf dMo_query_224 zf_Mo_36 (hM.fa 6 (Nat.le_of_ble_eq_true rfl) mn_6) <| zw_sipush (nI 135) dMo_query_227 zks_135 <| zw_iload (i := 6) dMo_query_230 rfl <| zw_iadd dMo_query_232 <| zw_aload_n (i := 1) dMo_query_233 rfl rfl zRf_ref <| zw_aload_n (i := 0) dMo_query_234 rfl rfl zRf_ref <| zw_getf dMo_query_235 zf_Mo_73 (hM.fi 15 (Nat.le_of_ble_eq_true rfl) mz_15) <| zw_iconst (nI 1) dMo_query_238 zki_1 <| zw_iadd dMo_query_239 <| zw_iload (i := 6) dMo_query_240 rfl <| zw_iadd dMo_query_242 <| zw_baldN (g := μ.2 k1) dMo_query_243 (hM.ab hkk1) hx1 hi1 (mLn_le _) <| (mw_bast (M := M_Mo_query) (pc := 244) (k := 6) dMo_query_244 mk_6 hx hi kk) H0 H hM hm hu
theorem sMo_query_245 {G : zG} {d : Nat} {ad : Nat → Nat} {μ : zMm} {P : Option Value → zMm → Prop} {st : List Value} {o0 : Option Value} {o1 : Option Value} {o2 : Option Value} {o3 : Option Value} {o4 : Option Value} {o5 : Option Value} {x6 : Int32} (kk : mW G d ad M_Mo_query 212 [o0, o1, o2, o3, o4, o5, some (.int (x6 + (nI 1)))] st μ P) : mW G d ad M_Mo_query 245 [o0, o1, o2, o3, o4, o5, some (.int x6)] st μ P :=
  fun H0 H hM hm hu => zw_iinc (i := 6) (x6 + (nI 1)) dMo_query_245 rfl (congrArg (fun z => x6 + z) zki_1) <| zw_goto 212 dMo_query_248 (by decide) <| kk H0 H hM hm hu
theorem sMo_query_251 {G : zG} {d : Nat} {ad : Nat → Nat} {μ : zMm} {P : Option Value → zMm → Prop} {st : List Value} {o1 : Option Value} {o2 : Option Value} {o3 : Option Value} {o4 : Option Value} {o6 : Option Value} {x5 : Int32} (kk : mW G d ad M_Mo_query 257 [some (.ref (ad 50)), o1, o2, o3, o4, some (.int x5), o6] st (upd μ.1 15 x5, μ.2) P) : mW G d ad M_Mo_query 251 [some (.ref (ad 50)), o1, o2, o3, o4, some (.int x5), o6] st μ P :=
  fun H0 H hM hm hu => zw_aload_n (i := 0) dMo_query_251 rfl rfl zRf_ref <| zw_iload (i := 5) dMo_query_252 rfl <| (mw_puti (M := M_Mo_query) (pc := 254) (k := 15) (v := x5) dMo_query_254 zp_Mo_query_73 (Nat.le_of_ble_eq_true rfl) mz_15 rfl rfl kk) H0 H hM hm hu
theorem sMo_query_257 {G : zG} {d : Nat} {ad : Nat → Nat} {μ : zMm} {P : Option Value → zMm → Prop} {st : List Value} {o1 : Option Value} {o3 : Option Value} {o4 : Option Value} {o5 : Option Value} {o6 : Option Value} {x2 : Int32} (kt : (¬ (μ.1 15) = x2) → mW G d ad M_Mo_query 269 [some (.ref (ad 50)), o1, some (.int x2), o3, o4, o5, o6] st μ P) (kf : ((μ.1 15) = x2) → mW G d ad M_Mo_query 265 [some (.ref (ad 50)), o1, some (.int x2), o3, o4, o5, o6] st μ P) : mW G d ad M_Mo_query 257 [some (.ref (ad 50)), o1, some (.int x2), o3, o4, o5, o6] st μ P :=
  fun H0 H hM hm hu => zw_aload_n (i := 0) dMo_query_257 rfl rfl zRf_ref <| zw_getf dMo_query_258 zf_Mo_73 (hM.fi 15 (Nat.le_of_ble_eq_true rfl) mz_15) <| zw_iload_n (i := 2) dMo_query_261 rfl rfl <| zw_icmp_ne 269 dMo_query_262 (by decide) (fun h => kt h H0 H hM hm hu) (fun h => kf h H0 H hM hm hu)
theorem sMo_query_265 {G : zG} {d : Nat} {ad : Nat → Nat} {μ : zMm} {P : Option Value → zMm → Prop} {o0 : Option Value} {o1 : Option Value} {o2 : Option Value} {o3 : Option Value} {o4 : Option Value} {o5 : Option Value} {o6 : Option Value} (hn : narrow .boolean (.int (nI 1)) = .int (nI 1)) (hq : P (some (.int (nI 1))) μ) : mW G d ad M_Mo_query 265 [o0, o1, o2, o3, o4, o5, o6] [] μ P :=
  fun H0 H hM hm hu => zw_iconst (nI 1) dMo_query_265 zki_1 <| zw_goto 270 dMo_query_266 (by decide) <| zw_iret dMo_query_270 .boolean rfl hn ⟨μ, hq, hM, hm, hu⟩
theorem sMo_query_269 {G : zG} {d : Nat} {ad : Nat → Nat} {μ : zMm} {P : Option Value → zMm → Prop} {o0 : Option Value} {o1 : Option Value} {o2 : Option Value} {o3 : Option Value} {o4 : Option Value} {o5 : Option Value} {o6 : Option Value} (hn : narrow .boolean (.int (nI 0)) = .int (nI 0)) (hq : P (some (.int (nI 0))) μ) : mW G d ad M_Mo_query 269 [o0, o1, o2, o3, o4, o5, o6] [] μ P :=
  fun H0 H hM hm hu => zw_iconst (nI 0) dMo_query_269 zki_0 <| zw_iret dMo_query_270 .boolean rfl hn ⟨μ, hq, hM, hm, hu⟩
theorem sMo_query_270 {G : zG} {d : Nat} {ad : Nat → Nat} {μ : zMm} {P : Option Value → zMm → Prop} {o0 : Option Value} {o1 : Option Value} {o2 : Option Value} {o3 : Option Value} {o4 : Option Value} {o5 : Option Value} {o6 : Option Value} {xs0 : Int32} (hn : narrow .boolean (.int xs0) = .int xs0) (hq : P (some (.int xs0)) μ) : mW G d ad M_Mo_query 270 [o0, o1, o2, o3, o4, o5, o6] ((.int xs0) :: []) μ P :=
  fun H0 H hM hm hu => zw_iret dMo_query_270 .boolean rfl hn ⟨μ, hq, hM, hm, hu⟩
theorem sMo_isQuery_0 {G : zG} {d : Nat} {ad : Nat → Nat} {μ : zMm} {P : Option Value → zMm → Prop} {st : List Value} {x0 : Int32} {P2 : Int32 → zMm → Prop} (hd : 1 ≤ d) (hl : st.length ≤ 4) (hc : mC G (d - 1) ad M_Mo_isSegment [(.int x0)] μ (mPi P2)) (kk : ∀ (r : Int32) (μ1 : zMm), P2 r μ1 → mW G d ad M_Mo_isQuery 4 [some (.int x0)] ((.int r) :: st) μ1 P) : mW G d ad M_Mo_isQuery 0 [some (.int x0)] st μ P :=
  fun H0 H hM hm hu => zw_iload_n (i := 0) dMo_isQuery_0 rfl rfl <| zw_callS [(.int x0)] _ dMo_isQuery_1 hd zk_Mo_54 rfl rfl hl (hc H hM) (mPi_k kk hm hu)
theorem sMo_isQuery_4 {G : zG} {d : Nat} {ad : Nat → Nat} {μ : zMm} {P : Option Value → zMm → Prop} {st : List Value} {o0 : Option Value} {xs0 : Int32} (kt : (¬ xs0 = 0) → mW G d ad M_Mo_isQuery 25 [o0] st μ P) (kf : (xs0 = 0) → mW G d ad M_Mo_isQuery 7 [o0] st μ P) : mW G d ad M_Mo_isQuery 4 [o0] ((.int xs0) :: st) μ P :=
  fun H0 H hM hm hu => zw_if_ne 25 dMo_isQuery_4 (by decide) (fun h => kt h H0 H hM hm hu) (fun h => kf h H0 H hM hm hu)
theorem sMo_isQuery_7 {G : zG} {d : Nat} {ad : Nat → Nat} {μ : zMm} {P : Option Value → zMm → Prop} {st : List Value} {x0 : Int32} (kt : (x0 = (nI 61)) → mW G d ad M_Mo_isQuery 25 [some (.int x0)] st μ P) (kf : (¬ x0 = (nI 61)) → mW G d ad M_Mo_isQuery 13 [some (.int x0)] st μ P) : mW G d ad M_Mo_isQuery 7 [some (.int x0)] st μ P :=
  fun H0 H hM hm hu => zw_iload_n (i := 0) dMo_isQuery_7 rfl rfl <| zw_bipush (nI 61) dMo_isQuery_8 zkb_61 <| zw_icmp_eq 25 dMo_isQuery_10 (by decide) (fun h => kt h H0 H hM hm hu) (fun h => kf h H0 H hM hm hu)
theorem sMo_isQuery_13 {G : zG} {d : Nat} {ad : Nat → Nat} {μ : zMm} {P : Option Value → zMm → Prop} {st : List Value} {x0 : Int32} (kt : (x0 = (nI 38)) → mW G d ad M_Mo_isQuery 25 [some (.int x0)] st μ P) (kf : (¬ x0 = (nI 38)) → mW G d ad M_Mo_isQuery 19 [some (.int x0)] st μ P) : mW G d ad M_Mo_isQuery 13 [some (.int x0)] st μ P :=
  fun H0 H hM hm hu => zw_iload_n (i := 0) dMo_isQuery_13 rfl rfl <| zw_bipush (nI 38) dMo_isQuery_14 zkb_38 <| zw_icmp_eq 25 dMo_isQuery_16 (by decide) (fun h => kt h H0 H hM hm hu) (fun h => kf h H0 H hM hm hu)
theorem sMo_isQuery_19 {G : zG} {d : Nat} {ad : Nat → Nat} {μ : zMm} {P : Option Value → zMm → Prop} {st : List Value} {x0 : Int32} (kt : (¬ x0 = (nI 43)) → mW G d ad M_Mo_isQuery 29 [some (.int x0)] st μ P) (kf : (x0 = (nI 43)) → mW G d ad M_Mo_isQuery 25 [some (.int x0)] st μ P) : mW G d ad M_Mo_isQuery 19 [some (.int x0)] st μ P :=
  fun H0 H hM hm hu => zw_iload_n (i := 0) dMo_isQuery_19 rfl rfl <| zw_bipush (nI 43) dMo_isQuery_20 zkb_43 <| zw_icmp_ne 29 dMo_isQuery_22 (by decide) (fun h => kt h H0 H hM hm hu) (fun h => kf h H0 H hM hm hu)
theorem sMo_isQuery_25 {G : zG} {d : Nat} {ad : Nat → Nat} {μ : zMm} {P : Option Value → zMm → Prop} {o0 : Option Value} (hn : narrow .boolean (.int (nI 1)) = .int (nI 1)) (hq : P (some (.int (nI 1))) μ) : mW G d ad M_Mo_isQuery 25 [o0] [] μ P :=
  fun H0 H hM hm hu => zw_iconst (nI 1) dMo_isQuery_25 zki_1 <| zw_goto 30 dMo_isQuery_26 (by decide) <| zw_iret dMo_isQuery_30 .boolean rfl hn ⟨μ, hq, hM, hm, hu⟩
theorem sMo_isQuery_29 {G : zG} {d : Nat} {ad : Nat → Nat} {μ : zMm} {P : Option Value → zMm → Prop} {o0 : Option Value} (hn : narrow .boolean (.int (nI 0)) = .int (nI 0)) (hq : P (some (.int (nI 0))) μ) : mW G d ad M_Mo_isQuery 29 [o0] [] μ P :=
  fun H0 H hM hm hu => zw_iconst (nI 0) dMo_isQuery_29 zki_0 <| zw_iret dMo_isQuery_30 .boolean rfl hn ⟨μ, hq, hM, hm, hu⟩
theorem sMo_isQuery_30 {G : zG} {d : Nat} {ad : Nat → Nat} {μ : zMm} {P : Option Value → zMm → Prop} {o0 : Option Value} {xs0 : Int32} (hn : narrow .boolean (.int xs0) = .int xs0) (hq : P (some (.int xs0)) μ) : mW G d ad M_Mo_isQuery 30 [o0] ((.int xs0) :: []) μ P :=
  fun H0 H hM hm hu => zw_iret dMo_isQuery_30 .boolean rfl hn ⟨μ, hq, hM, hm, hu⟩
theorem sMo_copyRow_0 {G : zG} {d : Nat} {ad : Nat → Nat} {μ : zMm} {P : Option Value → zMm → Prop} {st : List Value} {o0 : Option Value} {o1 : Option Value} {o2 : Option Value} {o3 : Option Value} (kk : mW G d ad M_Mo_copyRow 2 [o0, o1, o2, some (.int (nI 0))] st μ P) : mW G d ad M_Mo_copyRow 0 [o0, o1, o2, o3] st μ P :=
  fun H0 H hM hm hu => zw_iconst (nI 0) dMo_copyRow_0 zki_0 <| zw_istore_n (i := 3) dMo_copyRow_1 rfl (Nat.le_of_ble_eq_true rfl) <| kk H0 H hM hm hu
theorem sMo_copyRow_2 {G : zG} {d : Nat} {ad : Nat → Nat} {μ : zMm} {P : Option Value → zMm → Prop} {st : List Value} {o0 : Option Value} {o1 : Option Value} {o2 : Option Value} {x3 : Int32} (kt : ((nI 150) ≤ x3) → mW G d ad M_Mo_copyRow 39 [o0, o1, o2, some (.int x3)] st μ P) (kf : (¬ (nI 150) ≤ x3) → mW G d ad M_Mo_copyRow 9 [o0, o1, o2, some (.int x3)] st μ P) : mW G d ad M_Mo_copyRow 2 [o0, o1, o2, some (.int x3)] st μ P :=
  fun H0 H hM hm hu => zw_iload_n (i := 3) dMo_copyRow_2 rfl rfl <| zw_sipush (nI 150) dMo_copyRow_3 zks_150 <| zw_icmp_ge 39 dMo_copyRow_6 (by decide) (fun h => kt h H0 H hM hm hu) (fun h => kf h H0 H hM hm hu)
theorem sMo_copyRow_9 {G : zG} {d : Nat} {ad : Nat → Nat} {μ : zMm} {P : Option Value → zMm → Prop} {st : List Value} {x1 : Int32} {x3 : Int32} {x2 : Int32} {i1 : Nat} {i : Nat} (hx1 : ((x2 * (nI 150)) + x3) = nI i1) (hi1 : i1 < mLn 6) (hx : ((x1 * (nI 150)) + x3) = nI i) (hi : i < mLn 6) (kk : mW G d ad M_Mo_copyRow 33 [some (.ref (ad 50)), some (.int x1), some (.int x2), some (.int x3)] st (μ.1, updA μ.2 6 i ((μ.2 6 i1)).toInt8.toInt32) P) : mW G d ad M_Mo_copyRow 9 [some (.ref (ad 50)), some (.int x1), some (.int x2), some (.int x3)] st μ P :=
  fun H0 H hM hm hu => zw_aload_n (i := 0) dMo_copyRow_9 rfl rfl zRf_ref <| zw_getf dMo_copyRow_10 zf_Mo_36 (hM.fa 6 (Nat.le_of_ble_eq_true rfl) mn_6) <| zw_iload_n (i := 1) dMo_copyRow_13 rfl rfl <| zw_sipush (nI 150) dMo_copyRow_14 zks_150 <| zw_imul dMo_copyRow_17 <| zw_iload_n (i := 3) dMo_copyRow_18 rfl rfl <| zw_iadd dMo_copyRow_19 <| zw_aload_n (i := 0) dMo_copyRow_20 rfl rfl zRf_ref <| zw_getf dMo_copyRow_21 zf_Mo_36 (hM.fa 6 (Nat.le_of_ble_eq_true rfl) mn_6) <| zw_iload_n (i := 2) dMo_copyRow_24 rfl rfl <| zw_sipush (nI 150) dMo_copyRow_25 zks_150 <| zw_imul dMo_copyRow_28 <| zw_iload_n (i := 3) dMo_copyRow_29 rfl rfl <| zw_iadd dMo_copyRow_30 <| zw_baldN (g := μ.2 6) dMo_copyRow_31 (hM.ab mk_6) hx1 hi1 (mLn_le _) <| (mw_bast (M := M_Mo_copyRow) (pc := 32) (k := 6) dMo_copyRow_32 mk_6 hx hi kk) H0 H hM hm hu
theorem sMo_copyRow_33 {G : zG} {d : Nat} {ad : Nat → Nat} {μ : zMm} {P : Option Value → zMm → Prop} {st : List Value} {o0 : Option Value} {o1 : Option Value} {o2 : Option Value} {x3 : Int32} (kk : mW G d ad M_Mo_copyRow 2 [o0, o1, o2, some (.int (x3 + (nI 1)))] st μ P) : mW G d ad M_Mo_copyRow 33 [o0, o1, o2, some (.int x3)] st μ P :=
  fun H0 H hM hm hu => zw_iinc (i := 3) (x3 + (nI 1)) dMo_copyRow_33 rfl (congrArg (fun z => x3 + z) zki_1) <| zw_goto 2 dMo_copyRow_36 (by decide) <| kk H0 H hM hm hu
theorem sMo_copyRow_39 {G : zG} {d : Nat} {ad : Nat → Nat} {μ : zMm} {P : Option Value → zMm → Prop} {st : List Value} {o3 : Option Value} {x1 : Int32} {x2 : Int32} {i1 : Nat} {i : Nat} (hx1 : x2 = nI i1) (hi1 : i1 < mLn 7) (hx : x1 = nI i) (hi : i < mLn 7) (kk : mW G d ad M_Mo_copyRow 51 [some (.ref (ad 50)), some (.int x1), some (.int x2), o3] st (μ.1, updA μ.2 7 i (μ.2 7 i1)) P) : mW G d ad M_Mo_copyRow 39 [some (.ref (ad 50)), some (.int x1), some (.int x2), o3] st μ P :=
  fun H0 H hM hm hu => zw_aload_n (i := 0) dMo_copyRow_39 rfl rfl zRf_ref <| zw_getf dMo_copyRow_40 zf_Mo_39 (hM.fa 7 (Nat.le_of_ble_eq_true rfl) mn_7) <| zw_iload_n (i := 1) dMo_copyRow_43 rfl rfl <| zw_aload_n (i := 0) dMo_copyRow_44 rfl rfl zRf_ref <| zw_getf dMo_copyRow_45 zf_Mo_39 (hM.fa 7 (Nat.le_of_ble_eq_true rfl) mn_7) <| zw_iload_n (i := 2) dMo_copyRow_48 rfl rfl <| zw_ialdN (g := μ.2 7) dMo_copyRow_49 (hM.ai mk_7) hx1 hi1 (mLn_le _) <| (mw_iast (M := M_Mo_copyRow) (pc := 50) (k := 7) dMo_copyRow_50 mk_7 hx hi kk) H0 H hM hm hu
theorem sMo_copyRow_51 {G : zG} {d : Nat} {ad : Nat → Nat} {μ : zMm} {P : Option Value → zMm → Prop} {st : List Value} {o3 : Option Value} {x1 : Int32} {x2 : Int32} {i1 : Nat} {i : Nat} (hx1 : x2 = nI i1) (hi1 : i1 < mLn 8) (hx : x1 = nI i) (hi : i < mLn 8) (kk : mW G d ad M_Mo_copyRow 63 [some (.ref (ad 50)), some (.int x1), some (.int x2), o3] st (μ.1, updA μ.2 8 i (μ.2 8 i1)) P) : mW G d ad M_Mo_copyRow 51 [some (.ref (ad 50)), some (.int x1), some (.int x2), o3] st μ P :=
  fun H0 H hM hm hu => zw_aload_n (i := 0) dMo_copyRow_51 rfl rfl zRf_ref <| zw_getf dMo_copyRow_52 zf_Mo_43 (hM.fa 8 (Nat.le_of_ble_eq_true rfl) mn_8) <| zw_iload_n (i := 1) dMo_copyRow_55 rfl rfl <| zw_aload_n (i := 0) dMo_copyRow_56 rfl rfl zRf_ref <| zw_getf dMo_copyRow_57 zf_Mo_43 (hM.fa 8 (Nat.le_of_ble_eq_true rfl) mn_8) <| zw_iload_n (i := 2) dMo_copyRow_60 rfl rfl <| zw_ialdN (g := μ.2 8) dMo_copyRow_61 (hM.ai mk_8) hx1 hi1 (mLn_le _) <| (mw_iast (M := M_Mo_copyRow) (pc := 62) (k := 8) dMo_copyRow_62 mk_8 hx hi kk) H0 H hM hm hu
theorem sMo_copyRow_63 {G : zG} {d : Nat} {ad : Nat → Nat} {μ : zMm} {P : Option Value → zMm → Prop} {o0 : Option Value} {o1 : Option Value} {o2 : Option Value} {o3 : Option Value} (hq : P none μ) : mW G d ad M_Mo_copyRow 63 [o0, o1, o2, o3] [] μ P :=
  fun H0 H hM hm hu => zw_vret dMo_copyRow_63 rfl ⟨μ, hq, hM, hm, hu⟩
theorem sMo_field_0 {G : zG} {d : Nat} {ad : Nat → Nat} {μ : zMm} {P : Option Value → zMm → Prop} {st : List Value} {o0 : Option Value} {o3 : Option Value} {o4 : Option Value} {o5 : Option Value} {o6 : Option Value} {o7 : Option Value} {x2 : Int32} {x1 : Int32} (kt : (¬ (x2 - x1) = (nI 4)) → mW G d ad M_Mo_field 46 [o0, some (.int x1), some (.int x2), o3, o4, o5, o6, o7] st μ P) (kf : ((x2 - x1) = (nI 4)) → mW G d ad M_Mo_field 7 [o0, some (.int x1), some (.int x2), o3, o4, o5, o6, o7] st μ P) : mW G d ad M_Mo_field 0 [o0, some (.int x1), some (.int x2), o3, o4, o5, o6, o7] st μ P :=
  fun H0 H hM hm hu => zw_iload_n (i := 2) dMo_field_0 rfl rfl <| zw_iload_n (i := 1) dMo_field_1 rfl rfl <| zw_isub dMo_field_2 <| zw_iconst (nI 4) dMo_field_3 zki_4 <| zw_icmp_ne 46 dMo_field_4 (by decide) (fun h => kt h H0 H hM hm hu) (fun h => kf h H0 H hM hm hu)
theorem sMo_field_7 {G : zG} {d : Nat} {ad : Nat → Nat} {μ : zMm} {P : Option Value → zMm → Prop} {st : List Value} {o3 : Option Value} {o4 : Option Value} {o5 : Option Value} {o6 : Option Value} {o7 : Option Value} {x1 : Int32} {x2 : Int32} (kk : mW G d ad M_Mo_field 13 [some (.ref (ad 50)), some (.int x1), some (.int x2), o3, o4, o5, o6, o7] ((.int x2) :: (.int x1) :: (.ref (ad 2)) :: st) μ P) : mW G d ad M_Mo_field 7 [some (.ref (ad 50)), some (.int x1), some (.int x2), o3, o4, o5, o6, o7] st μ P :=
  fun H0 H hM hm hu => zw_aload_n (i := 0) dMo_field_7 rfl rfl zRf_ref <| zw_getf dMo_field_8 zf_Mo_21 (hM.fa 2 (Nat.le_of_ble_eq_true rfl) mn_2) <| zw_iload_n (i := 1) dMo_field_11 rfl rfl <| zw_iload_n (i := 2) dMo_field_12 rfl rfl <| kk H0 H hM hm hu
theorem sMo_field_19 {G : zG} {d : Nat} {ad : Nat → Nat} {μ : zMm} {P : Option Value → zMm → Prop} {st : List Value} {o0 : Option Value} {o1 : Option Value} {o2 : Option Value} {o3 : Option Value} {o4 : Option Value} {o5 : Option Value} {o6 : Option Value} {o7 : Option Value} {xs0 : Int32} (kt : (xs0 = 0) → mW G d ad M_Mo_field 46 [o0, o1, o2, o3, o4, o5, o6, o7] st μ P) (kf : (¬ xs0 = 0) → mW G d ad M_Mo_field 22 [o0, o1, o2, o3, o4, o5, o6, o7] st μ P) : mW G d ad M_Mo_field 19 [o0, o1, o2, o3, o4, o5, o6, o7] ((.int xs0) :: st) μ P :=
  fun H0 H hM hm hu => zw_if_eq 46 dMo_field_19 (by decide) (fun h => kt h H0 H hM hm hu) (fun h => kf h H0 H hM hm hu)
theorem sMo_field_22 {G : zG} {d : Nat} {ad : Nat → Nat} {μ : zMm} {P : Option Value → zMm → Prop} {st : List Value} {o1 : Option Value} {o2 : Option Value} {o3 : Option Value} {o4 : Option Value} {o5 : Option Value} {o6 : Option Value} {o7 : Option Value} (kk : mW G d ad M_Mo_field 32 [some (.ref (ad 50)), o1, o2, o3, o4, o5, o6, o7] st (upd μ.1 42 ((μ.1 42) + (nI 1)), μ.2) P) : mW G d ad M_Mo_field 22 [some (.ref (ad 50)), o1, o2, o3, o4, o5, o6, o7] st μ P :=
  fun H0 H hM hm hu => zw_aload_n (i := 0) dMo_field_22 rfl rfl zRf_ref <| zw_dup dMo_field_23 rfl <| zw_getf dMo_field_24 zf_Mo_120 (hM.fi 42 (Nat.le_of_ble_eq_true rfl) mz_42) <| zw_iconst (nI 1) dMo_field_27 zki_1 <| zw_iadd dMo_field_28 <| (mw_puti (M := M_Mo_field) (pc := 29) (k := 42) (v := ((μ.1 42) + (nI 1))) dMo_field_29 zp_Mo_field_120 (Nat.le_of_ble_eq_true rfl) mz_42 rfl rfl kk) H0 H hM hm hu
theorem sMo_field_32 {G : zG} {d : Nat} {ad : Nat → Nat} {μ : zMm} {P : Option Value → zMm → Prop} {st : List Value} {o1 : Option Value} {o2 : Option Value} {o3 : Option Value} {o4 : Option Value} {o5 : Option Value} {o6 : Option Value} {o7 : Option Value} (kt : (¬ (μ.1 42) = (nI 1)) → mW G d ad M_Mo_field 44 [some (.ref (ad 50)), o1, o2, o3, o4, o5, o6, o7] st μ P) (kf : ((μ.1 42) = (nI 1)) → mW G d ad M_Mo_field 40 [some (.ref (ad 50)), o1, o2, o3, o4, o5, o6, o7] st μ P) : mW G d ad M_Mo_field 32 [some (.ref (ad 50)), o1, o2, o3, o4, o5, o6, o7] st μ P :=
  fun H0 H hM hm hu => zw_aload_n (i := 0) dMo_field_32 rfl rfl zRf_ref <| zw_getf dMo_field_33 zf_Mo_120 (hM.fi 42 (Nat.le_of_ble_eq_true rfl) mz_42) <| zw_iconst (nI 1) dMo_field_36 zki_1 <| zw_icmp_ne 44 dMo_field_37 (by decide) (fun h => kt h H0 H hM hm hu) (fun h => kf h H0 H hM hm hu)
theorem sMo_field_40 {G : zG} {d : Nat} {ad : Nat → Nat} {μ : zMm} {P : Option Value → zMm → Prop} {o0 : Option Value} {o1 : Option Value} {o2 : Option Value} {o3 : Option Value} {o4 : Option Value} {o5 : Option Value} {o6 : Option Value} {o7 : Option Value} (hn : narrow .boolean (.int (nI 1)) = .int (nI 1)) (hq : P (some (.int (nI 1))) μ) : mW G d ad M_Mo_field 40 [o0, o1, o2, o3, o4, o5, o6, o7] [] μ P :=
  fun H0 H hM hm hu => zw_iconst (nI 1) dMo_field_40 zki_1 <| zw_goto 45 dMo_field_41 (by decide) <| zw_iret dMo_field_45 .boolean rfl hn ⟨μ, hq, hM, hm, hu⟩
theorem sMo_field_44 {G : zG} {d : Nat} {ad : Nat → Nat} {μ : zMm} {P : Option Value → zMm → Prop} {o0 : Option Value} {o1 : Option Value} {o2 : Option Value} {o3 : Option Value} {o4 : Option Value} {o5 : Option Value} {o6 : Option Value} {o7 : Option Value} (hn : narrow .boolean (.int (nI 0)) = .int (nI 0)) (hq : P (some (.int (nI 0))) μ) : mW G d ad M_Mo_field 44 [o0, o1, o2, o3, o4, o5, o6, o7] [] μ P :=
  fun H0 H hM hm hu => zw_iconst (nI 0) dMo_field_44 zki_0 <| zw_iret dMo_field_45 .boolean rfl hn ⟨μ, hq, hM, hm, hu⟩
theorem sMo_field_45 {G : zG} {d : Nat} {ad : Nat → Nat} {μ : zMm} {P : Option Value → zMm → Prop} {o0 : Option Value} {o1 : Option Value} {o2 : Option Value} {o3 : Option Value} {o4 : Option Value} {o5 : Option Value} {o6 : Option Value} {o7 : Option Value} {xs0 : Int32} (hn : narrow .boolean (.int xs0) = .int xs0) (hq : P (some (.int xs0)) μ) : mW G d ad M_Mo_field 45 [o0, o1, o2, o3, o4, o5, o6, o7] ((.int xs0) :: []) μ P :=
  fun H0 H hM hm hu => zw_iret dMo_field_45 .boolean rfl hn ⟨μ, hq, hM, hm, hu⟩
theorem sMo_field_46 {G : zG} {d : Nat} {ad : Nat → Nat} {μ : zMm} {P : Option Value → zMm → Prop} {st : List Value} {o0 : Option Value} {o2 : Option Value} {o3 : Option Value} {o4 : Option Value} {o5 : Option Value} {o6 : Option Value} {o7 : Option Value} {x1 : Int32} (kk : mW G d ad M_Mo_field 48 [o0, some (.int x1), o2, some (.int x1), o4, o5, o6, o7] st μ P) : mW G d ad M_Mo_field 46 [o0, some (.int x1), o2, o3, o4, o5, o6, o7] st μ P :=
  fun H0 H hM hm hu => zw_iload_n (i := 1) dMo_field_46 rfl rfl <| zw_istore_n (i := 3) dMo_field_47 rfl (Nat.le_of_ble_eq_true rfl) <| kk H0 H hM hm hu
theorem sMo_field_48 {G : zG} {d : Nat} {ad : Nat → Nat} {μ : zMm} {P : Option Value → zMm → Prop} {st : List Value} {o0 : Option Value} {o1 : Option Value} {o4 : Option Value} {o5 : Option Value} {o6 : Option Value} {o7 : Option Value} {x3 : Int32} {x2 : Int32} (kt : (x2 ≤ x3) → mW G d ad M_Mo_field 70 [o0, o1, some (.int x2), some (.int x3), o4, o5, o6, o7] st μ P) (kf : (¬ x2 ≤ x3) → mW G d ad M_Mo_field 53 [o0, o1, some (.int x2), some (.int x3), o4, o5, o6, o7] st μ P) : mW G d ad M_Mo_field 48 [o0, o1, some (.int x2), some (.int x3), o4, o5, o6, o7] st μ P :=
  fun H0 H hM hm hu => zw_iload_n (i := 3) dMo_field_48 rfl rfl <| zw_iload_n (i := 2) dMo_field_49 rfl rfl <| zw_icmp_ge 70 dMo_field_50 (by decide) (fun h => kt h H0 H hM hm hu) (fun h => kf h H0 H hM hm hu)
theorem sMo_field_53 {G : zG} {d : Nat} {ad : Nat → Nat} {μ : zMm} {P : Option Value → zMm → Prop} {st : List Value} {o1 : Option Value} {o2 : Option Value} {o4 : Option Value} {o5 : Option Value} {o6 : Option Value} {o7 : Option Value} {x3 : Int32} {i1 : Nat} (hx1 : x3 = nI i1) (hi1 : i1 < mLn 2) (kt : ((μ.2 2 i1) = (nI 61)) → mW G d ad M_Mo_field 70 [some (.ref (ad 50)), o1, o2, some (.int x3), o4, o5, o6, o7] st μ P) (kf : (¬ (μ.2 2 i1) = (nI 61)) → mW G d ad M_Mo_field 64 [some (.ref (ad 50)), o1, o2, some (.int x3), o4, o5, o6, o7] st μ P) : mW G d ad M_Mo_field 53 [some (.ref (ad 50)), o1, o2, some (.int x3), o4, o5, o6, o7] st μ P :=
  fun H0 H hM hm hu => zw_aload_n (i := 0) dMo_field_53 rfl rfl zRf_ref <| zw_getf dMo_field_54 zf_Mo_21 (hM.fa 2 (Nat.le_of_ble_eq_true rfl) mn_2) <| zw_iload_n (i := 3) dMo_field_57 rfl rfl <| zw_baldN (g := μ.2 2) dMo_field_58 (hM.ab mk_2) hx1 hi1 (mLn_le _) <| zw_bipush (nI 61) dMo_field_59 zkb_61 <| zw_icmp_eq 70 dMo_field_61 (by decide) (fun h => kt h H0 H hM hm hu) (fun h => kf h H0 H hM hm hu)
theorem sMo_field_64 {G : zG} {d : Nat} {ad : Nat → Nat} {μ : zMm} {P : Option Value → zMm → Prop} {st : List Value} {o0 : Option Value} {o1 : Option Value} {o2 : Option Value} {o4 : Option Value} {o5 : Option Value} {o6 : Option Value} {o7 : Option Value} {x3 : Int32} (kk : mW G d ad M_Mo_field 48 [o0, o1, o2, some (.int (x3 + (nI 1))), o4, o5, o6, o7] st μ P) : mW G d ad M_Mo_field 64 [o0, o1, o2, some (.int x3), o4, o5, o6, o7] st μ P :=
  fun H0 H hM hm hu => zw_iinc (i := 3) (x3 + (nI 1)) dMo_field_64 rfl (congrArg (fun z => x3 + z) zki_1) <| zw_goto 48 dMo_field_67 (by decide) <| kk H0 H hM hm hu
theorem sMo_field_70 {G : zG} {d : Nat} {ad : Nat → Nat} {μ : zMm} {P : Option Value → zMm → Prop} {st : List Value} {o0 : Option Value} {o1 : Option Value} {o4 : Option Value} {o5 : Option Value} {o6 : Option Value} {o7 : Option Value} {x3 : Int32} {x2 : Int32} (kt : (¬ x3 = x2) → mW G d ad M_Mo_field 77 [o0, o1, some (.int x2), some (.int x3), o4, o5, o6, o7] st μ P) (kf : (x3 = x2) → mW G d ad M_Mo_field 75 [o0, o1, some (.int x2), some (.int x3), o4, o5, o6, o7] st μ P) : mW G d ad M_Mo_field 70 [o0, o1, some (.int x2), some (.int x3), o4, o5, o6, o7] st μ P :=
  fun H0 H hM hm hu => zw_iload_n (i := 3) dMo_field_70 rfl rfl <| zw_iload_n (i := 2) dMo_field_71 rfl rfl <| zw_icmp_ne 77 dMo_field_72 (by decide) (fun h => kt h H0 H hM hm hu) (fun h => kf h H0 H hM hm hu)
theorem sMo_field_75 {G : zG} {d : Nat} {ad : Nat → Nat} {μ : zMm} {P : Option Value → zMm → Prop} {o0 : Option Value} {o1 : Option Value} {o2 : Option Value} {o3 : Option Value} {o4 : Option Value} {o5 : Option Value} {o6 : Option Value} {o7 : Option Value} (hn : narrow .boolean (.int (nI 0)) = .int (nI 0)) (hq : P (some (.int (nI 0))) μ) : mW G d ad M_Mo_field 75 [o0, o1, o2, o3, o4, o5, o6, o7] [] μ P :=
  fun H0 H hM hm hu => zw_iconst (nI 0) dMo_field_75 zki_0 <| zw_iret dMo_field_76 .boolean rfl hn ⟨μ, hq, hM, hm, hu⟩
theorem sMo_field_77 {G : zG} {d : Nat} {ad : Nat → Nat} {μ : zMm} {P : Option Value → zMm → Prop} {st : List Value} {o0 : Option Value} {o2 : Option Value} {o4 : Option Value} {o5 : Option Value} {o6 : Option Value} {o7 : Option Value} {x3 : Int32} {x1 : Int32} (kt : (¬ (x3 - x1) = (nI 3)) → mW G d ad M_Mo_field 223 [o0, some (.int x1), o2, some (.int x3), some (.int (x3 - x1)), o5, o6, o7] st μ P) (kf : ((x3 - x1) = (nI 3)) → mW G d ad M_Mo_field 88 [o0, some (.int x1), o2, some (.int x3), some (.int (x3 - x1)), o5, o6, o7] st μ P) : mW G d ad M_Mo_field 77 [o0, some (.int x1), o2, some (.int x3), o4, o5, o6, o7] st μ P :=
  fun H0 H hM hm hu => zw_iload_n (i := 3) dMo_field_77 rfl rfl <| zw_iload_n (i := 1) dMo_field_78 rfl rfl <| zw_isub dMo_field_79 <| zw_istore (i := 4) dMo_field_80 (Nat.le_of_ble_eq_true rfl) <| zw_iload (i := 4) dMo_field_82 rfl <| zw_iconst (nI 3) dMo_field_84 zki_3 <| zw_icmp_ne 223 dMo_field_85 (by decide) (fun h => kt h H0 H hM hm hu) (fun h => kf h H0 H hM hm hu)
theorem sMo_field_88 {G : zG} {d : Nat} {ad : Nat → Nat} {μ : zMm} {P : Option Value → zMm → Prop} {st : List Value} {o2 : Option Value} {o4 : Option Value} {o5 : Option Value} {o6 : Option Value} {o7 : Option Value} {x1 : Int32} {x3 : Int32} (kk : mW G d ad M_Mo_field 94 [some (.ref (ad 50)), some (.int x1), o2, some (.int x3), o4, o5, o6, o7] ((.int x3) :: (.int x1) :: (.ref (ad 2)) :: st) μ P) : mW G d ad M_Mo_field 88 [some (.ref (ad 50)), some (.int x1), o2, some (.int x3), o4, o5, o6, o7] st μ P :=
  fun H0 H hM hm hu => zw_aload_n (i := 0) dMo_field_88 rfl rfl zRf_ref <| zw_getf dMo_field_89 zf_Mo_21 (hM.fa 2 (Nat.le_of_ble_eq_true rfl) mn_2) <| zw_iload_n (i := 1) dMo_field_92 rfl rfl <| zw_iload_n (i := 3) dMo_field_93 rfl rfl <| kk H0 H hM hm hu
theorem sMo_field_100 {G : zG} {d : Nat} {ad : Nat → Nat} {μ : zMm} {P : Option Value → zMm → Prop} {st : List Value} {o0 : Option Value} {o1 : Option Value} {o2 : Option Value} {o3 : Option Value} {o4 : Option Value} {o5 : Option Value} {o6 : Option Value} {o7 : Option Value} {xs0 : Int32} (kt : (xs0 = 0) → mW G d ad M_Mo_field 223 [o0, o1, o2, o3, o4, o5, o6, o7] st μ P) (kf : (¬ xs0 = 0) → mW G d ad M_Mo_field 103 [o0, o1, o2, o3, o4, o5, o6, o7] st μ P) : mW G d ad M_Mo_field 100 [o0, o1, o2, o3, o4, o5, o6, o7] ((.int xs0) :: st) μ P :=
  fun H0 H hM hm hu => zw_if_eq 223 dMo_field_100 (by decide) (fun h => kt h H0 H hM hm hu) (fun h => kf h H0 H hM hm hu)
theorem sMo_field_103 {G : zG} {d : Nat} {ad : Nat → Nat} {μ : zMm} {P : Option Value → zMm → Prop} {st : List Value} {o0 : Option Value} {o1 : Option Value} {o4 : Option Value} {o5 : Option Value} {o6 : Option Value} {o7 : Option Value} {x2 : Int32} {x3 : Int32} (kt : (((x2 - x3) - (nI 1)) < (nI 1)) → mW G d ad M_Mo_field 128 [o0, o1, some (.int x2), some (.int x3), o4, some (.int (nI 0)), o6, o7] st μ P) (kf : (¬ ((x2 - x3) - (nI 1)) < (nI 1)) → mW G d ad M_Mo_field 115 [o0, o1, some (.int x2), some (.int x3), o4, some (.int (nI 0)), o6, o7] st μ P) : mW G d ad M_Mo_field 103 [o0, o1, some (.int x2), some (.int x3), o4, o5, o6, o7] st μ P :=
  fun H0 H hM hm hu => zw_iconst (nI 0) dMo_field_103 zki_0 <| zw_istore (i := 5) dMo_field_104 (Nat.le_of_ble_eq_true rfl) <| zw_iload_n (i := 2) dMo_field_106 rfl rfl <| zw_iload_n (i := 3) dMo_field_107 rfl rfl <| zw_isub dMo_field_108 <| zw_iconst (nI 1) dMo_field_109 zki_1 <| zw_isub dMo_field_110 <| zw_iconst (nI 1) dMo_field_111 zki_1 <| zw_icmp_lt 128 dMo_field_112 (by decide) (fun h => kt h H0 H hM hm hu) (fun h => kf h H0 H hM hm hu)
theorem sMo_field_115 {G : zG} {d : Nat} {ad : Nat → Nat} {μ : zMm} {P : Option Value → zMm → Prop} {st : List Value} {o0 : Option Value} {o1 : Option Value} {o4 : Option Value} {o5 : Option Value} {o6 : Option Value} {o7 : Option Value} {x2 : Int32} {x3 : Int32} (kt : ((nI 4) < ((x2 - x3) - (nI 1))) → mW G d ad M_Mo_field 128 [o0, o1, some (.int x2), some (.int x3), o4, o5, o6, o7] st μ P) (kf : (¬ (nI 4) < ((x2 - x3) - (nI 1))) → mW G d ad M_Mo_field 124 [o0, o1, some (.int x2), some (.int x3), o4, o5, o6, o7] st μ P) : mW G d ad M_Mo_field 115 [o0, o1, some (.int x2), some (.int x3), o4, o5, o6, o7] st μ P :=
  fun H0 H hM hm hu => zw_iload_n (i := 2) dMo_field_115 rfl rfl <| zw_iload_n (i := 3) dMo_field_116 rfl rfl <| zw_isub dMo_field_117 <| zw_iconst (nI 1) dMo_field_118 zki_1 <| zw_isub dMo_field_119 <| zw_iconst (nI 4) dMo_field_120 zki_4 <| zw_icmp_gt 128 dMo_field_121 (by decide) (fun h => kt h H0 H hM hm hu) (fun h => kf h H0 H hM hm hu)
theorem sMo_field_124 {G : zG} {d : Nat} {ad : Nat → Nat} {μ : zMm} {P : Option Value → zMm → Prop} {st : List Value} {o0 : Option Value} {o1 : Option Value} {o2 : Option Value} {o4 : Option Value} {o5 : Option Value} {o6 : Option Value} {o7 : Option Value} {x3 : Int32} (kk : mW G d ad M_Mo_field 136 [o0, o1, o2, some (.int x3), o4, o5, some (.int (nI 1)), some (.int (x3 + (nI 1)))] st μ P) : mW G d ad M_Mo_field 124 [o0, o1, o2, some (.int x3), o4, o5, o6, o7] st μ P :=
  fun H0 H hM hm hu => zw_iconst (nI 1) dMo_field_124 zki_1 <| zw_goto 129 dMo_field_125 (by decide) <| zw_istore (i := 6) dMo_field_129 (Nat.le_of_ble_eq_true rfl) <| zw_iload_n (i := 3) dMo_field_131 rfl rfl <| zw_iconst (nI 1) dMo_field_132 zki_1 <| zw_iadd dMo_field_133 <| zw_istore (i := 7) dMo_field_134 (Nat.le_of_ble_eq_true rfl) <| kk H0 H hM hm hu
theorem sMo_field_128 {G : zG} {d : Nat} {ad : Nat → Nat} {μ : zMm} {P : Option Value → zMm → Prop} {st : List Value} {o0 : Option Value} {o1 : Option Value} {o2 : Option Value} {o4 : Option Value} {o5 : Option Value} {o6 : Option Value} {o7 : Option Value} {x3 : Int32} (kk : mW G d ad M_Mo_field 136 [o0, o1, o2, some (.int x3), o4, o5, some (.int (nI 0)), some (.int (x3 + (nI 1)))] st μ P) : mW G d ad M_Mo_field 128 [o0, o1, o2, some (.int x3), o4, o5, o6, o7] st μ P :=
  fun H0 H hM hm hu => zw_iconst (nI 0) dMo_field_128 zki_0 <| zw_istore (i := 6) dMo_field_129 (Nat.le_of_ble_eq_true rfl) <| zw_iload_n (i := 3) dMo_field_131 rfl rfl <| zw_iconst (nI 1) dMo_field_132 zki_1 <| zw_iadd dMo_field_133 <| zw_istore (i := 7) dMo_field_134 (Nat.le_of_ble_eq_true rfl) <| kk H0 H hM hm hu
theorem sMo_field_129 {G : zG} {d : Nat} {ad : Nat → Nat} {μ : zMm} {P : Option Value → zMm → Prop} {st : List Value} {o0 : Option Value} {o1 : Option Value} {o2 : Option Value} {o4 : Option Value} {o5 : Option Value} {o6 : Option Value} {o7 : Option Value} {xs0 : Int32} {x3 : Int32} (kk : mW G d ad M_Mo_field 136 [o0, o1, o2, some (.int x3), o4, o5, some (.int xs0), some (.int (x3 + (nI 1)))] st μ P) : mW G d ad M_Mo_field 129 [o0, o1, o2, some (.int x3), o4, o5, o6, o7] ((.int xs0) :: st) μ P :=
  fun H0 H hM hm hu => zw_istore (i := 6) dMo_field_129 (Nat.le_of_ble_eq_true rfl) <| zw_iload_n (i := 3) dMo_field_131 rfl rfl <| zw_iconst (nI 1) dMo_field_132 zki_1 <| zw_iadd dMo_field_133 <| zw_istore (i := 7) dMo_field_134 (Nat.le_of_ble_eq_true rfl) <| kk H0 H hM hm hu
theorem sMo_field_136 {G : zG} {d : Nat} {ad : Nat → Nat} {μ : zMm} {P : Option Value → zMm → Prop} {st : List Value} {o0 : Option Value} {o1 : Option Value} {o3 : Option Value} {o4 : Option Value} {o5 : Option Value} {o6 : Option Value} {x7 : Int32} {x2 : Int32} (kt : (x2 ≤ x7) → mW G d ad M_Mo_field 183 [o0, o1, some (.int x2), o3, o4, o5, o6, some (.int x7)] st μ P) (kf : (¬ x2 ≤ x7) → mW G d ad M_Mo_field 142 [o0, o1, some (.int x2), o3, o4, o5, o6, some (.int x7)] st μ P) : mW G d ad M_Mo_field 136 [o0, o1, some (.int x2), o3, o4, o5, o6, some (.int x7)] st μ P :=
  fun H0 H hM hm hu => zw_iload (i := 7) dMo_field_136 rfl <| zw_iload_n (i := 2) dMo_field_138 rfl rfl <| zw_icmp_ge 183 dMo_field_139 (by decide) (fun h => kt h H0 H hM hm hu) (fun h => kf h H0 H hM hm hu)
theorem sMo_field_142 {G : zG} {d : Nat} {ad : Nat → Nat} {μ : zMm} {P : Option Value → zMm → Prop} {st : List Value} {o0 : Option Value} {o1 : Option Value} {o2 : Option Value} {o3 : Option Value} {o4 : Option Value} {o5 : Option Value} {o7 : Option Value} {x6 : Int32} (kt : (x6 = 0) → mW G d ad M_Mo_field 183 [o0, o1, o2, o3, o4, o5, some (.int x6), o7] st μ P) (kf : (¬ x6 = 0) → mW G d ad M_Mo_field 147 [o0, o1, o2, o3, o4, o5, some (.int x6), o7] st μ P) : mW G d ad M_Mo_field 142 [o0, o1, o2, o3, o4, o5, some (.int x6), o7] st μ P :=
  fun H0 H hM hm hu => zw_iload (i := 6) dMo_field_142 rfl <| zw_if_eq 183 dMo_field_144 (by decide) (fun h => kt h H0 H hM hm hu) (fun h => kf h H0 H hM hm hu)
theorem sMo_field_147 {G : zG} {d : Nat} {ad : Nat → Nat} {μ : zMm} {P : Option Value → zMm → Prop} {st : List Value} {o1 : Option Value} {o2 : Option Value} {o3 : Option Value} {o4 : Option Value} {o5 : Option Value} {o6 : Option Value} {x7 : Int32} {i1 : Nat} {P2 : Int32 → zMm → Prop} (hx1 : x7 = nI i1) (hi1 : i1 < mLn 2) (hd : 1 ≤ d) (hl : st.length ≤ 4) (hc : mC G (d - 1) ad M_Mo_isDigit [(.int (μ.2 2 i1))] μ (mPi P2)) (kk : ∀ (r : Int32) (μ1 : zMm), P2 r μ1 → mW G d ad M_Mo_field 157 [some (.ref (ad 50)), o1, o2, o3, o4, o5, o6, some (.int x7)] ((.int r) :: st) μ1 P) : mW G d ad M_Mo_field 147 [some (.ref (ad 50)), o1, o2, o3, o4, o5, o6, some (.int x7)] st μ P :=
  fun H0 H hM hm hu => zw_aload_n (i := 0) dMo_field_147 rfl rfl zRf_ref <| zw_getf dMo_field_148 zf_Mo_21 (hM.fa 2 (Nat.le_of_ble_eq_true rfl) mn_2) <| zw_iload (i := 7) dMo_field_151 rfl <| zw_baldN (g := μ.2 2) dMo_field_153 (hM.ab mk_2) hx1 hi1 (mLn_le _) <| zw_callS [(.int (μ.2 2 i1))] _ dMo_field_154 hd zk_Mo_31 rfl rfl hl (hc H hM) (mPi_k kk hm hu)
theorem sMo_field_157 {G : zG} {d : Nat} {ad : Nat → Nat} {μ : zMm} {P : Option Value → zMm → Prop} {st : List Value} {o1 : Option Value} {o2 : Option Value} {o3 : Option Value} {o4 : Option Value} {o6 : Option Value} {xs0 : Int32} {x5 : Int32} {x7 : Int32} {i1 : Nat} (hx1 : x7 = nI i1) (hi1 : i1 < mLn 2) (kk : mW G d ad M_Mo_field 136 [some (.ref (ad 50)), o1, o2, o3, o4, some (.int ((((nI 10) * x5) + (μ.2 2 i1)) - (nI 48))), some (.int xs0), some (.int (x7 + (nI 1)))] st μ P) : mW G d ad M_Mo_field 157 [some (.ref (ad 50)), o1, o2, o3, o4, some (.int x5), o6, some (.int x7)] ((.int xs0) :: st) μ P :=
  fun H0 H hM hm hu => zw_istore (i := 6) dMo_field_157 (Nat.le_of_ble_eq_true rfl) <| zw_bipush (nI 10) dMo_field_159 zkb_10 <| zw_iload (i := 5) dMo_field_161 rfl <| zw_imul dMo_field_163 <| zw_aload_n (i := 0) dMo_field_164 rfl rfl zRf_ref <| zw_getf dMo_field_165 zf_Mo_21 (hM.fa 2 (Nat.le_of_ble_eq_true rfl) mn_2) <| zw_iload (i := 7) dMo_field_168 rfl <| zw_baldN (g := μ.2 2) dMo_field_170 (hM.ab mk_2) hx1 hi1 (mLn_le _) <| zw_iadd dMo_field_171 <| zw_bipush (nI 48) dMo_field_172 zkb_48 <| zw_isub dMo_field_174 <| zw_istore (i := 5) dMo_field_175 (Nat.le_of_ble_eq_true rfl) <| zw_iinc (i := 7) (x7 + (nI 1)) dMo_field_177 rfl (congrArg (fun z => x7 + z) zki_1) <| zw_goto 136 dMo_field_180 (by decide) <| kk H0 H hM hm hu
theorem sMo_field_183 {G : zG} {d : Nat} {ad : Nat → Nat} {μ : zMm} {P : Option Value → zMm → Prop} {st : List Value} {o0 : Option Value} {o1 : Option Value} {o2 : Option Value} {o3 : Option Value} {o4 : Option Value} {o5 : Option Value} {o7 : Option Value} {x6 : Int32} (kt : (x6 = 0) → mW G d ad M_Mo_field 199 [o0, o1, o2, o3, o4, o5, some (.int x6), o7] st μ P) (kf : (¬ x6 = 0) → mW G d ad M_Mo_field 188 [o0, o1, o2, o3, o4, o5, some (.int x6), o7] st μ P) : mW G d ad M_Mo_field 183 [o0, o1, o2, o3, o4, o5, some (.int x6), o7] st μ P :=
  fun H0 H hM hm hu => zw_iload (i := 6) dMo_field_183 rfl <| zw_if_eq 199 dMo_field_185 (by decide) (fun h => kt h H0 H hM hm hu) (fun h => kf h H0 H hM hm hu)
theorem sMo_field_188 {G : zG} {d : Nat} {ad : Nat → Nat} {μ : zMm} {P : Option Value → zMm → Prop} {st : List Value} {o1 : Option Value} {o2 : Option Value} {o3 : Option Value} {o4 : Option Value} {o5 : Option Value} {o6 : Option Value} {o7 : Option Value} (kt : (0 ≤ (μ.1 38)) → mW G d ad M_Mo_field 199 [some (.ref (ad 50)), o1, o2, o3, o4, o5, o6, o7] st μ P) (kf : (¬ 0 ≤ (μ.1 38)) → mW G d ad M_Mo_field 195 [some (.ref (ad 50)), o1, o2, o3, o4, o5, o6, o7] st μ P) : mW G d ad M_Mo_field 188 [some (.ref (ad 50)), o1, o2, o3, o4, o5, o6, o7] st μ P :=
  fun H0 H hM hm hu => zw_aload_n (i := 0) dMo_field_188 rfl rfl zRf_ref <| zw_getf dMo_field_189 zf_Mo_125 (hM.fi 38 (Nat.le_of_ble_eq_true rfl) mz_38) <| zw_if_ge 199 dMo_field_192 (by decide) (fun h => kt h H0 H hM hm hu) (fun h => kf h H0 H hM hm hu)
theorem sMo_field_195 {G : zG} {d : Nat} {ad : Nat → Nat} {μ : zMm} {P : Option Value → zMm → Prop} {st : List Value} {o1 : Option Value} {o2 : Option Value} {o3 : Option Value} {o4 : Option Value} {o5 : Option Value} {o6 : Option Value} {o7 : Option Value} {aa0 : Nat} (kt : ((nI 1) = 0) → mW G d ad M_Mo_field 213 [some (.ref aa0), o1, o2, o3, o4, o5, some (.int (nI 1)), o7] ((.ref aa0) :: st) μ P) (kf : (¬ (nI 1) = 0) → mW G d ad M_Mo_field 208 [some (.ref aa0), o1, o2, o3, o4, o5, some (.int (nI 1)), o7] ((.ref aa0) :: st) μ P) : mW G d ad M_Mo_field 195 [some (.ref aa0), o1, o2, o3, o4, o5, o6, o7] st μ P :=
  fun H0 H hM hm hu => zw_iconst (nI 1) dMo_field_195 zki_1 <| zw_goto 200 dMo_field_196 (by decide) <| zw_istore (i := 6) dMo_field_200 (Nat.le_of_ble_eq_true rfl) <| zw_aload_n (i := 0) dMo_field_202 rfl rfl zRf_ref <| zw_iload (i := 6) dMo_field_203 rfl <| zw_if_eq 213 dMo_field_205 (by decide) (fun h => kt h H0 H hM hm hu) (fun h => kf h H0 H hM hm hu)
theorem sMo_field_199 {G : zG} {d : Nat} {ad : Nat → Nat} {μ : zMm} {P : Option Value → zMm → Prop} {st : List Value} {o1 : Option Value} {o2 : Option Value} {o3 : Option Value} {o4 : Option Value} {o5 : Option Value} {o6 : Option Value} {o7 : Option Value} {aa0 : Nat} (kt : ((nI 0) = 0) → mW G d ad M_Mo_field 213 [some (.ref aa0), o1, o2, o3, o4, o5, some (.int (nI 0)), o7] ((.ref aa0) :: st) μ P) (kf : (¬ (nI 0) = 0) → mW G d ad M_Mo_field 208 [some (.ref aa0), o1, o2, o3, o4, o5, some (.int (nI 0)), o7] ((.ref aa0) :: st) μ P) : mW G d ad M_Mo_field 199 [some (.ref aa0), o1, o2, o3, o4, o5, o6, o7] st μ P :=
  fun H0 H hM hm hu => zw_iconst (nI 0) dMo_field_199 zki_0 <| zw_istore (i := 6) dMo_field_200 (Nat.le_of_ble_eq_true rfl) <| zw_aload_n (i := 0) dMo_field_202 rfl rfl zRf_ref <| zw_iload (i := 6) dMo_field_203 rfl <| zw_if_eq 213 dMo_field_205 (by decide) (fun h => kt h H0 H hM hm hu) (fun h => kf h H0 H hM hm hu)
theorem sMo_field_200 {G : zG} {d : Nat} {ad : Nat → Nat} {μ : zMm} {P : Option Value → zMm → Prop} {st : List Value} {o1 : Option Value} {o2 : Option Value} {o3 : Option Value} {o4 : Option Value} {o5 : Option Value} {o6 : Option Value} {o7 : Option Value} {xs0 : Int32} {aa0 : Nat} (kt : (xs0 = 0) → mW G d ad M_Mo_field 213 [some (.ref aa0), o1, o2, o3, o4, o5, some (.int xs0), o7] ((.ref aa0) :: st) μ P) (kf : (¬ xs0 = 0) → mW G d ad M_Mo_field 208 [some (.ref aa0), o1, o2, o3, o4, o5, some (.int xs0), o7] ((.ref aa0) :: st) μ P) : mW G d ad M_Mo_field 200 [some (.ref aa0), o1, o2, o3, o4, o5, o6, o7] ((.int xs0) :: st) μ P :=
  fun H0 H hM hm hu => zw_istore (i := 6) dMo_field_200 (Nat.le_of_ble_eq_true rfl) <| zw_aload_n (i := 0) dMo_field_202 rfl rfl zRf_ref <| zw_iload (i := 6) dMo_field_203 rfl <| zw_if_eq 213 dMo_field_205 (by decide) (fun h => kt h H0 H hM hm hu) (fun h => kf h H0 H hM hm hu)
theorem sMo_field_208 {G : zG} {d : Nat} {ad : Nat → Nat} {μ : zMm} {P : Option Value → zMm → Prop} {st : List Value} {o0 : Option Value} {o1 : Option Value} {o2 : Option Value} {o3 : Option Value} {o4 : Option Value} {o6 : Option Value} {o7 : Option Value} {x5 : Int32} (kk : mW G d ad M_Mo_field 220 [o0, o1, o2, o3, o4, some (.int x5), o6, o7] st (upd μ.1 38 x5, μ.2) P) : mW G d ad M_Mo_field 208 [o0, o1, o2, o3, o4, some (.int x5), o6, o7] ((.ref (ad 50)) :: st) μ P :=
  fun H0 H hM hm hu => zw_iload (i := 5) dMo_field_208 rfl <| zw_goto 217 dMo_field_210 (by decide) <| (mw_puti (M := M_Mo_field) (pc := 217) (k := 38) (v := x5) dMo_field_217 zp_Mo_field_125 (Nat.le_of_ble_eq_true rfl) mz_38 rfl rfl kk) H0 H hM hm hu
theorem sMo_field_213 {G : zG} {d : Nat} {ad : Nat → Nat} {μ : zMm} {P : Option Value → zMm → Prop} {st : List Value} {o1 : Option Value} {o2 : Option Value} {o3 : Option Value} {o4 : Option Value} {o5 : Option Value} {o6 : Option Value} {o7 : Option Value} (kk : mW G d ad M_Mo_field 220 [some (.ref (ad 50)), o1, o2, o3, o4, o5, o6, o7] st (upd μ.1 38 (μ.1 38), μ.2) P) : mW G d ad M_Mo_field 213 [some (.ref (ad 50)), o1, o2, o3, o4, o5, o6, o7] ((.ref (ad 50)) :: st) μ P :=
  fun H0 H hM hm hu => zw_aload_n (i := 0) dMo_field_213 rfl rfl zRf_ref <| zw_getf dMo_field_214 zf_Mo_125 (hM.fi 38 (Nat.le_of_ble_eq_true rfl) mz_38) <| (mw_puti (M := M_Mo_field) (pc := 217) (k := 38) (v := (μ.1 38)) dMo_field_217 zp_Mo_field_125 (Nat.le_of_ble_eq_true rfl) mz_38 rfl rfl kk) H0 H hM hm hu
theorem sMo_field_217 {G : zG} {d : Nat} {ad : Nat → Nat} {μ : zMm} {P : Option Value → zMm → Prop} {st : List Value} {o0 : Option Value} {o1 : Option Value} {o2 : Option Value} {o3 : Option Value} {o4 : Option Value} {o5 : Option Value} {o6 : Option Value} {o7 : Option Value} {xs0 : Int32} (kk : mW G d ad M_Mo_field 220 [o0, o1, o2, o3, o4, o5, o6, o7] st (upd μ.1 38 xs0, μ.2) P) : mW G d ad M_Mo_field 217 [o0, o1, o2, o3, o4, o5, o6, o7] ((.int xs0) :: (.ref (ad 50)) :: st) μ P :=
  fun H0 H hM hm hu => (mw_puti (M := M_Mo_field) (pc := 217) (k := 38) (v := xs0) dMo_field_217 zp_Mo_field_125 (Nat.le_of_ble_eq_true rfl) mz_38 rfl rfl kk) H0 H hM hm hu
theorem sMo_field_220 {G : zG} {d : Nat} {ad : Nat → Nat} {μ : zMm} {P : Option Value → zMm → Prop} {o0 : Option Value} {o1 : Option Value} {o2 : Option Value} {o3 : Option Value} {o4 : Option Value} {o5 : Option Value} {o7 : Option Value} {x6 : Int32} (hn : narrow .boolean (.int x6) = .int x6) (hq : P (some (.int x6)) μ) : mW G d ad M_Mo_field 220 [o0, o1, o2, o3, o4, o5, some (.int x6), o7] [] μ P :=
  fun H0 H hM hm hu => zw_iload (i := 6) dMo_field_220 rfl <| zw_iret dMo_field_222 .boolean rfl hn ⟨μ, hq, hM, hm, hu⟩
theorem sMo_field_223 {G : zG} {d : Nat} {ad : Nat → Nat} {μ : zMm} {P : Option Value → zMm → Prop} {st : List Value} {o0 : Option Value} {o1 : Option Value} {o2 : Option Value} {o3 : Option Value} {o5 : Option Value} {o6 : Option Value} {o7 : Option Value} {x4 : Int32} (kt : (¬ x4 = (nI 6)) → mW G d ad M_Mo_field 423 [o0, o1, o2, o3, some (.int x4), o5, o6, o7] st μ P) (kf : (x4 = (nI 6)) → mW G d ad M_Mo_field 230 [o0, o1, o2, o3, some (.int x4), o5, o6, o7] st μ P) : mW G d ad M_Mo_field 223 [o0, o1, o2, o3, some (.int x4), o5, o6, o7] st μ P :=
  fun H0 H hM hm hu => zw_iload (i := 4) dMo_field_223 rfl <| zw_bipush (nI 6) dMo_field_225 zkb_6 <| zw_icmp_ne 423 dMo_field_227 (by decide) (fun h => kt h H0 H hM hm hu) (fun h => kf h H0 H hM hm hu)
theorem sMo_field_230 {G : zG} {d : Nat} {ad : Nat → Nat} {μ : zMm} {P : Option Value → zMm → Prop} {st : List Value} {o2 : Option Value} {o4 : Option Value} {o5 : Option Value} {o6 : Option Value} {o7 : Option Value} {x1 : Int32} {x3 : Int32} (kk : mW G d ad M_Mo_field 236 [some (.ref (ad 50)), some (.int x1), o2, some (.int x3), o4, o5, o6, o7] ((.int x3) :: (.int x1) :: (.ref (ad 2)) :: st) μ P) : mW G d ad M_Mo_field 230 [some (.ref (ad 50)), some (.int x1), o2, some (.int x3), o4, o5, o6, o7] st μ P :=
  fun H0 H hM hm hu => zw_aload_n (i := 0) dMo_field_230 rfl rfl zRf_ref <| zw_getf dMo_field_231 zf_Mo_21 (hM.fa 2 (Nat.le_of_ble_eq_true rfl) mn_2) <| zw_iload_n (i := 1) dMo_field_234 rfl rfl <| zw_iload_n (i := 3) dMo_field_235 rfl rfl <| kk H0 H hM hm hu
theorem sMo_field_242 {G : zG} {d : Nat} {ad : Nat → Nat} {μ : zMm} {P : Option Value → zMm → Prop} {st : List Value} {o0 : Option Value} {o1 : Option Value} {o2 : Option Value} {o3 : Option Value} {o4 : Option Value} {o5 : Option Value} {o6 : Option Value} {o7 : Option Value} {xs0 : Int32} (kt : (xs0 = 0) → mW G d ad M_Mo_field 423 [o0, o1, o2, o3, o4, o5, o6, o7] st μ P) (kf : (¬ xs0 = 0) → mW G d ad M_Mo_field 245 [o0, o1, o2, o3, o4, o5, o6, o7] st μ P) : mW G d ad M_Mo_field 242 [o0, o1, o2, o3, o4, o5, o6, o7] ((.int xs0) :: st) μ P :=
  fun H0 H hM hm hu => zw_if_eq 423 dMo_field_242 (by decide) (fun h => kt h H0 H hM hm hu) (fun h => kf h H0 H hM hm hu)
theorem sMo_field_245 {G : zG} {d : Nat} {ad : Nat → Nat} {μ : zMm} {P : Option Value → zMm → Prop} {st : List Value} {o1 : Option Value} {o4 : Option Value} {o5 : Option Value} {o6 : Option Value} {o7 : Option Value} {x3 : Int32} {x2 : Int32} {P2 : Int32 → zMm → Prop} (hd : 1 ≤ d) (hl : st.length ≤ 4) (hc : mC G (d - 1) ad M_Mo_nameEnd [(.ref (ad 2)), (.int (x3 + (nI 1))), (.int x2)] μ (mPi P2)) (kk : ∀ (r : Int32) (μ1 : zMm), P2 r μ1 → mW G d ad M_Mo_field 256 [some (.ref (ad 50)), o1, some (.int x2), some (.int x3), o4, o5, o6, o7] ((.int r) :: st) μ1 P) : mW G d ad M_Mo_field 245 [some (.ref (ad 50)), o1, some (.int x2), some (.int x3), o4, o5, o6, o7] st μ P :=
  fun H0 H hM hm hu => zw_aload_n (i := 0) dMo_field_245 rfl rfl zRf_ref <| zw_getf dMo_field_246 zf_Mo_21 (hM.fa 2 (Nat.le_of_ble_eq_true rfl) mn_2) <| zw_iload_n (i := 3) dMo_field_249 rfl rfl <| zw_iconst (nI 1) dMo_field_250 zki_1 <| zw_iadd dMo_field_251 <| zw_iload_n (i := 2) dMo_field_252 rfl rfl <| zw_callS [(.ref (ad 2)), (.int (x3 + (nI 1))), (.int x2)] _ dMo_field_253 hd zk_Mo_87 rfl rfl hl (hc H hM) (mPi_k kk hm hu)
theorem sMo_field_256 {G : zG} {d : Nat} {ad : Nat → Nat} {μ : zMm} {P : Option Value → zMm → Prop} {st : List Value} {o0 : Option Value} {o1 : Option Value} {o2 : Option Value} {o4 : Option Value} {o5 : Option Value} {o6 : Option Value} {o7 : Option Value} {xs0 : Int32} {x3 : Int32} (kt : (xs0 = (x3 + (nI 1))) → mW G d ad M_Mo_field 291 [o0, o1, o2, some (.int x3), o4, some (.int xs0), o6, o7] st μ P) (kf : (¬ xs0 = (x3 + (nI 1))) → mW G d ad M_Mo_field 266 [o0, o1, o2, some (.int x3), o4, some (.int xs0), o6, o7] st μ P) : mW G d ad M_Mo_field 256 [o0, o1, o2, some (.int x3), o4, o5, o6, o7] ((.int xs0) :: st) μ P :=
  fun H0 H hM hm hu => zw_istore (i := 5) dMo_field_256 (Nat.le_of_ble_eq_true rfl) <| zw_iload (i := 5) dMo_field_258 rfl <| zw_iload_n (i := 3) dMo_field_260 rfl rfl <| zw_iconst (nI 1) dMo_field_261 zki_1 <| zw_iadd dMo_field_262 <| zw_icmp_eq 291 dMo_field_263 (by decide) (fun h => kt h H0 H hM hm hu) (fun h => kf h H0 H hM hm hu)
theorem sMo_field_266 {G : zG} {d : Nat} {ad : Nat → Nat} {μ : zMm} {P : Option Value → zMm → Prop} {st : List Value} {o0 : Option Value} {o1 : Option Value} {o3 : Option Value} {o4 : Option Value} {o6 : Option Value} {o7 : Option Value} {x5 : Int32} {x2 : Int32} (kt : (x2 ≤ x5) → mW G d ad M_Mo_field 291 [o0, o1, some (.int x2), o3, o4, some (.int x5), o6, o7] st μ P) (kf : (¬ x2 ≤ x5) → mW G d ad M_Mo_field 272 [o0, o1, some (.int x2), o3, o4, some (.int x5), o6, o7] st μ P) : mW G d ad M_Mo_field 266 [o0, o1, some (.int x2), o3, o4, some (.int x5), o6, o7] st μ P :=
  fun H0 H hM hm hu => zw_iload (i := 5) dMo_field_266 rfl <| zw_iload_n (i := 2) dMo_field_268 rfl rfl <| zw_icmp_ge 291 dMo_field_269 (by decide) (fun h => kt h H0 H hM hm hu) (fun h => kf h H0 H hM hm hu)
theorem sMo_field_272 {G : zG} {d : Nat} {ad : Nat → Nat} {μ : zMm} {P : Option Value → zMm → Prop} {st : List Value} {o1 : Option Value} {o2 : Option Value} {o3 : Option Value} {o4 : Option Value} {o6 : Option Value} {o7 : Option Value} {x5 : Int32} {i1 : Nat} (hx1 : x5 = nI i1) (hi1 : i1 < mLn 2) (kt : (¬ (μ.2 2 i1) = (nI 58)) → mW G d ad M_Mo_field 291 [some (.ref (ad 50)), o1, o2, o3, o4, some (.int x5), o6, o7] st μ P) (kf : ((μ.2 2 i1) = (nI 58)) → mW G d ad M_Mo_field 284 [some (.ref (ad 50)), o1, o2, o3, o4, some (.int x5), o6, o7] st μ P) : mW G d ad M_Mo_field 272 [some (.ref (ad 50)), o1, o2, o3, o4, some (.int x5), o6, o7] st μ P :=
  fun H0 H hM hm hu => zw_aload_n (i := 0) dMo_field_272 rfl rfl zRf_ref <| zw_getf dMo_field_273 zf_Mo_21 (hM.fa 2 (Nat.le_of_ble_eq_true rfl) mn_2) <| zw_iload (i := 5) dMo_field_276 rfl <| zw_baldN (g := μ.2 2) dMo_field_278 (hM.ab mk_2) hx1 hi1 (mLn_le _) <| zw_bipush (nI 58) dMo_field_279 zkb_58 <| zw_icmp_ne 291 dMo_field_281 (by decide) (fun h => kt h H0 H hM hm hu) (fun h => kf h H0 H hM hm hu)
theorem sMo_field_284 {G : zG} {d : Nat} {ad : Nat → Nat} {μ : zMm} {P : Option Value → zMm → Prop} {st : List Value} {o1 : Option Value} {o2 : Option Value} {o3 : Option Value} {o4 : Option Value} {o5 : Option Value} {o6 : Option Value} {o7 : Option Value} (kt : ((μ.1 39) ≤ 0) → mW G d ad M_Mo_field 293 [some (.ref (ad 50)), o1, o2, o3, o4, o5, o6, o7] st μ P) (kf : (¬ (μ.1 39) ≤ 0) → mW G d ad M_Mo_field 291 [some (.ref (ad 50)), o1, o2, o3, o4, o5, o6, o7] st μ P) : mW G d ad M_Mo_field 284 [some (.ref (ad 50)), o1, o2, o3, o4, o5, o6, o7] st μ P :=
  fun H0 H hM hm hu => zw_aload_n (i := 0) dMo_field_284 rfl rfl zRf_ref <| zw_getf dMo_field_285 zf_Mo_130 (hM.fi 39 (Nat.le_of_ble_eq_true rfl) mz_39) <| zw_if_le 293 dMo_field_288 (by decide) (fun h => kt h H0 H hM hm hu) (fun h => kf h H0 H hM hm hu)
theorem sMo_field_291 {G : zG} {d : Nat} {ad : Nat → Nat} {μ : zMm} {P : Option Value → zMm → Prop} {o0 : Option Value} {o1 : Option Value} {o2 : Option Value} {o3 : Option Value} {o4 : Option Value} {o5 : Option Value} {o6 : Option Value} {o7 : Option Value} (hn : narrow .boolean (.int (nI 0)) = .int (nI 0)) (hq : P (some (.int (nI 0))) μ) : mW G d ad M_Mo_field 291 [o0, o1, o2, o3, o4, o5, o6, o7] [] μ P :=
  fun H0 H hM hm hu => zw_iconst (nI 0) dMo_field_291 zki_0 <| zw_iret dMo_field_292 .boolean rfl hn ⟨μ, hq, hM, hm, hu⟩
theorem sMo_field_293 {G : zG} {d : Nat} {ad : Nat → Nat} {μ : zMm} {P : Option Value → zMm → Prop} {st : List Value} {o1 : Option Value} {o3 : Option Value} {o4 : Option Value} {o6 : Option Value} {o7 : Option Value} {x5 : Int32} {x2 : Int32} {P2 : Int32 → zMm → Prop} (hd : 1 ≤ d) (hl : st.length ≤ 4) (hc : mC G (d - 1) ad M_Mo_nameEnd [(.ref (ad 2)), (.int (x5 + (nI 1))), (.int x2)] μ (mPi P2)) (kk : ∀ (r : Int32) (μ1 : zMm), P2 r μ1 → mW G d ad M_Mo_field 305 [some (.ref (ad 50)), o1, some (.int x2), o3, o4, some (.int x5), o6, o7] ((.int r) :: st) μ1 P) : mW G d ad M_Mo_field 293 [some (.ref (ad 50)), o1, some (.int x2), o3, o4, some (.int x5), o6, o7] st μ P :=
  fun H0 H hM hm hu => zw_aload_n (i := 0) dMo_field_293 rfl rfl zRf_ref <| zw_getf dMo_field_294 zf_Mo_21 (hM.fa 2 (Nat.le_of_ble_eq_true rfl) mn_2) <| zw_iload (i := 5) dMo_field_297 rfl <| zw_iconst (nI 1) dMo_field_299 zki_1 <| zw_iadd dMo_field_300 <| zw_iload_n (i := 2) dMo_field_301 rfl rfl <| zw_callS [(.ref (ad 2)), (.int (x5 + (nI 1))), (.int x2)] _ dMo_field_302 hd zk_Mo_87 rfl rfl hl (hc H hM) (mPi_k kk hm hu)
theorem sMo_field_305 {G : zG} {d : Nat} {ad : Nat → Nat} {μ : zMm} {P : Option Value → zMm → Prop} {st : List Value} {o0 : Option Value} {o1 : Option Value} {o2 : Option Value} {o3 : Option Value} {o4 : Option Value} {o6 : Option Value} {o7 : Option Value} {xs0 : Int32} {x5 : Int32} (kt : (xs0 = (x5 + (nI 1))) → mW G d ad M_Mo_field 322 [o0, o1, o2, o3, o4, some (.int x5), some (.int xs0), o7] st μ P) (kf : (¬ xs0 = (x5 + (nI 1))) → mW G d ad M_Mo_field 316 [o0, o1, o2, o3, o4, some (.int x5), some (.int xs0), o7] st μ P) : mW G d ad M_Mo_field 305 [o0, o1, o2, o3, o4, some (.int x5), o6, o7] ((.int xs0) :: st) μ P :=
  fun H0 H hM hm hu => zw_istore (i := 6) dMo_field_305 (Nat.le_of_ble_eq_true rfl) <| zw_iload (i := 6) dMo_field_307 rfl <| zw_iload (i := 5) dMo_field_309 rfl <| zw_iconst (nI 1) dMo_field_311 zki_1 <| zw_iadd dMo_field_312 <| zw_icmp_eq 322 dMo_field_313 (by decide) (fun h => kt h H0 H hM hm hu) (fun h => kf h H0 H hM hm hu)
theorem sMo_field_316 {G : zG} {d : Nat} {ad : Nat → Nat} {μ : zMm} {P : Option Value → zMm → Prop} {st : List Value} {o0 : Option Value} {o1 : Option Value} {o3 : Option Value} {o4 : Option Value} {o5 : Option Value} {o7 : Option Value} {x6 : Int32} {x2 : Int32} (kt : (x6 = x2) → mW G d ad M_Mo_field 324 [o0, o1, some (.int x2), o3, o4, o5, some (.int x6), o7] st μ P) (kf : (¬ x6 = x2) → mW G d ad M_Mo_field 322 [o0, o1, some (.int x2), o3, o4, o5, some (.int x6), o7] st μ P) : mW G d ad M_Mo_field 316 [o0, o1, some (.int x2), o3, o4, o5, some (.int x6), o7] st μ P :=
  fun H0 H hM hm hu => zw_iload (i := 6) dMo_field_316 rfl <| zw_iload_n (i := 2) dMo_field_318 rfl rfl <| zw_icmp_eq 324 dMo_field_319 (by decide) (fun h => kt h H0 H hM hm hu) (fun h => kf h H0 H hM hm hu)
theorem sMo_field_322 {G : zG} {d : Nat} {ad : Nat → Nat} {μ : zMm} {P : Option Value → zMm → Prop} {o0 : Option Value} {o1 : Option Value} {o2 : Option Value} {o3 : Option Value} {o4 : Option Value} {o5 : Option Value} {o6 : Option Value} {o7 : Option Value} (hn : narrow .boolean (.int (nI 0)) = .int (nI 0)) (hq : P (some (.int (nI 0))) μ) : mW G d ad M_Mo_field 322 [o0, o1, o2, o3, o4, o5, o6, o7] [] μ P :=
  fun H0 H hM hm hu => zw_iconst (nI 0) dMo_field_322 zki_0 <| zw_iret dMo_field_323 .boolean rfl hn ⟨μ, hq, hM, hm, hu⟩
theorem sMo_field_324 {G : zG} {d : Nat} {ad : Nat → Nat} {μ : zMm} {P : Option Value → zMm → Prop} {st : List Value} {o1 : Option Value} {o2 : Option Value} {o4 : Option Value} {o6 : Option Value} {o7 : Option Value} {x5 : Int32} {x3 : Int32} (kk : mW G d ad M_Mo_field 334 [some (.ref (ad 50)), o1, o2, some (.int x3), o4, some (.int x5), o6, o7] st (upd μ.1 39 ((x5 - x3) - (nI 1)), μ.2) P) : mW G d ad M_Mo_field 324 [some (.ref (ad 50)), o1, o2, some (.int x3), o4, some (.int x5), o6, o7] st μ P :=
  fun H0 H hM hm hu => zw_aload_n (i := 0) dMo_field_324 rfl rfl zRf_ref <| zw_iload (i := 5) dMo_field_325 rfl <| zw_iload_n (i := 3) dMo_field_327 rfl rfl <| zw_isub dMo_field_328 <| zw_iconst (nI 1) dMo_field_329 zki_1 <| zw_isub dMo_field_330 <| (mw_puti (M := M_Mo_field) (pc := 331) (k := 39) (v := ((x5 - x3) - (nI 1))) dMo_field_331 zp_Mo_field_130 (Nat.le_of_ble_eq_true rfl) mz_39 rfl rfl kk) H0 H hM hm hu
theorem sMo_field_334 {G : zG} {d : Nat} {ad : Nat → Nat} {μ : zMm} {P : Option Value → zMm → Prop} {st : List Value} {o1 : Option Value} {o2 : Option Value} {o3 : Option Value} {o4 : Option Value} {o7 : Option Value} {x6 : Int32} {x5 : Int32} (kk : mW G d ad M_Mo_field 345 [some (.ref (ad 50)), o1, o2, o3, o4, some (.int x5), some (.int x6), o7] st (upd μ.1 40 ((x6 - x5) - (nI 1)), μ.2) P) : mW G d ad M_Mo_field 334 [some (.ref (ad 50)), o1, o2, o3, o4, some (.int x5), some (.int x6), o7] st μ P :=
  fun H0 H hM hm hu => zw_aload_n (i := 0) dMo_field_334 rfl rfl zRf_ref <| zw_iload (i := 6) dMo_field_335 rfl <| zw_iload (i := 5) dMo_field_337 rfl <| zw_isub dMo_field_339 <| zw_iconst (nI 1) dMo_field_340 zki_1 <| zw_isub dMo_field_341 <| (mw_puti (M := M_Mo_field) (pc := 342) (k := 40) (v := ((x6 - x5) - (nI 1))) dMo_field_342 zp_Mo_field_133 (Nat.le_of_ble_eq_true rfl) mz_40 rfl rfl kk) H0 H hM hm hu
theorem sMo_field_345 {G : zG} {d : Nat} {ad : Nat → Nat} {μ : zMm} {P : Option Value → zMm → Prop} {st : List Value} {o0 : Option Value} {o1 : Option Value} {o2 : Option Value} {o3 : Option Value} {o4 : Option Value} {o5 : Option Value} {o6 : Option Value} {o7 : Option Value} (kk : mW G d ad M_Mo_field 348 [o0, o1, o2, o3, o4, o5, o6, some (.int (nI 0))] st μ P) : mW G d ad M_Mo_field 345 [o0, o1, o2, o3, o4, o5, o6, o7] st μ P :=
  fun H0 H hM hm hu => zw_iconst (nI 0) dMo_field_345 zki_0 <| zw_istore (i := 7) dMo_field_346 (Nat.le_of_ble_eq_true rfl) <| kk H0 H hM hm hu
theorem sMo_field_348 {G : zG} {d : Nat} {ad : Nat → Nat} {μ : zMm} {P : Option Value → zMm → Prop} {st : List Value} {o1 : Option Value} {o2 : Option Value} {o3 : Option Value} {o4 : Option Value} {o5 : Option Value} {o6 : Option Value} {x7 : Int32} (kt : ((μ.1 39) ≤ x7) → mW G d ad M_Mo_field 381 [some (.ref (ad 50)), o1, o2, o3, o4, o5, o6, some (.int x7)] st μ P) (kf : (¬ (μ.1 39) ≤ x7) → mW G d ad M_Mo_field 357 [some (.ref (ad 50)), o1, o2, o3, o4, o5, o6, some (.int x7)] st μ P) : mW G d ad M_Mo_field 348 [some (.ref (ad 50)), o1, o2, o3, o4, o5, o6, some (.int x7)] st μ P :=
  fun H0 H hM hm hu => zw_iload (i := 7) dMo_field_348 rfl <| zw_aload_n (i := 0) dMo_field_350 rfl rfl zRf_ref <| zw_getf dMo_field_351 zf_Mo_130 (hM.fi 39 (Nat.le_of_ble_eq_true rfl) mz_39) <| zw_icmp_ge 381 dMo_field_354 (by decide) (fun h => kt h H0 H hM hm hu) (fun h => kf h H0 H hM hm hu)
theorem sMo_field_357 {G : zG} {d : Nat} {ad : Nat → Nat} {μ : zMm} {P : Option Value → zMm → Prop} {st : List Value} {o1 : Option Value} {o2 : Option Value} {o4 : Option Value} {o5 : Option Value} {o6 : Option Value} {x7 : Int32} {x3 : Int32} {i1 : Nat} {i : Nat} (hx1 : ((x3 + (nI 1)) + x7) = nI i1) (hi1 : i1 < mLn 2) (hx : x7 = nI i) (hi : i < mLn 43) (kk : mW G d ad M_Mo_field 375 [some (.ref (ad 50)), o1, o2, some (.int x3), o4, o5, o6, some (.int x7)] st (μ.1, updA μ.2 43 i ((μ.2 2 i1)).toInt8.toInt32) P) : mW G d ad M_Mo_field 357 [some (.ref (ad 50)), o1, o2, some (.int x3), o4, o5, o6, some (.int x7)] st μ P :=
  fun H0 H hM hm hu => zw_aload_n (i := 0) dMo_field_357 rfl rfl zRf_ref <| zw_getf dMo_field_358 zf_Mo_136 (hM.fa 43 (Nat.le_of_ble_eq_true rfl) mn_43) <| zw_iload (i := 7) dMo_field_361 rfl <| zw_aload_n (i := 0) dMo_field_363 rfl rfl zRf_ref <| zw_getf dMo_field_364 zf_Mo_21 (hM.fa 2 (Nat.le_of_ble_eq_true rfl) mn_2) <| zw_iload_n (i := 3) dMo_field_367 rfl rfl <| zw_iconst (nI 1) dMo_field_368 zki_1 <| zw_iadd dMo_field_369 <| zw_iload (i := 7) dMo_field_370 rfl <| zw_iadd dMo_field_372 <| zw_baldN (g := μ.2 2) dMo_field_373 (hM.ab mk_2) hx1 hi1 (mLn_le _) <| (mw_bast (M := M_Mo_field) (pc := 374) (k := 43) dMo_field_374 mk_43 hx hi kk) H0 H hM hm hu
theorem sMo_field_375 {G : zG} {d : Nat} {ad : Nat → Nat} {μ : zMm} {P : Option Value → zMm → Prop} {st : List Value} {o0 : Option Value} {o1 : Option Value} {o2 : Option Value} {o3 : Option Value} {o4 : Option Value} {o5 : Option Value} {o6 : Option Value} {x7 : Int32} (kk : mW G d ad M_Mo_field 348 [o0, o1, o2, o3, o4, o5, o6, some (.int (x7 + (nI 1)))] st μ P) : mW G d ad M_Mo_field 375 [o0, o1, o2, o3, o4, o5, o6, some (.int x7)] st μ P :=
  fun H0 H hM hm hu => zw_iinc (i := 7) (x7 + (nI 1)) dMo_field_375 rfl (congrArg (fun z => x7 + z) zki_1) <| zw_goto 348 dMo_field_378 (by decide) <| kk H0 H hM hm hu
theorem sMo_field_381 {G : zG} {d : Nat} {ad : Nat → Nat} {μ : zMm} {P : Option Value → zMm → Prop} {st : List Value} {o0 : Option Value} {o1 : Option Value} {o2 : Option Value} {o3 : Option Value} {o4 : Option Value} {o5 : Option Value} {o6 : Option Value} {o7 : Option Value} (kk : mW G d ad M_Mo_field 384 [o0, o1, o2, o3, o4, o5, o6, some (.int (nI 0))] st μ P) : mW G d ad M_Mo_field 381 [o0, o1, o2, o3, o4, o5, o6, o7] st μ P :=
  fun H0 H hM hm hu => zw_iconst (nI 0) dMo_field_381 zki_0 <| zw_istore (i := 7) dMo_field_382 (Nat.le_of_ble_eq_true rfl) <| kk H0 H hM hm hu
theorem sMo_field_384 {G : zG} {d : Nat} {ad : Nat → Nat} {μ : zMm} {P : Option Value → zMm → Prop} {st : List Value} {o1 : Option Value} {o2 : Option Value} {o3 : Option Value} {o4 : Option Value} {o5 : Option Value} {o6 : Option Value} {x7 : Int32} (kt : ((μ.1 40) ≤ x7) → mW G d ad M_Mo_field 421 [some (.ref (ad 50)), o1, o2, o3, o4, o5, o6, some (.int x7)] st μ P) (kf : (¬ (μ.1 40) ≤ x7) → mW G d ad M_Mo_field 393 [some (.ref (ad 50)), o1, o2, o3, o4, o5, o6, some (.int x7)] st μ P) : mW G d ad M_Mo_field 384 [some (.ref (ad 50)), o1, o2, o3, o4, o5, o6, some (.int x7)] st μ P :=
  fun H0 H hM hm hu => zw_iload (i := 7) dMo_field_384 rfl <| zw_aload_n (i := 0) dMo_field_386 rfl rfl zRf_ref <| zw_getf dMo_field_387 zf_Mo_133 (hM.fi 40 (Nat.le_of_ble_eq_true rfl) mz_40) <| zw_icmp_ge 421 dMo_field_390 (by decide) (fun h => kt h H0 H hM hm hu) (fun h => kf h H0 H hM hm hu)
theorem sMo_field_393 {G : zG} {d : Nat} {ad : Nat → Nat} {μ : zMm} {P : Option Value → zMm → Prop} {st : List Value} {o1 : Option Value} {o2 : Option Value} {o3 : Option Value} {o4 : Option Value} {o6 : Option Value} {x7 : Int32} {x5 : Int32} {i1 : Nat} {i : Nat} (hx1 : ((x5 + (nI 1)) + x7) = nI i1) (hi1 : i1 < mLn 2) (hx : ((nI 8) + x7) = nI i) (hi : i < mLn 43) (kk : mW G d ad M_Mo_field 415 [some (.ref (ad 50)), o1, o2, o3, o4, some (.int x5), o6, some (.int x7)] st (μ.1, updA μ.2 43 i ((μ.2 2 i1)).toInt8.toInt32) P) : mW G d ad M_Mo_field 393 [some (.ref (ad 50)), o1, o2, o3, o4, some (.int x5), o6, some (.int x7)] st μ P :=
  fun H0 H hM hm hu => zw_aload_n (i := 0) dMo_field_393 rfl rfl zRf_ref <| zw_getf dMo_field_394 zf_Mo_136 (hM.fa 43 (Nat.le_of_ble_eq_true rfl) mn_43) <| zw_bipush (nI 8) dMo_field_397 zkb_8 <| zw_iload (i := 7) dMo_field_399 rfl <| zw_iadd dMo_field_401 <| zw_aload_n (i := 0) dMo_field_402 rfl rfl zRf_ref <| zw_getf dMo_field_403 zf_Mo_21 (hM.fa 2 (Nat.le_of_ble_eq_true rfl) mn_2) <| zw_iload (i := 5) dMo_field_406 rfl <| zw_iconst (nI 1) dMo_field_408 zki_1 <| zw_iadd dMo_field_409 <| zw_iload (i := 7) dMo_field_410 rfl <| zw_iadd dMo_field_412 <| zw_baldN (g := μ.2 2) dMo_field_413 (hM.ab mk_2) hx1 hi1 (mLn_le _) <| (mw_bast (M := M_Mo_field) (pc := 414) (k := 43) dMo_field_414 mk_43 hx hi kk) H0 H hM hm hu
theorem sMo_field_415 {G : zG} {d : Nat} {ad : Nat → Nat} {μ : zMm} {P : Option Value → zMm → Prop} {st : List Value} {o0 : Option Value} {o1 : Option Value} {o2 : Option Value} {o3 : Option Value} {o4 : Option Value} {o5 : Option Value} {o6 : Option Value} {x7 : Int32} (kk : mW G d ad M_Mo_field 384 [o0, o1, o2, o3, o4, o5, o6, some (.int (x7 + (nI 1)))] st μ P) : mW G d ad M_Mo_field 415 [o0, o1, o2, o3, o4, o5, o6, some (.int x7)] st μ P :=
  fun H0 H hM hm hu => zw_iinc (i := 7) (x7 + (nI 1)) dMo_field_415 rfl (congrArg (fun z => x7 + z) zki_1) <| zw_goto 384 dMo_field_418 (by decide) <| kk H0 H hM hm hu
theorem sMo_field_421 {G : zG} {d : Nat} {ad : Nat → Nat} {μ : zMm} {P : Option Value → zMm → Prop} {o0 : Option Value} {o1 : Option Value} {o2 : Option Value} {o3 : Option Value} {o4 : Option Value} {o5 : Option Value} {o6 : Option Value} {o7 : Option Value} (hn : narrow .boolean (.int (nI 1)) = .int (nI 1)) (hq : P (some (.int (nI 1))) μ) : mW G d ad M_Mo_field 421 [o0, o1, o2, o3, o4, o5, o6, o7] [] μ P :=
  fun H0 H hM hm hu => zw_iconst (nI 1) dMo_field_421 zki_1 <| zw_iret dMo_field_422 .boolean rfl hn ⟨μ, hq, hM, hm, hu⟩
theorem sMo_field_423 {G : zG} {d : Nat} {ad : Nat → Nat} {μ : zMm} {P : Option Value → zMm → Prop} {st : List Value} {o0 : Option Value} {o1 : Option Value} {o2 : Option Value} {o3 : Option Value} {o5 : Option Value} {o6 : Option Value} {o7 : Option Value} {x4 : Int32} (kt : (¬ x4 = (nI 2)) → mW G d ad M_Mo_field 489 [o0, o1, o2, o3, some (.int x4), o5, o6, o7] st μ P) (kf : (x4 = (nI 2)) → mW G d ad M_Mo_field 429 [o0, o1, o2, o3, some (.int x4), o5, o6, o7] st μ P) : mW G d ad M_Mo_field 423 [o0, o1, o2, o3, some (.int x4), o5, o6, o7] st μ P :=
  fun H0 H hM hm hu => zw_iload (i := 4) dMo_field_423 rfl <| zw_iconst (nI 2) dMo_field_425 zki_2 <| zw_icmp_ne 489 dMo_field_426 (by decide) (fun h => kt h H0 H hM hm hu) (fun h => kf h H0 H hM hm hu)
theorem sMo_field_429 {G : zG} {d : Nat} {ad : Nat → Nat} {μ : zMm} {P : Option Value → zMm → Prop} {st : List Value} {o2 : Option Value} {o4 : Option Value} {o5 : Option Value} {o6 : Option Value} {o7 : Option Value} {x1 : Int32} {x3 : Int32} (kk : mW G d ad M_Mo_field 435 [some (.ref (ad 50)), some (.int x1), o2, some (.int x3), o4, o5, o6, o7] ((.int x3) :: (.int x1) :: (.ref (ad 2)) :: st) μ P) : mW G d ad M_Mo_field 429 [some (.ref (ad 50)), some (.int x1), o2, some (.int x3), o4, o5, o6, o7] st μ P :=
  fun H0 H hM hm hu => zw_aload_n (i := 0) dMo_field_429 rfl rfl zRf_ref <| zw_getf dMo_field_430 zf_Mo_21 (hM.fa 2 (Nat.le_of_ble_eq_true rfl) mn_2) <| zw_iload_n (i := 1) dMo_field_433 rfl rfl <| zw_iload_n (i := 3) dMo_field_434 rfl rfl <| kk H0 H hM hm hu
theorem sMo_field_441 {G : zG} {d : Nat} {ad : Nat → Nat} {μ : zMm} {P : Option Value → zMm → Prop} {st : List Value} {o0 : Option Value} {o1 : Option Value} {o2 : Option Value} {o3 : Option Value} {o4 : Option Value} {o5 : Option Value} {o6 : Option Value} {o7 : Option Value} {xs0 : Int32} (kt : (xs0 = 0) → mW G d ad M_Mo_field 489 [o0, o1, o2, o3, o4, o5, o6, o7] st μ P) (kf : (¬ xs0 = 0) → mW G d ad M_Mo_field 444 [o0, o1, o2, o3, o4, o5, o6, o7] st μ P) : mW G d ad M_Mo_field 441 [o0, o1, o2, o3, o4, o5, o6, o7] ((.int xs0) :: st) μ P :=
  fun H0 H hM hm hu => zw_if_eq 489 dMo_field_441 (by decide) (fun h => kt h H0 H hM hm hu) (fun h => kf h H0 H hM hm hu)
theorem sMo_field_444 {G : zG} {d : Nat} {ad : Nat → Nat} {μ : zMm} {P : Option Value → zMm → Prop} {st : List Value} {o1 : Option Value} {o2 : Option Value} {o3 : Option Value} {o4 : Option Value} {o5 : Option Value} {o6 : Option Value} {o7 : Option Value} (kt : (0 < (μ.1 41)) → mW G d ad M_Mo_field 467 [some (.ref (ad 50)), o1, o2, o3, o4, o5, o6, o7] st μ P) (kf : (¬ 0 < (μ.1 41)) → mW G d ad M_Mo_field 451 [some (.ref (ad 50)), o1, o2, o3, o4, o5, o6, o7] st μ P) : mW G d ad M_Mo_field 444 [some (.ref (ad 50)), o1, o2, o3, o4, o5, o6, o7] st μ P :=
  fun H0 H hM hm hu => zw_aload_n (i := 0) dMo_field_444 rfl rfl zRf_ref <| zw_getf dMo_field_445 zf_Mo_141 (hM.fi 41 (Nat.le_of_ble_eq_true rfl) mz_41) <| zw_if_gt 467 dMo_field_448 (by decide) (fun h => kt h H0 H hM hm hu) (fun h => kf h H0 H hM hm hu)
theorem sMo_field_451 {G : zG} {d : Nat} {ad : Nat → Nat} {μ : zMm} {P : Option Value → zMm → Prop} {st : List Value} {o1 : Option Value} {o4 : Option Value} {o5 : Option Value} {o6 : Option Value} {o7 : Option Value} {x3 : Int32} {x2 : Int32} {P2 : Int32 → zMm → Prop} (hd : 1 ≤ d) (hl : st.length ≤ 4) (hc : mC G (d - 1) ad M_Mo_refer [(.ref (ad 50)), (.ref (ad 2)), (.int (x3 + (nI 1))), (.int x2), (.int (nI 3))] μ (mPi P2)) (kk : ∀ (r : Int32) (μ1 : zMm), P2 r μ1 → mW G d ad M_Mo_field 464 [some (.ref (ad 50)), o1, some (.int x2), some (.int x3), o4, o5, o6, o7] ((.int r) :: st) μ1 P) : mW G d ad M_Mo_field 451 [some (.ref (ad 50)), o1, some (.int x2), some (.int x3), o4, o5, o6, o7] st μ P :=
  fun H0 H hM hm hu => zw_aload_n (i := 0) dMo_field_451 rfl rfl zRf_ref <| zw_aload_n (i := 0) dMo_field_452 rfl rfl zRf_ref <| zw_getf dMo_field_453 zf_Mo_21 (hM.fa 2 (Nat.le_of_ble_eq_true rfl) mn_2) <| zw_iload_n (i := 3) dMo_field_456 rfl rfl <| zw_iconst (nI 1) dMo_field_457 zki_1 <| zw_iadd dMo_field_458 <| zw_iload_n (i := 2) dMo_field_459 rfl rfl <| zw_iconst (nI 3) dMo_field_460 zki_3 <| zw_callV [(.ref (ad 2)), (.int (x3 + (nI 1))), (.int x2), (.int (nI 3))] _ dMo_field_461 hd zk_Mo_144 hM.is rfl rfl hl (hc H hM) (mPi_k kk hm hu)
theorem sMo_field_464 {G : zG} {d : Nat} {ad : Nat → Nat} {μ : zMm} {P : Option Value → zMm → Prop} {st : List Value} {o0 : Option Value} {o1 : Option Value} {o2 : Option Value} {o3 : Option Value} {o4 : Option Value} {o5 : Option Value} {o6 : Option Value} {o7 : Option Value} {xs0 : Int32} (kt : (¬ xs0 = 0) → mW G d ad M_Mo_field 469 [o0, o1, o2, o3, o4, o5, o6, o7] st μ P) (kf : (xs0 = 0) → mW G d ad M_Mo_field 467 [o0, o1, o2, o3, o4, o5, o6, o7] st μ P) : mW G d ad M_Mo_field 464 [o0, o1, o2, o3, o4, o5, o6, o7] ((.int xs0) :: st) μ P :=
  fun H0 H hM hm hu => zw_if_ne 469 dMo_field_464 (by decide) (fun h => kt h H0 H hM hm hu) (fun h => kf h H0 H hM hm hu)
theorem sMo_field_467 {G : zG} {d : Nat} {ad : Nat → Nat} {μ : zMm} {P : Option Value → zMm → Prop} {o0 : Option Value} {o1 : Option Value} {o2 : Option Value} {o3 : Option Value} {o4 : Option Value} {o5 : Option Value} {o6 : Option Value} {o7 : Option Value} (hn : narrow .boolean (.int (nI 0)) = .int (nI 0)) (hq : P (some (.int (nI 0))) μ) : mW G d ad M_Mo_field 467 [o0, o1, o2, o3, o4, o5, o6, o7] [] μ P :=
  fun H0 H hM hm hu => zw_iconst (nI 0) dMo_field_467 zki_0 <| zw_iret dMo_field_468 .boolean rfl hn ⟨μ, hq, hM, hm, hu⟩
theorem sMo_field_469 {G : zG} {d : Nat} {ad : Nat → Nat} {μ : zMm} {P : Option Value → zMm → Prop} {st : List Value} {o1 : Option Value} {o2 : Option Value} {o3 : Option Value} {o4 : Option Value} {o5 : Option Value} {o6 : Option Value} {o7 : Option Value} (kk : mW G d ad M_Mo_field 474 [some (.ref (ad 50)), o1, o2, o3, o4, o5, o6, o7] st (upd μ.1 41 (nI 1), μ.2) P) : mW G d ad M_Mo_field 469 [some (.ref (ad 50)), o1, o2, o3, o4, o5, o6, o7] st μ P :=
  fun H0 H hM hm hu => zw_aload_n (i := 0) dMo_field_469 rfl rfl zRf_ref <| zw_iconst (nI 1) dMo_field_470 zki_1 <| (mw_puti (M := M_Mo_field) (pc := 471) (k := 41) (v := (nI 1)) dMo_field_471 zp_Mo_field_141 (Nat.le_of_ble_eq_true rfl) mz_41 rfl rfl kk) H0 H hM hm hu
theorem sMo_field_474 {G : zG} {d : Nat} {ad : Nat → Nat} {μ : zMm} {P : Option Value → zMm → Prop} {st : List Value} {o1 : Option Value} {o2 : Option Value} {o3 : Option Value} {o4 : Option Value} {o5 : Option Value} {o6 : Option Value} {o7 : Option Value} {P2 : zMm → Prop} (hd : 1 ≤ d) (hl : st.length ≤ 4) (hc : mC G (d - 1) ad M_Mo_copyRow [(.ref (ad 50)), (.int (nI 4)), (.int (nI 0))] μ (mPv P2)) (kk : ∀ μ1 : zMm, P2 μ1 → mW G d ad M_Mo_field 480 [some (.ref (ad 50)), o1, o2, o3, o4, o5, o6, o7] st μ1 P) : mW G d ad M_Mo_field 474 [some (.ref (ad 50)), o1, o2, o3, o4, o5, o6, o7] st μ P :=
  fun H0 H hM hm hu => zw_aload_n (i := 0) dMo_field_474 rfl rfl zRf_ref <| zw_iconst (nI 4) dMo_field_475 zki_4 <| zw_iconst (nI 0) dMo_field_476 zki_0 <| zw_callV [(.int (nI 4)), (.int (nI 0))] _ dMo_field_477 hd zk_Mo_148 hM.is rfl rfl hl (hc H hM) (mPv_k kk hm hu)
theorem sMo_field_480 {G : zG} {d : Nat} {ad : Nat → Nat} {μ : zMm} {P : Option Value → zMm → Prop} {st : List Value} {o1 : Option Value} {o2 : Option Value} {o3 : Option Value} {o4 : Option Value} {o5 : Option Value} {o6 : Option Value} {o7 : Option Value} {i : Nat} (hx : (nI 4) = nI i) (hi : i < mLn 8) (kk : mW G d ad M_Mo_field 487 [some (.ref (ad 50)), o1, o2, o3, o4, o5, o6, o7] st (μ.1, updA μ.2 8 i (nI 0)) P) : mW G d ad M_Mo_field 480 [some (.ref (ad 50)), o1, o2, o3, o4, o5, o6, o7] st μ P :=
  fun H0 H hM hm hu => zw_aload_n (i := 0) dMo_field_480 rfl rfl zRf_ref <| zw_getf dMo_field_481 zf_Mo_43 (hM.fa 8 (Nat.le_of_ble_eq_true rfl) mn_8) <| zw_iconst (nI 4) dMo_field_484 zki_4 <| zw_iconst (nI 0) dMo_field_485 zki_0 <| (mw_iast (M := M_Mo_field) (pc := 486) (k := 8) dMo_field_486 mk_8 hx hi kk) H0 H hM hm hu
theorem sMo_field_487 {G : zG} {d : Nat} {ad : Nat → Nat} {μ : zMm} {P : Option Value → zMm → Prop} {o0 : Option Value} {o1 : Option Value} {o2 : Option Value} {o3 : Option Value} {o4 : Option Value} {o5 : Option Value} {o6 : Option Value} {o7 : Option Value} (hn : narrow .boolean (.int (nI 1)) = .int (nI 1)) (hq : P (some (.int (nI 1))) μ) : mW G d ad M_Mo_field 487 [o0, o1, o2, o3, o4, o5, o6, o7] [] μ P :=
  fun H0 H hM hm hu => zw_iconst (nI 1) dMo_field_487 zki_1 <| zw_iret dMo_field_488 .boolean rfl hn ⟨μ, hq, hM, hm, hu⟩
theorem sMo_field_489 {G : zG} {d : Nat} {ad : Nat → Nat} {μ : zMm} {P : Option Value → zMm → Prop} {o0 : Option Value} {o1 : Option Value} {o2 : Option Value} {o3 : Option Value} {o4 : Option Value} {o5 : Option Value} {o6 : Option Value} {o7 : Option Value} (hn : narrow .boolean (.int (nI 0)) = .int (nI 0)) (hq : P (some (.int (nI 0))) μ) : mW G d ad M_Mo_field 489 [o0, o1, o2, o3, o4, o5, o6, o7] [] μ P :=
  fun H0 H hM hm hu => zw_iconst (nI 0) dMo_field_489 zki_0 <| zw_iret dMo_field_490 .boolean rfl hn ⟨μ, hq, hM, hm, hu⟩
theorem sMo_isWord_0 {G : zG} {d : Nat} {ad : Nat → Nat} {μ : zMm} {P : Option Value → zMm → Prop} {st : List Value} {o0 : Option Value} {o2 : Option Value} {o3 : Option Value} {o4 : Option Value} {o5 : Option Value} {o6 : Option Value} {o7 : Option Value} {x1 : Int32} (kk : mW G d ad M_Mo_isWord 3 [o0, some (.int x1), o2, o3, o4, some (.int x1), o6, o7] st μ P) : mW G d ad M_Mo_isWord 0 [o0, some (.int x1), o2, o3, o4, o5, o6, o7] st μ P :=
  fun H0 H hM hm hu => zw_iload_n (i := 1) dMo_isWord_0 rfl rfl <| zw_istore (i := 5) dMo_isWord_1 (Nat.le_of_ble_eq_true rfl) <| kk H0 H hM hm hu
theorem sMo_isWord_13 {G : zG} {d : Nat} {ad : Nat → Nat} {μ : zMm} {P : Option Value → zMm → Prop} {st : List Value} {o0 : Option Value} {o1 : Option Value} {o3 : Option Value} {o4 : Option Value} {o6 : Option Value} {o7 : Option Value} {x5 : Int32} {x2 : Int32} (kt : (x2 ≤ x5) → mW G d ad M_Mo_isWord 36 [o0, o1, some (.int x2), o3, o4, some (.int x5), o6, o7] st μ P) (kf : (¬ x2 ≤ x5) → mW G d ad M_Mo_isWord 19 [o0, o1, some (.int x2), o3, o4, some (.int x5), o6, o7] st μ P) : mW G d ad M_Mo_isWord 13 [o0, o1, some (.int x2), o3, o4, some (.int x5), o6, o7] st μ P :=
  fun H0 H hM hm hu => zw_iload (i := 5) dMo_isWord_13 rfl <| zw_iload_n (i := 2) dMo_isWord_15 rfl rfl <| zw_icmp_ge 36 dMo_isWord_16 (by decide) (fun h => kt h H0 H hM hm hu) (fun h => kf h H0 H hM hm hu)
theorem sMo_isWord_19 {G : zG} {d : Nat} {ad : Nat → Nat} {μ : zMm} {P : Option Value → zMm → Prop} {st : List Value} {o1 : Option Value} {o2 : Option Value} {o3 : Option Value} {o4 : Option Value} {o6 : Option Value} {o7 : Option Value} {k0 : Nat} {x5 : Int32} {i1 : Nat} (hkk0 : mB k0) (hx1 : x5 = nI i1) (hi1 : i1 < mLn k0) (kk : mW G d ad M_Mo_isWord 25 [some (.ref (ad k0)), o1, o2, o3, o4, some (.int x5), o6, o7] ((.int (nI 96)) :: (.int (μ.2 k0 i1)) :: st) μ P) : mW G d ad M_Mo_isWord 19 [some (.ref (ad k0)), o1, o2, o3, o4, some (.int x5), o6, o7] st μ P :=
  fun H0 H hM hm hu => zw_aload_n (i := 0) dMo_isWord_19 rfl rfl zRf_ref <| zw_iload (i := 5) dMo_isWord_20 rfl <| zw_baldN (g := μ.2 k0) dMo_isWord_22 (hM.ab hkk0) hx1 hi1 (mLn_le _) <| zw_bipush (nI 96) dMo_isWord_23 zkb_96 <| kk H0 H hM hm hu
theorem sMo_isWord_36 {G : zG} {d : Nat} {ad : Nat → Nat} {μ : zMm} {P : Option Value → zMm → Prop} {o0 : Option Value} {o1 : Option Value} {o2 : Option Value} {o3 : Option Value} {o4 : Option Value} {o5 : Option Value} {o6 : Option Value} {o7 : Option Value} (hn : narrow .boolean (.int (nI 0)) = .int (nI 0)) (hq : P (some (.int (nI 0))) μ) : mW G d ad M_Mo_isWord 36 [o0, o1, o2, o3, o4, o5, o6, o7] [] μ P :=
  fun H0 H hM hm hu => zw_iconst (nI 0) dMo_isWord_36 zki_0 <| zw_iret dMo_isWord_37 .boolean rfl hn ⟨μ, hq, hM, hm, hu⟩
theorem sMo_isWord_38 {G : zG} {d : Nat} {ad : Nat → Nat} {μ : zMm} {P : Option Value → zMm → Prop} {st : List Value} {o0 : Option Value} {o1 : Option Value} {o2 : Option Value} {o3 : Option Value} {o4 : Option Value} {o6 : Option Value} {o7 : Option Value} {x5 : Int32} (kk : mW G d ad M_Mo_isWord 41 [o0, o1, o2, o3, o4, some (.int (x5 + (nI 1))), o6, o7] st μ P) : mW G d ad M_Mo_isWord 38 [o0, o1, o2, o3, o4, some (.int x5), o6, o7] st μ P :=
  fun H0 H hM hm hu => zw_iinc (i := 5) (x5 + (nI 1)) dMo_isWord_38 rfl (congrArg (fun z => x5 + z) zki_1) <| kk H0 H hM hm hu
theorem sMo_isWord_50 {G : zG} {d : Nat} {ad : Nat → Nat} {μ : zMm} {P : Option Value → zMm → Prop} {o0 : Option Value} {o1 : Option Value} {o2 : Option Value} {o3 : Option Value} {o4 : Option Value} {o5 : Option Value} {o6 : Option Value} {o7 : Option Value} (hn : narrow .boolean (.int (nI 1)) = .int (nI 1)) (hq : P (some (.int (nI 1))) μ) : mW G d ad M_Mo_isWord 50 [o0, o1, o2, o3, o4, o5, o6, o7] [] μ P :=
  fun H0 H hM hm hu => zw_iconst (nI 1) dMo_isWord_50 zki_1 <| zw_iret dMo_isWord_51 .boolean rfl hn ⟨μ, hq, hM, hm, hu⟩
theorem sMo_alike_0 {G : zG} {d : Nat} {ad : Nat → Nat} {μ : zMm} {P : Option Value → zMm → Prop} {st : List Value} {x1 : Int32} {x2 : Int32} {i1 : Nat} {i2 : Nat} (hx1 : x1 = nI i1) (hi1 : i1 < mLn 7) (hx2 : x2 = nI i2) (hi2 : i2 < mLn 7) (kt : (¬ (μ.2 7 i1) = (μ.2 7 i2)) → mW G d ad M_Mo_alike 49 [some (.ref (ad 50)), some (.int x1), some (.int x2)] st μ P) (kf : ((μ.2 7 i1) = (μ.2 7 i2)) → mW G d ad M_Mo_alike 15 [some (.ref (ad 50)), some (.int x1), some (.int x2)] st μ P) : mW G d ad M_Mo_alike 0 [some (.ref (ad 50)), some (.int x1), some (.int x2)] st μ P :=
  fun H0 H hM hm hu => zw_aload_n (i := 0) dMo_alike_0 rfl rfl zRf_ref <| zw_getf dMo_alike_1 zf_Mo_39 (hM.fa 7 (Nat.le_of_ble_eq_true rfl) mn_7) <| zw_iload_n (i := 1) dMo_alike_4 rfl rfl <| zw_ialdN (g := μ.2 7) dMo_alike_5 (hM.ai mk_7) hx1 hi1 (mLn_le _) <| zw_aload_n (i := 0) dMo_alike_6 rfl rfl zRf_ref <| zw_getf dMo_alike_7 zf_Mo_39 (hM.fa 7 (Nat.le_of_ble_eq_true rfl) mn_7) <| zw_iload_n (i := 2) dMo_alike_10 rfl rfl <| zw_ialdN (g := μ.2 7) dMo_alike_11 (hM.ai mk_7) hx2 hi2 (mLn_le _) <| zw_icmp_ne 49 dMo_alike_12 (by decide) (fun h => kt h H0 H hM hm hu) (fun h => kf h H0 H hM hm hu)
theorem sMo_alike_15 {G : zG} {d : Nat} {ad : Nat → Nat} {μ : zMm} {P : Option Value → zMm → Prop} {st : List Value} {x1 : Int32} {x2 : Int32} {i1 : Nat} {P2 : Int32 → zMm → Prop} (hx1 : x1 = nI i1) (hi1 : i1 < mLn 7) (hd : 1 ≤ d) (hl : st.length ≤ 4) (hc : mC G (d - 1) ad M_Mo_same [(.ref (ad 6)), (.int (x1 * (nI 150))), (.ref (ad 6)), (.int (x2 * (nI 150))), (.int (μ.2 7 i1))] μ (mPi P2)) (kk : ∀ (r : Int32) (μ1 : zMm), P2 r μ1 → mW G d ad M_Mo_alike 42 [some (.ref (ad 50)), some (.int x1), some (.int x2)] ((.int r) :: st) μ1 P) : mW G d ad M_Mo_alike 15 [some (.ref (ad 50)), some (.int x1), some (.int x2)] st μ P :=
  fun H0 H hM hm hu => zw_aload_n (i := 0) dMo_alike_15 rfl rfl zRf_ref <| zw_getf dMo_alike_16 zf_Mo_36 (hM.fa 6 (Nat.le_of_ble_eq_true rfl) mn_6) <| zw_iload_n (i := 1) dMo_alike_19 rfl rfl <| zw_sipush (nI 150) dMo_alike_20 zks_150 <| zw_imul dMo_alike_23 <| zw_aload_n (i := 0) dMo_alike_24 rfl rfl zRf_ref <| zw_getf dMo_alike_25 zf_Mo_36 (hM.fa 6 (Nat.le_of_ble_eq_true rfl) mn_6) <| zw_iload_n (i := 2) dMo_alike_28 rfl rfl <| zw_sipush (nI 150) dMo_alike_29 zks_150 <| zw_imul dMo_alike_32 <| zw_aload_n (i := 0) dMo_alike_33 rfl rfl zRf_ref <| zw_getf dMo_alike_34 zf_Mo_39 (hM.fa 7 (Nat.le_of_ble_eq_true rfl) mn_7) <| zw_iload_n (i := 1) dMo_alike_37 rfl rfl <| zw_ialdN (g := μ.2 7) dMo_alike_38 (hM.ai mk_7) hx1 hi1 (mLn_le _) <| zw_callS [(.ref (ad 6)), (.int (x1 * (nI 150))), (.ref (ad 6)), (.int (x2 * (nI 150))), (.int (μ.2 7 i1))] _ dMo_alike_39 hd zk_Mo_46 rfl rfl hl (hc H hM) (mPi_k kk hm hu)
theorem sMo_alike_42 {G : zG} {d : Nat} {ad : Nat → Nat} {μ : zMm} {P : Option Value → zMm → Prop} {st : List Value} {o0 : Option Value} {o1 : Option Value} {o2 : Option Value} {xs0 : Int32} (kt : (xs0 = 0) → mW G d ad M_Mo_alike 49 [o0, o1, o2] st μ P) (kf : (¬ xs0 = 0) → mW G d ad M_Mo_alike 45 [o0, o1, o2] st μ P) : mW G d ad M_Mo_alike 42 [o0, o1, o2] ((.int xs0) :: st) μ P :=
  fun H0 H hM hm hu => zw_if_eq 49 dMo_alike_42 (by decide) (fun h => kt h H0 H hM hm hu) (fun h => kf h H0 H hM hm hu)
theorem sMo_alike_45 {G : zG} {d : Nat} {ad : Nat → Nat} {μ : zMm} {P : Option Value → zMm → Prop} {o0 : Option Value} {o1 : Option Value} {o2 : Option Value} (hn : narrow .boolean (.int (nI 1)) = .int (nI 1)) (hq : P (some (.int (nI 1))) μ) : mW G d ad M_Mo_alike 45 [o0, o1, o2] [] μ P :=
  fun H0 H hM hm hu => zw_iconst (nI 1) dMo_alike_45 zki_1 <| zw_goto 50 dMo_alike_46 (by decide) <| zw_iret dMo_alike_50 .boolean rfl hn ⟨μ, hq, hM, hm, hu⟩
theorem sMo_alike_49 {G : zG} {d : Nat} {ad : Nat → Nat} {μ : zMm} {P : Option Value → zMm → Prop} {o0 : Option Value} {o1 : Option Value} {o2 : Option Value} (hn : narrow .boolean (.int (nI 0)) = .int (nI 0)) (hq : P (some (.int (nI 0))) μ) : mW G d ad M_Mo_alike 49 [o0, o1, o2] [] μ P :=
  fun H0 H hM hm hu => zw_iconst (nI 0) dMo_alike_49 zki_0 <| zw_iret dMo_alike_50 .boolean rfl hn ⟨μ, hq, hM, hm, hu⟩
theorem sMo_alike_50 {G : zG} {d : Nat} {ad : Nat → Nat} {μ : zMm} {P : Option Value → zMm → Prop} {o0 : Option Value} {o1 : Option Value} {o2 : Option Value} {xs0 : Int32} (hn : narrow .boolean (.int xs0) = .int xs0) (hq : P (some (.int xs0)) μ) : mW G d ad M_Mo_alike 50 [o0, o1, o2] ((.int xs0) :: []) μ P :=
  fun H0 H hM hm hu => zw_iret dMo_alike_50 .boolean rfl hn ⟨μ, hq, hM, hm, hu⟩
theorem sMo_same_0 {G : zG} {d : Nat} {ad : Nat → Nat} {μ : zMm} {P : Option Value → zMm → Prop} {st : List Value} {o0 : Option Value} {o1 : Option Value} {o2 : Option Value} {o3 : Option Value} {o4 : Option Value} {o5 : Option Value} (kk : mW G d ad M_Mo_same 3 [o0, o1, o2, o3, o4, some (.int (nI 0))] st μ P) : mW G d ad M_Mo_same 0 [o0, o1, o2, o3, o4, o5] st μ P :=
  fun H0 H hM hm hu => zw_iconst (nI 0) dMo_same_0 zki_0 <| zw_istore (i := 5) dMo_same_1 (Nat.le_of_ble_eq_true rfl) <| kk H0 H hM hm hu
theorem sMo_same_3 {G : zG} {d : Nat} {ad : Nat → Nat} {μ : zMm} {P : Option Value → zMm → Prop} {st : List Value} {o0 : Option Value} {o1 : Option Value} {o2 : Option Value} {o3 : Option Value} {x5 : Int32} {x4 : Int32} (kt : (x4 ≤ x5) → mW G d ad M_Mo_same 33 [o0, o1, o2, o3, some (.int x4), some (.int x5)] st μ P) (kf : (¬ x4 ≤ x5) → mW G d ad M_Mo_same 10 [o0, o1, o2, o3, some (.int x4), some (.int x5)] st μ P) : mW G d ad M_Mo_same 3 [o0, o1, o2, o3, some (.int x4), some (.int x5)] st μ P :=
  fun H0 H hM hm hu => zw_iload (i := 5) dMo_same_3 rfl <| zw_iload (i := 4) dMo_same_5 rfl <| zw_icmp_ge 33 dMo_same_7 (by decide) (fun h => kt h H0 H hM hm hu) (fun h => kf h H0 H hM hm hu)
theorem sMo_same_10 {G : zG} {d : Nat} {ad : Nat → Nat} {μ : zMm} {P : Option Value → zMm → Prop} {st : List Value} {o4 : Option Value} {k0 : Nat} {x1 : Int32} {x5 : Int32} {k2 : Nat} {x3 : Int32} {i1 : Nat} {i2 : Nat} (hkk0 : mB k0) (hx1 : (x1 + x5) = nI i1) (hi1 : i1 < mLn k0) (hkk2 : mB k2) (hx2 : (x3 + x5) = nI i2) (hi2 : i2 < mLn k2) (kt : ((μ.2 k0 i1) = (μ.2 k2 i2)) → mW G d ad M_Mo_same 27 [some (.ref (ad k0)), some (.int x1), some (.ref (ad k2)), some (.int x3), o4, some (.int x5)] st μ P) (kf : (¬ (μ.2 k0 i1) = (μ.2 k2 i2)) → mW G d ad M_Mo_same 25 [some (.ref (ad k0)), some (.int x1), some (.ref (ad k2)), some (.int x3), o4, some (.int x5)] st μ P) : mW G d ad M_Mo_same 10 [some (.ref (ad k0)), some (.int x1), some (.ref (ad k2)), some (.int x3), o4, some (.int x5)] st μ P :=
  fun H0 H hM hm hu => zw_aload_n (i := 0) dMo_same_10 rfl rfl zRf_ref <| zw_iload_n (i := 1) dMo_same_11 rfl rfl <| zw_iload (i := 5) dMo_same_12 rfl <| zw_iadd dMo_same_14 <| zw_baldN (g := μ.2 k0) dMo_same_15 (hM.ab hkk0) hx1 hi1 (mLn_le _) <| zw_aload_n (i := 2) dMo_same_16 rfl rfl zRf_ref <| zw_iload_n (i := 3) dMo_same_17 rfl rfl <| zw_iload (i := 5) dMo_same_18 rfl <| zw_iadd dMo_same_20 <| zw_baldN (g := μ.2 k2) dMo_same_21 (hM.ab hkk2) hx2 hi2 (mLn_le _) <| zw_icmp_eq 27 dMo_same_22 (by decide) (fun h => kt h H0 H hM hm hu) (fun h => kf h H0 H hM hm hu)
theorem sMo_same_25 {G : zG} {d : Nat} {ad : Nat → Nat} {μ : zMm} {P : Option Value → zMm → Prop} {o0 : Option Value} {o1 : Option Value} {o2 : Option Value} {o3 : Option Value} {o4 : Option Value} {o5 : Option Value} (hn : narrow .boolean (.int (nI 0)) = .int (nI 0)) (hq : P (some (.int (nI 0))) μ) : mW G d ad M_Mo_same 25 [o0, o1, o2, o3, o4, o5] [] μ P :=
  fun H0 H hM hm hu => zw_iconst (nI 0) dMo_same_25 zki_0 <| zw_iret dMo_same_26 .boolean rfl hn ⟨μ, hq, hM, hm, hu⟩
theorem sMo_same_27 {G : zG} {d : Nat} {ad : Nat → Nat} {μ : zMm} {P : Option Value → zMm → Prop} {st : List Value} {o0 : Option Value} {o1 : Option Value} {o2 : Option Value} {o3 : Option Value} {o4 : Option Value} {x5 : Int32} (kk : mW G d ad M_Mo_same 3 [o0, o1, o2, o3, o4, some (.int (x5 + (nI 1)))] st μ P) : mW G d ad M_Mo_same 27 [o0, o1, o2, o3, o4, some (.int x5)] st μ P :=
  fun H0 H hM hm hu => zw_iinc (i := 5) (x5 + (nI 1)) dMo_same_27 rfl (congrArg (fun z => x5 + z) zki_1) <| zw_goto 3 dMo_same_30 (by decide) <| kk H0 H hM hm hu
theorem sMo_same_33 {G : zG} {d : Nat} {ad : Nat → Nat} {μ : zMm} {P : Option Value → zMm → Prop} {o0 : Option Value} {o1 : Option Value} {o2 : Option Value} {o3 : Option Value} {o4 : Option Value} {o5 : Option Value} (hn : narrow .boolean (.int (nI 1)) = .int (nI 1)) (hq : P (some (.int (nI 1))) μ) : mW G d ad M_Mo_same 33 [o0, o1, o2, o3, o4, o5] [] μ P :=
  fun H0 H hM hm hu => zw_iconst (nI 1) dMo_same_33 zki_1 <| zw_iret dMo_same_34 .boolean rfl hn ⟨μ, hq, hM, hm, hu⟩
theorem sMo_init_0 {G : zG} {d : Nat} {Q : Option Value → Heap → Prop} {H : Heap} {st : List Value} {a0 : Nat} (hd : 1 ≤ d) (hl : st.length ≤ 4) (kk : zW G d M_Mo_init 4 [some (.ref a0)] st H Q) : zW G d M_Mo_init 0 [some (.ref a0)] st H Q :=
  zw_aload_n (i := 0) dMo_init_0 rfl rfl zRf_ref <| zw_objInit dMo_init_1 hd (zt5 151 rfl) zo_inst zo_code hl kk
theorem sMo_init_4 {G : zG} {d : Nat} {Q : Option Value → Heap → Prop} {H : Heap} {st : List Value} {v0 : Value} {N : Nat} (hr0 : zRf v0 := by first | exact zRf_ref | exact zRf_null | exact zRf_rf _ | assumption) (hn : ¬ (2000 : Int32) < 0) (hN : ((2000 : Int32)).toNatClampNeg = N) (hb : N * componentBytes .byte ≤ 536870912) (hc1 : H.size + 1 ≤ zCp G) (hs1 : zT H + N ≤ zSp G) (kk : ∀ H1 : Heap, zArr G H1 H.size .byte N (fun _ => defaultValue .byte) → zNw N H H1 → zW G d M_Mo_init 10 [some v0] ((.ref H.size) :: v0 :: st) H1 Q) : zW G d M_Mo_init 4 [some v0] st H Q :=
  zw_aload_n (i := 0) dMo_init_4 rfl rfl hr0 <| zw_sipush (2000 : Int32) dMo_init_5 zks_2000 <| zw_newa .byte dMo_init_8 rfl (zt1 68 rfl) hn hN hb hc1 hs1 kk
theorem sMo_init_10 {G : zG} {d : Nat} {Q : Option Value → Heap → Prop} {H : Heap} {st : List Value} {o0 : Option Value} {vs0 : Value} {as1 : Nat} {b0 : Value} {b1 : Value} {b2 : Value} {b3 : Value} {b4 : Value} {b5 : Value} {b6 : Value} {b7 : Value} {b8 : Value} {b9 : Value} {b10 : Value} {b11 : Value} {b12 : Value} {b13 : Value} {b14 : Value} {b15 : Value} {b16 : Value} {b17 : Value} {b18 : Value} {b19 : Value} {b20 : Value} {b21 : Value} {b22 : Value} {b23 : Value} {b24 : Value} {b25 : Value} {b26 : Value} {b27 : Value} {b28 : Value} {b29 : Value} {b30 : Value} {b31 : Value} {b32 : Value} {b33 : Value} {b34 : Value} {b35 : Value} {b36 : Value} {b37 : Value} {b38 : Value} {b39 : Value} {b40 : Value} {b41 : Value} {b42 : Value} {b43 : Value} {b44 : Value} {b45 : Value} {b46 : Value} {b47 : Value} {b48 : Value} {b49 : Value} {b50 : Value} (hrs0 : zRf vs0 := by first | exact zRf_ref | exact zRf_null | exact zRf_rf _ | assumption) (ho : zObj G H as1 13 [b0, b1, b2, b3, b4, b5, b6, b7, b8, b9, b10, b11, b12, b13, b14, b15, b16, b17, b18, b19, b20, b21, b22, b23, b24, b25, b26, b27, b28, b29, b30, b31, b32, b33, b34, b35, b36, b37, b38, b39, b40, b41, b42, b43, b44, b45, b46, b47, b48, b49, b50]) (hw : zFr G as1) (kk : ∀ H1 : Heap, zObj G H1 as1 13 [vs0, b1, b2, b3, b4, b5, b6, b7, b8, b9, b10, b11, b12, b13, b14, b15, b16, b17, b18, b19, b20, b21, b22, b23, b24, b25, b26, b27, b28, b29, b30, b31, b32, b33, b34, b35, b36, b37, b38, b39, b40, b41, b42, b43, b44, b45, b46, b47, b48, b49, b50] → zUp as1 H H1 → zW G d M_Mo_init 13 [o0] st H1 Q) : zW G d M_Mo_init 10 [o0] (vs0 :: (.ref as1) :: st) H Q :=
  zw_putf (k := 0) dMo_init_10 zp_Mo_init_24 ho (Nat.le_of_ble_eq_true rfl) (Nat.le_of_ble_eq_true rfl) hw (zNarA hrs0) (zFitA hrs0) kk
theorem sMo_init_13 {G : zG} {d : Nat} {Q : Option Value → Heap → Prop} {H : Heap} {st : List Value} {v0 : Value} {N : Nat} (hr0 : zRf v0 := by first | exact zRf_ref | exact zRf_null | exact zRf_rf _ | assumption) (hn : ¬ (2000 : Int32) < 0) (hN : ((2000 : Int32)).toNatClampNeg = N) (hb : N * componentBytes .byte ≤ 536870912) (hc1 : H.size + 1 ≤ zCp G) (hs1 : zT H + N ≤ zSp G) (kk : ∀ H1 : Heap, zArr G H1 H.size .byte N (fun _ => defaultValue .byte) → zNw N H H1 → zW G d M_Mo_init 19 [some v0] ((.ref H.size) :: v0 :: st) H1 Q) : zW G d M_Mo_init 13 [some v0] st H Q :=
  zw_aload_n (i := 0) dMo_init_13 rfl rfl hr0 <| zw_sipush (2000 : Int32) dMo_init_14 zks_2000 <| zw_newa .byte dMo_init_17 rfl (zt1 68 rfl) hn hN hb hc1 hs1 kk
theorem sMo_init_19 {G : zG} {d : Nat} {Q : Option Value → Heap → Prop} {H : Heap} {st : List Value} {o0 : Option Value} {vs0 : Value} {as1 : Nat} {b0 : Value} {b1 : Value} {b2 : Value} {b3 : Value} {b4 : Value} {b5 : Value} {b6 : Value} {b7 : Value} {b8 : Value} {b9 : Value} {b10 : Value} {b11 : Value} {b12 : Value} {b13 : Value} {b14 : Value} {b15 : Value} {b16 : Value} {b17 : Value} {b18 : Value} {b19 : Value} {b20 : Value} {b21 : Value} {b22 : Value} {b23 : Value} {b24 : Value} {b25 : Value} {b26 : Value} {b27 : Value} {b28 : Value} {b29 : Value} {b30 : Value} {b31 : Value} {b32 : Value} {b33 : Value} {b34 : Value} {b35 : Value} {b36 : Value} {b37 : Value} {b38 : Value} {b39 : Value} {b40 : Value} {b41 : Value} {b42 : Value} {b43 : Value} {b44 : Value} {b45 : Value} {b46 : Value} {b47 : Value} {b48 : Value} {b49 : Value} {b50 : Value} (hrs0 : zRf vs0 := by first | exact zRf_ref | exact zRf_null | exact zRf_rf _ | assumption) (ho : zObj G H as1 13 [b0, b1, b2, b3, b4, b5, b6, b7, b8, b9, b10, b11, b12, b13, b14, b15, b16, b17, b18, b19, b20, b21, b22, b23, b24, b25, b26, b27, b28, b29, b30, b31, b32, b33, b34, b35, b36, b37, b38, b39, b40, b41, b42, b43, b44, b45, b46, b47, b48, b49, b50]) (hw : zFr G as1) (kk : ∀ H1 : Heap, zObj G H1 as1 13 [b0, b1, vs0, b3, b4, b5, b6, b7, b8, b9, b10, b11, b12, b13, b14, b15, b16, b17, b18, b19, b20, b21, b22, b23, b24, b25, b26, b27, b28, b29, b30, b31, b32, b33, b34, b35, b36, b37, b38, b39, b40, b41, b42, b43, b44, b45, b46, b47, b48, b49, b50] → zUp as1 H H1 → zW G d M_Mo_init 22 [o0] st H1 Q) : zW G d M_Mo_init 19 [o0] (vs0 :: (.ref as1) :: st) H Q :=
  zw_putf (k := 2) dMo_init_19 zp_Mo_init_21 ho (Nat.le_of_ble_eq_true rfl) (Nat.le_of_ble_eq_true rfl) hw (zNarA hrs0) (zFitA hrs0) kk
theorem sMo_init_22 {G : zG} {d : Nat} {Q : Option Value → Heap → Prop} {H : Heap} {st : List Value} {v0 : Value} {N : Nat} (hr0 : zRf v0 := by first | exact zRf_ref | exact zRf_null | exact zRf_rf _ | assumption) (hn : ¬ (8000 : Int32) < 0) (hN : ((8000 : Int32)).toNatClampNeg = N) (hb : N * componentBytes .byte ≤ 536870912) (hc1 : H.size + 1 ≤ zCp G) (hs1 : zT H + N ≤ zSp G) (kk : ∀ H1 : Heap, zArr G H1 H.size .byte N (fun _ => defaultValue .byte) → zNw N H H1 → zW G d M_Mo_init 28 [some v0] ((.ref H.size) :: v0 :: st) H1 Q) : zW G d M_Mo_init 22 [some v0] st H Q :=
  zw_aload_n (i := 0) dMo_init_22 rfl rfl hr0 <| zw_sipush (8000 : Int32) dMo_init_23 zks_8000 <| zw_newa .byte dMo_init_26 rfl (zt1 68 rfl) hn hN hb hc1 hs1 kk
theorem sMo_init_28 {G : zG} {d : Nat} {Q : Option Value → Heap → Prop} {H : Heap} {st : List Value} {o0 : Option Value} {vs0 : Value} {as1 : Nat} {b0 : Value} {b1 : Value} {b2 : Value} {b3 : Value} {b4 : Value} {b5 : Value} {b6 : Value} {b7 : Value} {b8 : Value} {b9 : Value} {b10 : Value} {b11 : Value} {b12 : Value} {b13 : Value} {b14 : Value} {b15 : Value} {b16 : Value} {b17 : Value} {b18 : Value} {b19 : Value} {b20 : Value} {b21 : Value} {b22 : Value} {b23 : Value} {b24 : Value} {b25 : Value} {b26 : Value} {b27 : Value} {b28 : Value} {b29 : Value} {b30 : Value} {b31 : Value} {b32 : Value} {b33 : Value} {b34 : Value} {b35 : Value} {b36 : Value} {b37 : Value} {b38 : Value} {b39 : Value} {b40 : Value} {b41 : Value} {b42 : Value} {b43 : Value} {b44 : Value} {b45 : Value} {b46 : Value} {b47 : Value} {b48 : Value} {b49 : Value} {b50 : Value} (hrs0 : zRf vs0 := by first | exact zRf_ref | exact zRf_null | exact zRf_rf _ | assumption) (ho : zObj G H as1 13 [b0, b1, b2, b3, b4, b5, b6, b7, b8, b9, b10, b11, b12, b13, b14, b15, b16, b17, b18, b19, b20, b21, b22, b23, b24, b25, b26, b27, b28, b29, b30, b31, b32, b33, b34, b35, b36, b37, b38, b39, b40, b41, b42, b43, b44, b45, b46, b47, b48, b49, b50]) (hw : zFr G as1) (kk : ∀ H1 : Heap, zObj G H1 as1 13 [b0, b1, b2, b3, vs0, b5, b6, b7, b8, b9, b10, b11, b12, b13, b14, b15, b16, b17, b18, b19, b20, b21, b22, b23, b24, b25, b26, b27, b28, b29, b30, b31, b32, b33, b34, b35, b36, b37, b38, b39, b40, b41, b42, b43, b44, b45, b46, b47, b48, b49, b50] → zUp as1 H H1 → zW G d M_Mo_init 31 [o0] st H1 Q) : zW G d M_Mo_init 28 [o0] (vs0 :: (.ref as1) :: st) H Q :=
  zw_putf (k := 4) dMo_init_28 zp_Mo_init_7 ho (Nat.le_of_ble_eq_true rfl) (Nat.le_of_ble_eq_true rfl) hw (zNarA hrs0) (zFitA hrs0) kk
theorem sMo_init_31 {G : zG} {d : Nat} {Q : Option Value → Heap → Prop} {H : Heap} {st : List Value} {v0 : Value} {N : Nat} (hr0 : zRf v0 := by first | exact zRf_ref | exact zRf_null | exact zRf_rf _ | assumption) (hn : ¬ (9900 : Int32) < 0) (hN : ((9900 : Int32)).toNatClampNeg = N) (hb : N * componentBytes .byte ≤ 536870912) (hc1 : H.size + 1 ≤ zCp G) (hs1 : zT H + N ≤ zSp G) (kk : ∀ H1 : Heap, zArr G H1 H.size .byte N (fun _ => defaultValue .byte) → zNw N H H1 → zW G d M_Mo_init 37 [some v0] ((.ref H.size) :: v0 :: st) H1 Q) : zW G d M_Mo_init 31 [some v0] st H Q :=
  zw_aload_n (i := 0) dMo_init_31 rfl rfl hr0 <| zw_sipush (9900 : Int32) dMo_init_32 zks_9900 <| zw_newa .byte dMo_init_35 rfl (zt1 68 rfl) hn hN hb hc1 hs1 kk
theorem sMo_init_37 {G : zG} {d : Nat} {Q : Option Value → Heap → Prop} {H : Heap} {st : List Value} {o0 : Option Value} {vs0 : Value} {as1 : Nat} {b0 : Value} {b1 : Value} {b2 : Value} {b3 : Value} {b4 : Value} {b5 : Value} {b6 : Value} {b7 : Value} {b8 : Value} {b9 : Value} {b10 : Value} {b11 : Value} {b12 : Value} {b13 : Value} {b14 : Value} {b15 : Value} {b16 : Value} {b17 : Value} {b18 : Value} {b19 : Value} {b20 : Value} {b21 : Value} {b22 : Value} {b23 : Value} {b24 : Value} {b25 : Value} {b26 : Value} {b27 : Value} {b28 : Value} {b29 : Value} {b30 : Value} {b31 : Value} {b32 : Value} {b33 : Value} {b34 : Value} {b35 : Value} {b36 : Value} {b37 : Value} {b38 : Value} {b39 : Value} {b40 : Value} {b41 : Value} {b42 : Value} {b43 : Value} {b44 : Value} {b45 : Value} {b46 : Value} {b47 : Value} {b48 : Value} {b49 : Value} {b50 : Value} (hrs0 : zRf vs0 := by first | exact zRf_ref | exact zRf_null | exact zRf_rf _ | assumption) (ho : zObj G H as1 13 [b0, b1, b2, b3, b4, b5, b6, b7, b8, b9, b10, b11, b12, b13, b14, b15, b16, b17, b18, b19, b20, b21, b22, b23, b24, b25, b26, b27, b28, b29, b30, b31, b32, b33, b34, b35, b36, b37, b38, b39, b40, b41, b42, b43, b44, b45, b46, b47, b48, b49, b50]) (hw : zFr G as1) (kk : ∀ H1 : Heap, zObj G H1 as1 13 [b0, b1, b2, b3, b4, b5, vs0, b7, b8, b9, b10, b11, b12, b13, b14, b15, b16, b17, b18, b19, b20, b21, b22, b23, b24, b25, b26, b27, b28, b29, b30, b31, b32, b33, b34, b35, b36, b37, b38, b39, b40, b41, b42, b43, b44, b45, b46, b47, b48, b49, b50] → zUp as1 H H1 → zW G d M_Mo_init 40 [o0] st H1 Q) : zW G d M_Mo_init 37 [o0] (vs0 :: (.ref as1) :: st) H Q :=
  zw_putf (k := 6) dMo_init_37 zp_Mo_init_36 ho (Nat.le_of_ble_eq_true rfl) (Nat.le_of_ble_eq_true rfl) hw (zNarA hrs0) (zFitA hrs0) kk
theorem sMo_init_40 {G : zG} {d : Nat} {Q : Option Value → Heap → Prop} {H : Heap} {st : List Value} {v0 : Value} {N : Nat} (hr0 : zRf v0 := by first | exact zRf_ref | exact zRf_null | exact zRf_rf _ | assumption) (hn : ¬ (66 : Int32) < 0) (hN : ((66 : Int32)).toNatClampNeg = N) (hb : N * componentBytes .int ≤ 536870912) (hc1 : H.size + 1 ≤ zCp G) (hs1 : zT H + N ≤ zSp G) (kk : ∀ H1 : Heap, zArr G H1 H.size .int N (fun _ => defaultValue .int) → zNw N H H1 → zW G d M_Mo_init 45 [some v0] ((.ref H.size) :: v0 :: st) H1 Q) : zW G d M_Mo_init 40 [some v0] st H Q :=
  zw_aload_n (i := 0) dMo_init_40 rfl rfl hr0 <| zw_bipush (66 : Int32) dMo_init_41 zkb_66 <| zw_newa .int dMo_init_43 rfl (zt6 65 rfl) hn hN hb hc1 hs1 kk
theorem sMo_init_45 {G : zG} {d : Nat} {Q : Option Value → Heap → Prop} {H : Heap} {st : List Value} {o0 : Option Value} {vs0 : Value} {as1 : Nat} {b0 : Value} {b1 : Value} {b2 : Value} {b3 : Value} {b4 : Value} {b5 : Value} {b6 : Value} {b7 : Value} {b8 : Value} {b9 : Value} {b10 : Value} {b11 : Value} {b12 : Value} {b13 : Value} {b14 : Value} {b15 : Value} {b16 : Value} {b17 : Value} {b18 : Value} {b19 : Value} {b20 : Value} {b21 : Value} {b22 : Value} {b23 : Value} {b24 : Value} {b25 : Value} {b26 : Value} {b27 : Value} {b28 : Value} {b29 : Value} {b30 : Value} {b31 : Value} {b32 : Value} {b33 : Value} {b34 : Value} {b35 : Value} {b36 : Value} {b37 : Value} {b38 : Value} {b39 : Value} {b40 : Value} {b41 : Value} {b42 : Value} {b43 : Value} {b44 : Value} {b45 : Value} {b46 : Value} {b47 : Value} {b48 : Value} {b49 : Value} {b50 : Value} (hrs0 : zRf vs0 := by first | exact zRf_ref | exact zRf_null | exact zRf_rf _ | assumption) (ho : zObj G H as1 13 [b0, b1, b2, b3, b4, b5, b6, b7, b8, b9, b10, b11, b12, b13, b14, b15, b16, b17, b18, b19, b20, b21, b22, b23, b24, b25, b26, b27, b28, b29, b30, b31, b32, b33, b34, b35, b36, b37, b38, b39, b40, b41, b42, b43, b44, b45, b46, b47, b48, b49, b50]) (hw : zFr G as1) (kk : ∀ H1 : Heap, zObj G H1 as1 13 [b0, b1, b2, b3, b4, b5, b6, vs0, b8, b9, b10, b11, b12, b13, b14, b15, b16, b17, b18, b19, b20, b21, b22, b23, b24, b25, b26, b27, b28, b29, b30, b31, b32, b33, b34, b35, b36, b37, b38, b39, b40, b41, b42, b43, b44, b45, b46, b47, b48, b49, b50] → zUp as1 H H1 → zW G d M_Mo_init 48 [o0] st H1 Q) : zW G d M_Mo_init 45 [o0] (vs0 :: (.ref as1) :: st) H Q :=
  zw_putf (k := 7) dMo_init_45 zp_Mo_init_39 ho (Nat.le_of_ble_eq_true rfl) (Nat.le_of_ble_eq_true rfl) hw (zNarA hrs0) (zFitA hrs0) kk
theorem sMo_init_48 {G : zG} {d : Nat} {Q : Option Value → Heap → Prop} {H : Heap} {st : List Value} {v0 : Value} {N : Nat} (hr0 : zRf v0 := by first | exact zRf_ref | exact zRf_null | exact zRf_rf _ | assumption) (hn : ¬ (66 : Int32) < 0) (hN : ((66 : Int32)).toNatClampNeg = N) (hb : N * componentBytes .int ≤ 536870912) (hc1 : H.size + 1 ≤ zCp G) (hs1 : zT H + N ≤ zSp G) (kk : ∀ H1 : Heap, zArr G H1 H.size .int N (fun _ => defaultValue .int) → zNw N H H1 → zW G d M_Mo_init 53 [some v0] ((.ref H.size) :: v0 :: st) H1 Q) : zW G d M_Mo_init 48 [some v0] st H Q :=
  zw_aload_n (i := 0) dMo_init_48 rfl rfl hr0 <| zw_bipush (66 : Int32) dMo_init_49 zkb_66 <| zw_newa .int dMo_init_51 rfl (zt6 65 rfl) hn hN hb hc1 hs1 kk
theorem sMo_init_53 {G : zG} {d : Nat} {Q : Option Value → Heap → Prop} {H : Heap} {st : List Value} {o0 : Option Value} {vs0 : Value} {as1 : Nat} {b0 : Value} {b1 : Value} {b2 : Value} {b3 : Value} {b4 : Value} {b5 : Value} {b6 : Value} {b7 : Value} {b8 : Value} {b9 : Value} {b10 : Value} {b11 : Value} {b12 : Value} {b13 : Value} {b14 : Value} {b15 : Value} {b16 : Value} {b17 : Value} {b18 : Value} {b19 : Value} {b20 : Value} {b21 : Value} {b22 : Value} {b23 : Value} {b24 : Value} {b25 : Value} {b26 : Value} {b27 : Value} {b28 : Value} {b29 : Value} {b30 : Value} {b31 : Value} {b32 : Value} {b33 : Value} {b34 : Value} {b35 : Value} {b36 : Value} {b37 : Value} {b38 : Value} {b39 : Value} {b40 : Value} {b41 : Value} {b42 : Value} {b43 : Value} {b44 : Value} {b45 : Value} {b46 : Value} {b47 : Value} {b48 : Value} {b49 : Value} {b50 : Value} (hrs0 : zRf vs0 := by first | exact zRf_ref | exact zRf_null | exact zRf_rf _ | assumption) (ho : zObj G H as1 13 [b0, b1, b2, b3, b4, b5, b6, b7, b8, b9, b10, b11, b12, b13, b14, b15, b16, b17, b18, b19, b20, b21, b22, b23, b24, b25, b26, b27, b28, b29, b30, b31, b32, b33, b34, b35, b36, b37, b38, b39, b40, b41, b42, b43, b44, b45, b46, b47, b48, b49, b50]) (hw : zFr G as1) (kk : ∀ H1 : Heap, zObj G H1 as1 13 [b0, b1, b2, b3, b4, b5, b6, b7, vs0, b9, b10, b11, b12, b13, b14, b15, b16, b17, b18, b19, b20, b21, b22, b23, b24, b25, b26, b27, b28, b29, b30, b31, b32, b33, b34, b35, b36, b37, b38, b39, b40, b41, b42, b43, b44, b45, b46, b47, b48, b49, b50] → zUp as1 H H1 → zW G d M_Mo_init 56 [o0] st H1 Q) : zW G d M_Mo_init 53 [o0] (vs0 :: (.ref as1) :: st) H Q :=
  zw_putf (k := 8) dMo_init_53 zp_Mo_init_43 ho (Nat.le_of_ble_eq_true rfl) (Nat.le_of_ble_eq_true rfl) hw (zNarA hrs0) (zFitA hrs0) kk
theorem sMo_init_56 {G : zG} {d : Nat} {Q : Option Value → Heap → Prop} {H : Heap} {st : List Value} {v0 : Value} {N : Nat} (hr0 : zRf v0 := by first | exact zRf_ref | exact zRf_null | exact zRf_rf _ | assumption) (hn : ¬ (2200 : Int32) < 0) (hN : ((2200 : Int32)).toNatClampNeg = N) (hb : N * componentBytes .byte ≤ 536870912) (hc1 : H.size + 1 ≤ zCp G) (hs1 : zT H + N ≤ zSp G) (kk : ∀ H1 : Heap, zArr G H1 H.size .byte N (fun _ => defaultValue .byte) → zNw N H H1 → zW G d M_Mo_init 62 [some v0] ((.ref H.size) :: v0 :: st) H1 Q) : zW G d M_Mo_init 56 [some v0] st H Q :=
  zw_aload_n (i := 0) dMo_init_56 rfl rfl hr0 <| zw_sipush (2200 : Int32) dMo_init_57 zks_2200 <| zw_newa .byte dMo_init_60 rfl (zt1 68 rfl) hn hN hb hc1 hs1 kk
theorem sMo_init_62 {G : zG} {d : Nat} {Q : Option Value → Heap → Prop} {H : Heap} {st : List Value} {o0 : Option Value} {vs0 : Value} {as1 : Nat} {b0 : Value} {b1 : Value} {b2 : Value} {b3 : Value} {b4 : Value} {b5 : Value} {b6 : Value} {b7 : Value} {b8 : Value} {b9 : Value} {b10 : Value} {b11 : Value} {b12 : Value} {b13 : Value} {b14 : Value} {b15 : Value} {b16 : Value} {b17 : Value} {b18 : Value} {b19 : Value} {b20 : Value} {b21 : Value} {b22 : Value} {b23 : Value} {b24 : Value} {b25 : Value} {b26 : Value} {b27 : Value} {b28 : Value} {b29 : Value} {b30 : Value} {b31 : Value} {b32 : Value} {b33 : Value} {b34 : Value} {b35 : Value} {b36 : Value} {b37 : Value} {b38 : Value} {b39 : Value} {b40 : Value} {b41 : Value} {b42 : Value} {b43 : Value} {b44 : Value} {b45 : Value} {b46 : Value} {b47 : Value} {b48 : Value} {b49 : Value} {b50 : Value} (hrs0 : zRf vs0 := by first | exact zRf_ref | exact zRf_null | exact zRf_rf _ | assumption) (ho : zObj G H as1 13 [b0, b1, b2, b3, b4, b5, b6, b7, b8, b9, b10, b11, b12, b13, b14, b15, b16, b17, b18, b19, b20, b21, b22, b23, b24, b25, b26, b27, b28, b29, b30, b31, b32, b33, b34, b35, b36, b37, b38, b39, b40, b41, b42, b43, b44, b45, b46, b47, b48, b49, b50]) (hw : zFr G as1) (kk : ∀ H1 : Heap, zObj G H1 as1 13 [b0, b1, b2, b3, b4, b5, b6, b7, b8, vs0, b10, b11, b12, b13, b14, b15, b16, b17, b18, b19, b20, b21, b22, b23, b24, b25, b26, b27, b28, b29, b30, b31, b32, b33, b34, b35, b36, b37, b38, b39, b40, b41, b42, b43, b44, b45, b46, b47, b48, b49, b50] → zUp as1 H H1 → zW G d M_Mo_init 65 [o0] st H1 Q) : zW G d M_Mo_init 62 [o0] (vs0 :: (.ref as1) :: st) H Q :=
  zw_putf (k := 9) dMo_init_62 zp_Mo_init_70 ho (Nat.le_of_ble_eq_true rfl) (Nat.le_of_ble_eq_true rfl) hw (zNarA hrs0) (zFitA hrs0) kk
theorem sMo_init_65 {G : zG} {d : Nat} {Q : Option Value → Heap → Prop} {H : Heap} {st : List Value} {v0 : Value} {N : Nat} (hr0 : zRf v0 := by first | exact zRf_ref | exact zRf_null | exact zRf_rf _ | assumption) (hn : ¬ (2100 : Int32) < 0) (hN : ((2100 : Int32)).toNatClampNeg = N) (hb : N * componentBytes .int ≤ 536870912) (hc1 : H.size + 1 ≤ zCp G) (hs1 : zT H + N ≤ zSp G) (kk : ∀ H1 : Heap, zArr G H1 H.size .int N (fun _ => defaultValue .int) → zNw N H H1 → zW G d M_Mo_init 71 [some v0] ((.ref H.size) :: v0 :: st) H1 Q) : zW G d M_Mo_init 65 [some v0] st H Q :=
  zw_aload_n (i := 0) dMo_init_65 rfl rfl hr0 <| zw_sipush (2100 : Int32) dMo_init_66 zks_2100 <| zw_newa .int dMo_init_69 rfl (zt6 65 rfl) hn hN hb hc1 hs1 kk
theorem sMo_init_71 {G : zG} {d : Nat} {Q : Option Value → Heap → Prop} {H : Heap} {st : List Value} {o0 : Option Value} {vs0 : Value} {as1 : Nat} {b0 : Value} {b1 : Value} {b2 : Value} {b3 : Value} {b4 : Value} {b5 : Value} {b6 : Value} {b7 : Value} {b8 : Value} {b9 : Value} {b10 : Value} {b11 : Value} {b12 : Value} {b13 : Value} {b14 : Value} {b15 : Value} {b16 : Value} {b17 : Value} {b18 : Value} {b19 : Value} {b20 : Value} {b21 : Value} {b22 : Value} {b23 : Value} {b24 : Value} {b25 : Value} {b26 : Value} {b27 : Value} {b28 : Value} {b29 : Value} {b30 : Value} {b31 : Value} {b32 : Value} {b33 : Value} {b34 : Value} {b35 : Value} {b36 : Value} {b37 : Value} {b38 : Value} {b39 : Value} {b40 : Value} {b41 : Value} {b42 : Value} {b43 : Value} {b44 : Value} {b45 : Value} {b46 : Value} {b47 : Value} {b48 : Value} {b49 : Value} {b50 : Value} (hrs0 : zRf vs0 := by first | exact zRf_ref | exact zRf_null | exact zRf_rf _ | assumption) (ho : zObj G H as1 13 [b0, b1, b2, b3, b4, b5, b6, b7, b8, b9, b10, b11, b12, b13, b14, b15, b16, b17, b18, b19, b20, b21, b22, b23, b24, b25, b26, b27, b28, b29, b30, b31, b32, b33, b34, b35, b36, b37, b38, b39, b40, b41, b42, b43, b44, b45, b46, b47, b48, b49, b50]) (hw : zFr G as1) (kk : ∀ H1 : Heap, zObj G H1 as1 13 [b0, b1, b2, b3, b4, b5, b6, b7, b8, b9, vs0, b11, b12, b13, b14, b15, b16, b17, b18, b19, b20, b21, b22, b23, b24, b25, b26, b27, b28, b29, b30, b31, b32, b33, b34, b35, b36, b37, b38, b39, b40, b41, b42, b43, b44, b45, b46, b47, b48, b49, b50] → zUp as1 H H1 → zW G d M_Mo_init 74 [o0] st H1 Q) : zW G d M_Mo_init 71 [o0] (vs0 :: (.ref as1) :: st) H Q :=
  zw_putf (k := 10) dMo_init_71 zp_Mo_init_64 ho (Nat.le_of_ble_eq_true rfl) (Nat.le_of_ble_eq_true rfl) hw (zNarA hrs0) (zFitA hrs0) kk
theorem sMo_init_74 {G : zG} {d : Nat} {Q : Option Value → Heap → Prop} {H : Heap} {st : List Value} {v0 : Value} {N : Nat} (hr0 : zRf v0 := by first | exact zRf_ref | exact zRf_null | exact zRf_rf _ | assumption) (hn : ¬ (2100 : Int32) < 0) (hN : ((2100 : Int32)).toNatClampNeg = N) (hb : N * componentBytes .int ≤ 536870912) (hc1 : H.size + 1 ≤ zCp G) (hs1 : zT H + N ≤ zSp G) (kk : ∀ H1 : Heap, zArr G H1 H.size .int N (fun _ => defaultValue .int) → zNw N H H1 → zW G d M_Mo_init 80 [some v0] ((.ref H.size) :: v0 :: st) H1 Q) : zW G d M_Mo_init 74 [some v0] st H Q :=
  zw_aload_n (i := 0) dMo_init_74 rfl rfl hr0 <| zw_sipush (2100 : Int32) dMo_init_75 zks_2100 <| zw_newa .int dMo_init_78 rfl (zt6 65 rfl) hn hN hb hc1 hs1 kk
theorem sMo_init_80 {G : zG} {d : Nat} {Q : Option Value → Heap → Prop} {H : Heap} {st : List Value} {o0 : Option Value} {vs0 : Value} {as1 : Nat} {b0 : Value} {b1 : Value} {b2 : Value} {b3 : Value} {b4 : Value} {b5 : Value} {b6 : Value} {b7 : Value} {b8 : Value} {b9 : Value} {b10 : Value} {b11 : Value} {b12 : Value} {b13 : Value} {b14 : Value} {b15 : Value} {b16 : Value} {b17 : Value} {b18 : Value} {b19 : Value} {b20 : Value} {b21 : Value} {b22 : Value} {b23 : Value} {b24 : Value} {b25 : Value} {b26 : Value} {b27 : Value} {b28 : Value} {b29 : Value} {b30 : Value} {b31 : Value} {b32 : Value} {b33 : Value} {b34 : Value} {b35 : Value} {b36 : Value} {b37 : Value} {b38 : Value} {b39 : Value} {b40 : Value} {b41 : Value} {b42 : Value} {b43 : Value} {b44 : Value} {b45 : Value} {b46 : Value} {b47 : Value} {b48 : Value} {b49 : Value} {b50 : Value} (hrs0 : zRf vs0 := by first | exact zRf_ref | exact zRf_null | exact zRf_rf _ | assumption) (ho : zObj G H as1 13 [b0, b1, b2, b3, b4, b5, b6, b7, b8, b9, b10, b11, b12, b13, b14, b15, b16, b17, b18, b19, b20, b21, b22, b23, b24, b25, b26, b27, b28, b29, b30, b31, b32, b33, b34, b35, b36, b37, b38, b39, b40, b41, b42, b43, b44, b45, b46, b47, b48, b49, b50]) (hw : zFr G as1) (kk : ∀ H1 : Heap, zObj G H1 as1 13 [b0, b1, b2, b3, b4, b5, b6, b7, b8, b9, b10, vs0, b12, b13, b14, b15, b16, b17, b18, b19, b20, b21, b22, b23, b24, b25, b26, b27, b28, b29, b30, b31, b32, b33, b34, b35, b36, b37, b38, b39, b40, b41, b42, b43, b44, b45, b46, b47, b48, b49, b50] → zUp as1 H H1 → zW G d M_Mo_init 83 [o0] st H1 Q) : zW G d M_Mo_init 80 [o0] (vs0 :: (.ref as1) :: st) H Q :=
  zw_putf (k := 11) dMo_init_80 zp_Mo_init_67 ho (Nat.le_of_ble_eq_true rfl) (Nat.le_of_ble_eq_true rfl) hw (zNarA hrs0) (zFitA hrs0) kk
theorem sMo_init_83 {G : zG} {d : Nat} {Q : Option Value → Heap → Prop} {H : Heap} {st : List Value} {v0 : Value} {N : Nat} (hr0 : zRf v0 := by first | exact zRf_ref | exact zRf_null | exact zRf_rf _ | assumption) (hn : ¬ (30000 : Int32) < 0) (hN : ((30000 : Int32)).toNatClampNeg = N) (hb : N * componentBytes .byte ≤ 536870912) (hc1 : H.size + 1 ≤ zCp G) (hs1 : zT H + N ≤ zSp G) (kk : ∀ H1 : Heap, zArr G H1 H.size .byte N (fun _ => defaultValue .byte) → zNw N H H1 → zW G d M_Mo_init 89 [some v0] ((.ref H.size) :: v0 :: st) H1 Q) : zW G d M_Mo_init 83 [some v0] st H Q :=
  zw_aload_n (i := 0) dMo_init_83 rfl rfl hr0 <| zw_sipush (30000 : Int32) dMo_init_84 zks_30000 <| zw_newa .byte dMo_init_87 rfl (zt1 68 rfl) hn hN hb hc1 hs1 kk
theorem sMo_init_89 {G : zG} {d : Nat} {Q : Option Value → Heap → Prop} {H : Heap} {st : List Value} {o0 : Option Value} {vs0 : Value} {as1 : Nat} {b0 : Value} {b1 : Value} {b2 : Value} {b3 : Value} {b4 : Value} {b5 : Value} {b6 : Value} {b7 : Value} {b8 : Value} {b9 : Value} {b10 : Value} {b11 : Value} {b12 : Value} {b13 : Value} {b14 : Value} {b15 : Value} {b16 : Value} {b17 : Value} {b18 : Value} {b19 : Value} {b20 : Value} {b21 : Value} {b22 : Value} {b23 : Value} {b24 : Value} {b25 : Value} {b26 : Value} {b27 : Value} {b28 : Value} {b29 : Value} {b30 : Value} {b31 : Value} {b32 : Value} {b33 : Value} {b34 : Value} {b35 : Value} {b36 : Value} {b37 : Value} {b38 : Value} {b39 : Value} {b40 : Value} {b41 : Value} {b42 : Value} {b43 : Value} {b44 : Value} {b45 : Value} {b46 : Value} {b47 : Value} {b48 : Value} {b49 : Value} {b50 : Value} (hrs0 : zRf vs0 := by first | exact zRf_ref | exact zRf_null | exact zRf_rf _ | assumption) (ho : zObj G H as1 13 [b0, b1, b2, b3, b4, b5, b6, b7, b8, b9, b10, b11, b12, b13, b14, b15, b16, b17, b18, b19, b20, b21, b22, b23, b24, b25, b26, b27, b28, b29, b30, b31, b32, b33, b34, b35, b36, b37, b38, b39, b40, b41, b42, b43, b44, b45, b46, b47, b48, b49, b50]) (hw : zFr G as1) (kk : ∀ H1 : Heap, zObj G H1 as1 13 [b0, b1, b2, b3, b4, b5, b6, b7, b8, b9, b10, b11, b12, b13, b14, b15, b16, vs0, b18, b19, b20, b21, b22, b23, b24, b25, b26, b27, b28, b29, b30, b31, b32, b33, b34, b35, b36, b37, b38, b39, b40, b41, b42, b43, b44, b45, b46, b47, b48, b49, b50] → zUp as1 H H1 → zW G d M_Mo_init 92 [o0] st H1 Q) : zW G d M_Mo_init 89 [o0] (vs0 :: (.ref as1) :: st) H Q :=
  zw_putf (k := 17) dMo_init_89 zp_Mo_init_174 ho (Nat.le_of_ble_eq_true rfl) (Nat.le_of_ble_eq_true rfl) hw (zNarA hrs0) (zFitA hrs0) kk
theorem sMo_init_92 {G : zG} {d : Nat} {Q : Option Value → Heap → Prop} {H : Heap} {st : List Value} {v0 : Value} {N : Nat} (hr0 : zRf v0 := by first | exact zRf_ref | exact zRf_null | exact zRf_rf _ | assumption) (hn : ¬ (20 : Int32) < 0) (hN : ((20 : Int32)).toNatClampNeg = N) (hb : N * componentBytes .int ≤ 536870912) (hc1 : H.size + 1 ≤ zCp G) (hs1 : zT H + N ≤ zSp G) (kk : ∀ H1 : Heap, zArr G H1 H.size .int N (fun _ => defaultValue .int) → zNw N H H1 → zW G d M_Mo_init 97 [some v0] ((.ref H.size) :: v0 :: st) H1 Q) : zW G d M_Mo_init 92 [some v0] st H Q :=
  zw_aload_n (i := 0) dMo_init_92 rfl rfl hr0 <| zw_bipush (20 : Int32) dMo_init_93 zkb_20 <| zw_newa .int dMo_init_95 rfl (zt6 65 rfl) hn hN hb hc1 hs1 kk
theorem sMo_init_97 {G : zG} {d : Nat} {Q : Option Value → Heap → Prop} {H : Heap} {st : List Value} {o0 : Option Value} {vs0 : Value} {as1 : Nat} {b0 : Value} {b1 : Value} {b2 : Value} {b3 : Value} {b4 : Value} {b5 : Value} {b6 : Value} {b7 : Value} {b8 : Value} {b9 : Value} {b10 : Value} {b11 : Value} {b12 : Value} {b13 : Value} {b14 : Value} {b15 : Value} {b16 : Value} {b17 : Value} {b18 : Value} {b19 : Value} {b20 : Value} {b21 : Value} {b22 : Value} {b23 : Value} {b24 : Value} {b25 : Value} {b26 : Value} {b27 : Value} {b28 : Value} {b29 : Value} {b30 : Value} {b31 : Value} {b32 : Value} {b33 : Value} {b34 : Value} {b35 : Value} {b36 : Value} {b37 : Value} {b38 : Value} {b39 : Value} {b40 : Value} {b41 : Value} {b42 : Value} {b43 : Value} {b44 : Value} {b45 : Value} {b46 : Value} {b47 : Value} {b48 : Value} {b49 : Value} {b50 : Value} (hrs0 : zRf vs0 := by first | exact zRf_ref | exact zRf_null | exact zRf_rf _ | assumption) (ho : zObj G H as1 13 [b0, b1, b2, b3, b4, b5, b6, b7, b8, b9, b10, b11, b12, b13, b14, b15, b16, b17, b18, b19, b20, b21, b22, b23, b24, b25, b26, b27, b28, b29, b30, b31, b32, b33, b34, b35, b36, b37, b38, b39, b40, b41, b42, b43, b44, b45, b46, b47, b48, b49, b50]) (hw : zFr G as1) (kk : ∀ H1 : Heap, zObj G H1 as1 13 [b0, b1, b2, b3, b4, b5, b6, b7, b8, b9, b10, b11, b12, b13, b14, b15, b16, b17, vs0, b19, b20, b21, b22, b23, b24, b25, b26, b27, b28, b29, b30, b31, b32, b33, b34, b35, b36, b37, b38, b39, b40, b41, b42, b43, b44, b45, b46, b47, b48, b49, b50] → zUp as1 H H1 → zW G d M_Mo_init 100 [o0] st H1 Q) : zW G d M_Mo_init 97 [o0] (vs0 :: (.ref as1) :: st) H Q :=
  zw_putf (k := 18) dMo_init_97 zp_Mo_init_171 ho (Nat.le_of_ble_eq_true rfl) (Nat.le_of_ble_eq_true rfl) hw (zNarA hrs0) (zFitA hrs0) kk
theorem sMo_init_100 {G : zG} {d : Nat} {Q : Option Value → Heap → Prop} {H : Heap} {st : List Value} {v0 : Value} {N : Nat} (hr0 : zRf v0 := by first | exact zRf_ref | exact zRf_null | exact zRf_rf _ | assumption) (hn : ¬ (12 : Int32) < 0) (hN : ((12 : Int32)).toNatClampNeg = N) (hb : N * componentBytes .int ≤ 536870912) (hc1 : H.size + 1 ≤ zCp G) (hs1 : zT H + N ≤ zSp G) (kk : ∀ H1 : Heap, zArr G H1 H.size .int N (fun _ => defaultValue .int) → zNw N H H1 → zW G d M_Mo_init 105 [some v0] ((.ref H.size) :: v0 :: st) H1 Q) : zW G d M_Mo_init 100 [some v0] st H Q :=
  zw_aload_n (i := 0) dMo_init_100 rfl rfl hr0 <| zw_bipush (12 : Int32) dMo_init_101 zkb_12 <| zw_newa .int dMo_init_103 rfl (zt6 65 rfl) hn hN hb hc1 hs1 kk
theorem sMo_init_105 {G : zG} {d : Nat} {Q : Option Value → Heap → Prop} {H : Heap} {st : List Value} {o0 : Option Value} {vs0 : Value} {as1 : Nat} {b0 : Value} {b1 : Value} {b2 : Value} {b3 : Value} {b4 : Value} {b5 : Value} {b6 : Value} {b7 : Value} {b8 : Value} {b9 : Value} {b10 : Value} {b11 : Value} {b12 : Value} {b13 : Value} {b14 : Value} {b15 : Value} {b16 : Value} {b17 : Value} {b18 : Value} {b19 : Value} {b20 : Value} {b21 : Value} {b22 : Value} {b23 : Value} {b24 : Value} {b25 : Value} {b26 : Value} {b27 : Value} {b28 : Value} {b29 : Value} {b30 : Value} {b31 : Value} {b32 : Value} {b33 : Value} {b34 : Value} {b35 : Value} {b36 : Value} {b37 : Value} {b38 : Value} {b39 : Value} {b40 : Value} {b41 : Value} {b42 : Value} {b43 : Value} {b44 : Value} {b45 : Value} {b46 : Value} {b47 : Value} {b48 : Value} {b49 : Value} {b50 : Value} (hrs0 : zRf vs0 := by first | exact zRf_ref | exact zRf_null | exact zRf_rf _ | assumption) (ho : zObj G H as1 13 [b0, b1, b2, b3, b4, b5, b6, b7, b8, b9, b10, b11, b12, b13, b14, b15, b16, b17, b18, b19, b20, b21, b22, b23, b24, b25, b26, b27, b28, b29, b30, b31, b32, b33, b34, b35, b36, b37, b38, b39, b40, b41, b42, b43, b44, b45, b46, b47, b48, b49, b50]) (hw : zFr G as1) (kk : ∀ H1 : Heap, zObj G H1 as1 13 [b0, b1, b2, b3, b4, b5, b6, b7, b8, b9, b10, b11, b12, b13, b14, b15, b16, b17, b18, vs0, b20, b21, b22, b23, b24, b25, b26, b27, b28, b29, b30, b31, b32, b33, b34, b35, b36, b37, b38, b39, b40, b41, b42, b43, b44, b45, b46, b47, b48, b49, b50] → zUp as1 H H1 → zW G d M_Mo_init 108 [o0] st H1 Q) : zW G d M_Mo_init 105 [o0] (vs0 :: (.ref as1) :: st) H Q :=
  zw_putf (k := 19) dMo_init_105 zp_Mo_init_177 ho (Nat.le_of_ble_eq_true rfl) (Nat.le_of_ble_eq_true rfl) hw (zNarA hrs0) (zFitA hrs0) kk
theorem sMo_init_108 {G : zG} {d : Nat} {Q : Option Value → Heap → Prop} {H : Heap} {st : List Value} {v0 : Value} {N : Nat} (hr0 : zRf v0 := by first | exact zRf_ref | exact zRf_null | exact zRf_rf _ | assumption) (hn : ¬ (192 : Int32) < 0) (hN : ((192 : Int32)).toNatClampNeg = N) (hb : N * componentBytes .byte ≤ 536870912) (hc1 : H.size + 1 ≤ zCp G) (hs1 : zT H + N ≤ zSp G) (kk : ∀ H1 : Heap, zArr G H1 H.size .byte N (fun _ => defaultValue .byte) → zNw N H H1 → zW G d M_Mo_init 114 [some v0] ((.ref H.size) :: v0 :: st) H1 Q) : zW G d M_Mo_init 108 [some v0] st H Q :=
  zw_aload_n (i := 0) dMo_init_108 rfl rfl hr0 <| zw_sipush (192 : Int32) dMo_init_109 zks_192 <| zw_newa .byte dMo_init_112 rfl (zt1 68 rfl) hn hN hb hc1 hs1 kk
theorem sMo_init_114 {G : zG} {d : Nat} {Q : Option Value → Heap → Prop} {H : Heap} {st : List Value} {o0 : Option Value} {vs0 : Value} {as1 : Nat} {b0 : Value} {b1 : Value} {b2 : Value} {b3 : Value} {b4 : Value} {b5 : Value} {b6 : Value} {b7 : Value} {b8 : Value} {b9 : Value} {b10 : Value} {b11 : Value} {b12 : Value} {b13 : Value} {b14 : Value} {b15 : Value} {b16 : Value} {b17 : Value} {b18 : Value} {b19 : Value} {b20 : Value} {b21 : Value} {b22 : Value} {b23 : Value} {b24 : Value} {b25 : Value} {b26 : Value} {b27 : Value} {b28 : Value} {b29 : Value} {b30 : Value} {b31 : Value} {b32 : Value} {b33 : Value} {b34 : Value} {b35 : Value} {b36 : Value} {b37 : Value} {b38 : Value} {b39 : Value} {b40 : Value} {b41 : Value} {b42 : Value} {b43 : Value} {b44 : Value} {b45 : Value} {b46 : Value} {b47 : Value} {b48 : Value} {b49 : Value} {b50 : Value} (hrs0 : zRf vs0 := by first | exact zRf_ref | exact zRf_null | exact zRf_rf _ | assumption) (ho : zObj G H as1 13 [b0, b1, b2, b3, b4, b5, b6, b7, b8, b9, b10, b11, b12, b13, b14, b15, b16, b17, b18, b19, b20, b21, b22, b23, b24, b25, b26, b27, b28, b29, b30, b31, b32, b33, b34, b35, b36, b37, b38, b39, b40, b41, b42, b43, b44, b45, b46, b47, b48, b49, b50]) (hw : zFr G as1) (kk : ∀ H1 : Heap, zObj G H1 as1 13 [b0, b1, b2, b3, b4, b5, b6, b7, b8, b9, b10, b11, b12, b13, b14, b15, b16, b17, b18, b19, vs0, b21, b22, b23, b24, b25, b26, b27, b28, b29, b30, b31, b32, b33, b34, b35, b36, b37, b38, b39, b40, b41, b42, b43, b44, b45, b46, b47, b48, b49, b50] → zUp as1 H H1 → zW G d M_Mo_init 117 [o0] st H1 Q) : zW G d M_Mo_init 114 [o0] (vs0 :: (.ref as1) :: st) H Q :=
  zw_putf (k := 20) dMo_init_114 zp_Mo_init_186 ho (Nat.le_of_ble_eq_true rfl) (Nat.le_of_ble_eq_true rfl) hw (zNarA hrs0) (zFitA hrs0) kk
theorem sMo_init_117 {G : zG} {d : Nat} {Q : Option Value → Heap → Prop} {H : Heap} {st : List Value} {v0 : Value} {N : Nat} (hr0 : zRf v0 := by first | exact zRf_ref | exact zRf_null | exact zRf_rf _ | assumption) (hn : ¬ (12 : Int32) < 0) (hN : ((12 : Int32)).toNatClampNeg = N) (hb : N * componentBytes .int ≤ 536870912) (hc1 : H.size + 1 ≤ zCp G) (hs1 : zT H + N ≤ zSp G) (kk : ∀ H1 : Heap, zArr G H1 H.size .int N (fun _ => defaultValue .int) → zNw N H H1 → zW G d M_Mo_init 122 [some v0] ((.ref H.size) :: v0 :: st) H1 Q) : zW G d M_Mo_init 117 [some v0] st H Q :=
  zw_aload_n (i := 0) dMo_init_117 rfl rfl hr0 <| zw_bipush (12 : Int32) dMo_init_118 zkb_12 <| zw_newa .int dMo_init_120 rfl (zt6 65 rfl) hn hN hb hc1 hs1 kk
theorem sMo_init_122 {G : zG} {d : Nat} {Q : Option Value → Heap → Prop} {H : Heap} {st : List Value} {o0 : Option Value} {vs0 : Value} {as1 : Nat} {b0 : Value} {b1 : Value} {b2 : Value} {b3 : Value} {b4 : Value} {b5 : Value} {b6 : Value} {b7 : Value} {b8 : Value} {b9 : Value} {b10 : Value} {b11 : Value} {b12 : Value} {b13 : Value} {b14 : Value} {b15 : Value} {b16 : Value} {b17 : Value} {b18 : Value} {b19 : Value} {b20 : Value} {b21 : Value} {b22 : Value} {b23 : Value} {b24 : Value} {b25 : Value} {b26 : Value} {b27 : Value} {b28 : Value} {b29 : Value} {b30 : Value} {b31 : Value} {b32 : Value} {b33 : Value} {b34 : Value} {b35 : Value} {b36 : Value} {b37 : Value} {b38 : Value} {b39 : Value} {b40 : Value} {b41 : Value} {b42 : Value} {b43 : Value} {b44 : Value} {b45 : Value} {b46 : Value} {b47 : Value} {b48 : Value} {b49 : Value} {b50 : Value} (hrs0 : zRf vs0 := by first | exact zRf_ref | exact zRf_null | exact zRf_rf _ | assumption) (ho : zObj G H as1 13 [b0, b1, b2, b3, b4, b5, b6, b7, b8, b9, b10, b11, b12, b13, b14, b15, b16, b17, b18, b19, b20, b21, b22, b23, b24, b25, b26, b27, b28, b29, b30, b31, b32, b33, b34, b35, b36, b37, b38, b39, b40, b41, b42, b43, b44, b45, b46, b47, b48, b49, b50]) (hw : zFr G as1) (kk : ∀ H1 : Heap, zObj G H1 as1 13 [b0, b1, b2, b3, b4, b5, b6, b7, b8, b9, b10, b11, b12, b13, b14, b15, b16, b17, b18, b19, b20, vs0, b22, b23, b24, b25, b26, b27, b28, b29, b30, b31, b32, b33, b34, b35, b36, b37, b38, b39, b40, b41, b42, b43, b44, b45, b46, b47, b48, b49, b50] → zUp as1 H H1 → zW G d M_Mo_init 125 [o0] st H1 Q) : zW G d M_Mo_init 122 [o0] (vs0 :: (.ref as1) :: st) H Q :=
  zw_putf (k := 21) dMo_init_122 zp_Mo_init_180 ho (Nat.le_of_ble_eq_true rfl) (Nat.le_of_ble_eq_true rfl) hw (zNarA hrs0) (zFitA hrs0) kk
theorem sMo_init_125 {G : zG} {d : Nat} {Q : Option Value → Heap → Prop} {H : Heap} {st : List Value} {v0 : Value} {N : Nat} (hr0 : zRf v0 := by first | exact zRf_ref | exact zRf_null | exact zRf_rf _ | assumption) (hn : ¬ (12 : Int32) < 0) (hN : ((12 : Int32)).toNatClampNeg = N) (hb : N * componentBytes .int ≤ 536870912) (hc1 : H.size + 1 ≤ zCp G) (hs1 : zT H + N ≤ zSp G) (kk : ∀ H1 : Heap, zArr G H1 H.size .int N (fun _ => defaultValue .int) → zNw N H H1 → zW G d M_Mo_init 130 [some v0] ((.ref H.size) :: v0 :: st) H1 Q) : zW G d M_Mo_init 125 [some v0] st H Q :=
  zw_aload_n (i := 0) dMo_init_125 rfl rfl hr0 <| zw_bipush (12 : Int32) dMo_init_126 zkb_12 <| zw_newa .int dMo_init_128 rfl (zt6 65 rfl) hn hN hb hc1 hs1 kk
theorem sMo_init_130 {G : zG} {d : Nat} {Q : Option Value → Heap → Prop} {H : Heap} {st : List Value} {o0 : Option Value} {vs0 : Value} {as1 : Nat} {b0 : Value} {b1 : Value} {b2 : Value} {b3 : Value} {b4 : Value} {b5 : Value} {b6 : Value} {b7 : Value} {b8 : Value} {b9 : Value} {b10 : Value} {b11 : Value} {b12 : Value} {b13 : Value} {b14 : Value} {b15 : Value} {b16 : Value} {b17 : Value} {b18 : Value} {b19 : Value} {b20 : Value} {b21 : Value} {b22 : Value} {b23 : Value} {b24 : Value} {b25 : Value} {b26 : Value} {b27 : Value} {b28 : Value} {b29 : Value} {b30 : Value} {b31 : Value} {b32 : Value} {b33 : Value} {b34 : Value} {b35 : Value} {b36 : Value} {b37 : Value} {b38 : Value} {b39 : Value} {b40 : Value} {b41 : Value} {b42 : Value} {b43 : Value} {b44 : Value} {b45 : Value} {b46 : Value} {b47 : Value} {b48 : Value} {b49 : Value} {b50 : Value} (hrs0 : zRf vs0 := by first | exact zRf_ref | exact zRf_null | exact zRf_rf _ | assumption) (ho : zObj G H as1 13 [b0, b1, b2, b3, b4, b5, b6, b7, b8, b9, b10, b11, b12, b13, b14, b15, b16, b17, b18, b19, b20, b21, b22, b23, b24, b25, b26, b27, b28, b29, b30, b31, b32, b33, b34, b35, b36, b37, b38, b39, b40, b41, b42, b43, b44, b45, b46, b47, b48, b49, b50]) (hw : zFr G as1) (kk : ∀ H1 : Heap, zObj G H1 as1 13 [b0, b1, b2, b3, b4, b5, b6, b7, b8, b9, b10, b11, b12, b13, b14, b15, b16, b17, b18, b19, b20, b21, vs0, b23, b24, b25, b26, b27, b28, b29, b30, b31, b32, b33, b34, b35, b36, b37, b38, b39, b40, b41, b42, b43, b44, b45, b46, b47, b48, b49, b50] → zUp as1 H H1 → zW G d M_Mo_init 133 [o0] st H1 Q) : zW G d M_Mo_init 130 [o0] (vs0 :: (.ref as1) :: st) H Q :=
  zw_putf (k := 22) dMo_init_130 zp_Mo_init_183 ho (Nat.le_of_ble_eq_true rfl) (Nat.le_of_ble_eq_true rfl) hw (zNarA hrs0) (zFitA hrs0) kk
theorem sMo_init_133 {G : zG} {d : Nat} {Q : Option Value → Heap → Prop} {H : Heap} {st : List Value} {v0 : Value} {N : Nat} (hr0 : zRf v0 := by first | exact zRf_ref | exact zRf_null | exact zRf_rf _ | assumption) (hn : ¬ (20 : Int32) < 0) (hN : ((20 : Int32)).toNatClampNeg = N) (hb : N * componentBytes .boolean ≤ 536870912) (hc1 : H.size + 1 ≤ zCp G) (hs1 : zT H + N ≤ zSp G) (kk : ∀ H1 : Heap, zArr G H1 H.size .boolean N (fun _ => defaultValue .boolean) → zNw N H H1 → zW G d M_Mo_init 138 [some v0] ((.ref H.size) :: v0 :: st) H1 Q) : zW G d M_Mo_init 133 [some v0] st H Q :=
  zw_aload_n (i := 0) dMo_init_133 rfl rfl hr0 <| zw_bipush (20 : Int32) dMo_init_134 zkb_20 <| zw_newa .boolean dMo_init_136 rfl (zt6 66 rfl) hn hN hb hc1 hs1 kk
theorem sMo_init_138 {G : zG} {d : Nat} {Q : Option Value → Heap → Prop} {H : Heap} {st : List Value} {o0 : Option Value} {vs0 : Value} {as1 : Nat} {b0 : Value} {b1 : Value} {b2 : Value} {b3 : Value} {b4 : Value} {b5 : Value} {b6 : Value} {b7 : Value} {b8 : Value} {b9 : Value} {b10 : Value} {b11 : Value} {b12 : Value} {b13 : Value} {b14 : Value} {b15 : Value} {b16 : Value} {b17 : Value} {b18 : Value} {b19 : Value} {b20 : Value} {b21 : Value} {b22 : Value} {b23 : Value} {b24 : Value} {b25 : Value} {b26 : Value} {b27 : Value} {b28 : Value} {b29 : Value} {b30 : Value} {b31 : Value} {b32 : Value} {b33 : Value} {b34 : Value} {b35 : Value} {b36 : Value} {b37 : Value} {b38 : Value} {b39 : Value} {b40 : Value} {b41 : Value} {b42 : Value} {b43 : Value} {b44 : Value} {b45 : Value} {b46 : Value} {b47 : Value} {b48 : Value} {b49 : Value} {b50 : Value} (hrs0 : zRf vs0 := by first | exact zRf_ref | exact zRf_null | exact zRf_rf _ | assumption) (ho : zObj G H as1 13 [b0, b1, b2, b3, b4, b5, b6, b7, b8, b9, b10, b11, b12, b13, b14, b15, b16, b17, b18, b19, b20, b21, b22, b23, b24, b25, b26, b27, b28, b29, b30, b31, b32, b33, b34, b35, b36, b37, b38, b39, b40, b41, b42, b43, b44, b45, b46, b47, b48, b49, b50]) (hw : zFr G as1) (kk : ∀ H1 : Heap, zObj G H1 as1 13 [b0, b1, b2, b3, b4, b5, b6, b7, b8, b9, b10, b11, b12, b13, b14, b15, b16, b17, b18, b19, b20, b21, b22, vs0, b24, b25, b26, b27, b28, b29, b30, b31, b32, b33, b34, b35, b36, b37, b38, b39, b40, b41, b42, b43, b44, b45, b46, b47, b48, b49, b50] → zUp as1 H H1 → zW G d M_Mo_init 141 [o0] st H1 Q) : zW G d M_Mo_init 138 [o0] (vs0 :: (.ref as1) :: st) H Q :=
  zw_putf (k := 23) dMo_init_138 zp_Mo_init_189 ho (Nat.le_of_ble_eq_true rfl) (Nat.le_of_ble_eq_true rfl) hw (zNarA hrs0) (zFitA hrs0) kk
theorem sMo_init_141 {G : zG} {d : Nat} {Q : Option Value → Heap → Prop} {H : Heap} {st : List Value} {v0 : Value} {N : Nat} (hr0 : zRf v0 := by first | exact zRf_ref | exact zRf_null | exact zRf_rf _ | assumption) (hn : ¬ (20 : Int32) < 0) (hN : ((20 : Int32)).toNatClampNeg = N) (hb : N * componentBytes .boolean ≤ 536870912) (hc1 : H.size + 1 ≤ zCp G) (hs1 : zT H + N ≤ zSp G) (kk : ∀ H1 : Heap, zArr G H1 H.size .boolean N (fun _ => defaultValue .boolean) → zNw N H H1 → zW G d M_Mo_init 146 [some v0] ((.ref H.size) :: v0 :: st) H1 Q) : zW G d M_Mo_init 141 [some v0] st H Q :=
  zw_aload_n (i := 0) dMo_init_141 rfl rfl hr0 <| zw_bipush (20 : Int32) dMo_init_142 zkb_20 <| zw_newa .boolean dMo_init_144 rfl (zt6 66 rfl) hn hN hb hc1 hs1 kk
theorem sMo_init_146 {G : zG} {d : Nat} {Q : Option Value → Heap → Prop} {H : Heap} {st : List Value} {o0 : Option Value} {vs0 : Value} {as1 : Nat} {b0 : Value} {b1 : Value} {b2 : Value} {b3 : Value} {b4 : Value} {b5 : Value} {b6 : Value} {b7 : Value} {b8 : Value} {b9 : Value} {b10 : Value} {b11 : Value} {b12 : Value} {b13 : Value} {b14 : Value} {b15 : Value} {b16 : Value} {b17 : Value} {b18 : Value} {b19 : Value} {b20 : Value} {b21 : Value} {b22 : Value} {b23 : Value} {b24 : Value} {b25 : Value} {b26 : Value} {b27 : Value} {b28 : Value} {b29 : Value} {b30 : Value} {b31 : Value} {b32 : Value} {b33 : Value} {b34 : Value} {b35 : Value} {b36 : Value} {b37 : Value} {b38 : Value} {b39 : Value} {b40 : Value} {b41 : Value} {b42 : Value} {b43 : Value} {b44 : Value} {b45 : Value} {b46 : Value} {b47 : Value} {b48 : Value} {b49 : Value} {b50 : Value} (hrs0 : zRf vs0 := by first | exact zRf_ref | exact zRf_null | exact zRf_rf _ | assumption) (ho : zObj G H as1 13 [b0, b1, b2, b3, b4, b5, b6, b7, b8, b9, b10, b11, b12, b13, b14, b15, b16, b17, b18, b19, b20, b21, b22, b23, b24, b25, b26, b27, b28, b29, b30, b31, b32, b33, b34, b35, b36, b37, b38, b39, b40, b41, b42, b43, b44, b45, b46, b47, b48, b49, b50]) (hw : zFr G as1) (kk : ∀ H1 : Heap, zObj G H1 as1 13 [b0, b1, b2, b3, b4, b5, b6, b7, b8, b9, b10, b11, b12, b13, b14, b15, b16, b17, b18, b19, b20, b21, b22, b23, vs0, b25, b26, b27, b28, b29, b30, b31, b32, b33, b34, b35, b36, b37, b38, b39, b40, b41, b42, b43, b44, b45, b46, b47, b48, b49, b50] → zUp as1 H H1 → zW G d M_Mo_init 149 [o0] st H1 Q) : zW G d M_Mo_init 146 [o0] (vs0 :: (.ref as1) :: st) H Q :=
  zw_putf (k := 24) dMo_init_146 zp_Mo_init_193 ho (Nat.le_of_ble_eq_true rfl) (Nat.le_of_ble_eq_true rfl) hw (zNarA hrs0) (zFitA hrs0) kk
theorem sMo_init_149 {G : zG} {d : Nat} {Q : Option Value → Heap → Prop} {H : Heap} {st : List Value} {v0 : Value} {N : Nat} (hr0 : zRf v0 := by first | exact zRf_ref | exact zRf_null | exact zRf_rf _ | assumption) (hn : ¬ (8 : Int32) < 0) (hN : ((8 : Int32)).toNatClampNeg = N) (hb : N * componentBytes .int ≤ 536870912) (hc1 : H.size + 1 ≤ zCp G) (hs1 : zT H + N ≤ zSp G) (kk : ∀ H1 : Heap, zArr G H1 H.size .int N (fun _ => defaultValue .int) → zNw N H H1 → zW G d M_Mo_init 154 [some v0] ((.ref H.size) :: v0 :: st) H1 Q) : zW G d M_Mo_init 149 [some v0] st H Q :=
  zw_aload_n (i := 0) dMo_init_149 rfl rfl hr0 <| zw_bipush (8 : Int32) dMo_init_150 zkb_8 <| zw_newa .int dMo_init_152 rfl (zt6 65 rfl) hn hN hb hc1 hs1 kk
theorem sMo_init_154 {G : zG} {d : Nat} {Q : Option Value → Heap → Prop} {H : Heap} {st : List Value} {o0 : Option Value} {vs0 : Value} {as1 : Nat} {b0 : Value} {b1 : Value} {b2 : Value} {b3 : Value} {b4 : Value} {b5 : Value} {b6 : Value} {b7 : Value} {b8 : Value} {b9 : Value} {b10 : Value} {b11 : Value} {b12 : Value} {b13 : Value} {b14 : Value} {b15 : Value} {b16 : Value} {b17 : Value} {b18 : Value} {b19 : Value} {b20 : Value} {b21 : Value} {b22 : Value} {b23 : Value} {b24 : Value} {b25 : Value} {b26 : Value} {b27 : Value} {b28 : Value} {b29 : Value} {b30 : Value} {b31 : Value} {b32 : Value} {b33 : Value} {b34 : Value} {b35 : Value} {b36 : Value} {b37 : Value} {b38 : Value} {b39 : Value} {b40 : Value} {b41 : Value} {b42 : Value} {b43 : Value} {b44 : Value} {b45 : Value} {b46 : Value} {b47 : Value} {b48 : Value} {b49 : Value} {b50 : Value} (hrs0 : zRf vs0 := by first | exact zRf_ref | exact zRf_null | exact zRf_rf _ | assumption) (ho : zObj G H as1 13 [b0, b1, b2, b3, b4, b5, b6, b7, b8, b9, b10, b11, b12, b13, b14, b15, b16, b17, b18, b19, b20, b21, b22, b23, b24, b25, b26, b27, b28, b29, b30, b31, b32, b33, b34, b35, b36, b37, b38, b39, b40, b41, b42, b43, b44, b45, b46, b47, b48, b49, b50]) (hw : zFr G as1) (kk : ∀ H1 : Heap, zObj G H1 as1 13 [b0, b1, b2, b3, b4, b5, b6, b7, b8, b9, b10, b11, b12, b13, b14, b15, b16, b17, b18, b19, b20, b21, b22, b23, b24, b25, b26, b27, vs0, b29, b30, b31, b32, b33, b34, b35, b36, b37, b38, b39, b40, b41, b42, b43, b44, b45, b46, b47, b48, b49, b50] → zUp as1 H H1 → zW G d M_Mo_init 157 [o0] st H1 Q) : zW G d M_Mo_init 154 [o0] (vs0 :: (.ref as1) :: st) H Q :=
  zw_putf (k := 28) dMo_init_154 zp_Mo_init_226 ho (Nat.le_of_ble_eq_true rfl) (Nat.le_of_ble_eq_true rfl) hw (zNarA hrs0) (zFitA hrs0) kk
theorem sMo_init_157 {G : zG} {d : Nat} {Q : Option Value → Heap → Prop} {H : Heap} {st : List Value} {v0 : Value} {N : Nat} (hr0 : zRf v0 := by first | exact zRf_ref | exact zRf_null | exact zRf_rf _ | assumption) (hn : ¬ (8 : Int32) < 0) (hN : ((8 : Int32)).toNatClampNeg = N) (hb : N * componentBytes .int ≤ 536870912) (hc1 : H.size + 1 ≤ zCp G) (hs1 : zT H + N ≤ zSp G) (kk : ∀ H1 : Heap, zArr G H1 H.size .int N (fun _ => defaultValue .int) → zNw N H H1 → zW G d M_Mo_init 162 [some v0] ((.ref H.size) :: v0 :: st) H1 Q) : zW G d M_Mo_init 157 [some v0] st H Q :=
  zw_aload_n (i := 0) dMo_init_157 rfl rfl hr0 <| zw_bipush (8 : Int32) dMo_init_158 zkb_8 <| zw_newa .int dMo_init_160 rfl (zt6 65 rfl) hn hN hb hc1 hs1 kk
theorem sMo_init_162 {G : zG} {d : Nat} {Q : Option Value → Heap → Prop} {H : Heap} {st : List Value} {o0 : Option Value} {vs0 : Value} {as1 : Nat} {b0 : Value} {b1 : Value} {b2 : Value} {b3 : Value} {b4 : Value} {b5 : Value} {b6 : Value} {b7 : Value} {b8 : Value} {b9 : Value} {b10 : Value} {b11 : Value} {b12 : Value} {b13 : Value} {b14 : Value} {b15 : Value} {b16 : Value} {b17 : Value} {b18 : Value} {b19 : Value} {b20 : Value} {b21 : Value} {b22 : Value} {b23 : Value} {b24 : Value} {b25 : Value} {b26 : Value} {b27 : Value} {b28 : Value} {b29 : Value} {b30 : Value} {b31 : Value} {b32 : Value} {b33 : Value} {b34 : Value} {b35 : Value} {b36 : Value} {b37 : Value} {b38 : Value} {b39 : Value} {b40 : Value} {b41 : Value} {b42 : Value} {b43 : Value} {b44 : Value} {b45 : Value} {b46 : Value} {b47 : Value} {b48 : Value} {b49 : Value} {b50 : Value} (hrs0 : zRf vs0 := by first | exact zRf_ref | exact zRf_null | exact zRf_rf _ | assumption) (ho : zObj G H as1 13 [b0, b1, b2, b3, b4, b5, b6, b7, b8, b9, b10, b11, b12, b13, b14, b15, b16, b17, b18, b19, b20, b21, b22, b23, b24, b25, b26, b27, b28, b29, b30, b31, b32, b33, b34, b35, b36, b37, b38, b39, b40, b41, b42, b43, b44, b45, b46, b47, b48, b49, b50]) (hw : zFr G as1) (kk : ∀ H1 : Heap, zObj G H1 as1 13 [b0, b1, b2, b3, b4, b5, b6, b7, b8, b9, b10, b11, b12, b13, b14, b15, b16, b17, b18, b19, b20, b21, b22, b23, b24, b25, b26, b27, b28, vs0, b30, b31, b32, b33, b34, b35, b36, b37, b38, b39, b40, b41, b42, b43, b44, b45, b46, b47, b48, b49, b50] → zUp as1 H H1 → zW G d M_Mo_init 165 [o0] st H1 Q) : zW G d M_Mo_init 162 [o0] (vs0 :: (.ref as1) :: st) H Q :=
  zw_putf (k := 29) dMo_init_162 zp_Mo_init_223 ho (Nat.le_of_ble_eq_true rfl) (Nat.le_of_ble_eq_true rfl) hw (zNarA hrs0) (zFitA hrs0) kk
theorem sMo_init_165 {G : zG} {d : Nat} {Q : Option Value → Heap → Prop} {H : Heap} {st : List Value} {v0 : Value} {N : Nat} (hr0 : zRf v0 := by first | exact zRf_ref | exact zRf_null | exact zRf_rf _ | assumption) (hn : ¬ (480 : Int32) < 0) (hN : ((480 : Int32)).toNatClampNeg = N) (hb : N * componentBytes .byte ≤ 536870912) (hc1 : H.size + 1 ≤ zCp G) (hs1 : zT H + N ≤ zSp G) (kk : ∀ H1 : Heap, zArr G H1 H.size .byte N (fun _ => defaultValue .byte) → zNw N H H1 → zW G d M_Mo_init 171 [some v0] ((.ref H.size) :: v0 :: st) H1 Q) : zW G d M_Mo_init 165 [some v0] st H Q :=
  zw_aload_n (i := 0) dMo_init_165 rfl rfl hr0 <| zw_sipush (480 : Int32) dMo_init_166 zks_480 <| zw_newa .byte dMo_init_169 rfl (zt1 68 rfl) hn hN hb hc1 hs1 kk
theorem sMo_init_171 {G : zG} {d : Nat} {Q : Option Value → Heap → Prop} {H : Heap} {st : List Value} {o0 : Option Value} {vs0 : Value} {as1 : Nat} {b0 : Value} {b1 : Value} {b2 : Value} {b3 : Value} {b4 : Value} {b5 : Value} {b6 : Value} {b7 : Value} {b8 : Value} {b9 : Value} {b10 : Value} {b11 : Value} {b12 : Value} {b13 : Value} {b14 : Value} {b15 : Value} {b16 : Value} {b17 : Value} {b18 : Value} {b19 : Value} {b20 : Value} {b21 : Value} {b22 : Value} {b23 : Value} {b24 : Value} {b25 : Value} {b26 : Value} {b27 : Value} {b28 : Value} {b29 : Value} {b30 : Value} {b31 : Value} {b32 : Value} {b33 : Value} {b34 : Value} {b35 : Value} {b36 : Value} {b37 : Value} {b38 : Value} {b39 : Value} {b40 : Value} {b41 : Value} {b42 : Value} {b43 : Value} {b44 : Value} {b45 : Value} {b46 : Value} {b47 : Value} {b48 : Value} {b49 : Value} {b50 : Value} (hrs0 : zRf vs0 := by first | exact zRf_ref | exact zRf_null | exact zRf_rf _ | assumption) (ho : zObj G H as1 13 [b0, b1, b2, b3, b4, b5, b6, b7, b8, b9, b10, b11, b12, b13, b14, b15, b16, b17, b18, b19, b20, b21, b22, b23, b24, b25, b26, b27, b28, b29, b30, b31, b32, b33, b34, b35, b36, b37, b38, b39, b40, b41, b42, b43, b44, b45, b46, b47, b48, b49, b50]) (hw : zFr G as1) (kk : ∀ H1 : Heap, zObj G H1 as1 13 [b0, b1, b2, b3, b4, b5, b6, b7, b8, b9, b10, b11, b12, b13, b14, b15, b16, b17, b18, b19, b20, b21, b22, b23, b24, b25, b26, b27, b28, b29, b30, vs0, b32, b33, b34, b35, b36, b37, b38, b39, b40, b41, b42, b43, b44, b45, b46, b47, b48, b49, b50] → zUp as1 H H1 → zW G d M_Mo_init 174 [o0] st H1 Q) : zW G d M_Mo_init 171 [o0] (vs0 :: (.ref as1) :: st) H Q :=
  zw_putf (k := 31) dMo_init_171 zp_Mo_init_202 ho (Nat.le_of_ble_eq_true rfl) (Nat.le_of_ble_eq_true rfl) hw (zNarA hrs0) (zFitA hrs0) kk
theorem sMo_init_174 {G : zG} {d : Nat} {Q : Option Value → Heap → Prop} {H : Heap} {st : List Value} {v0 : Value} {N : Nat} (hr0 : zRf v0 := by first | exact zRf_ref | exact zRf_null | exact zRf_rf _ | assumption) (hn : ¬ (20 : Int32) < 0) (hN : ((20 : Int32)).toNatClampNeg = N) (hb : N * componentBytes .int ≤ 536870912) (hc1 : H.size + 1 ≤ zCp G) (hs1 : zT H + N ≤ zSp G) (kk : ∀ H1 : Heap, zArr G H1 H.size .int N (fun _ => defaultValue .int) → zNw N H H1 → zW G d M_Mo_init 179 [some v0] ((.ref H.size) :: v0 :: st) H1 Q) : zW G d M_Mo_init 174 [some v0] st H Q :=
  zw_aload_n (i := 0) dMo_init_174 rfl rfl hr0 <| zw_bipush (20 : Int32) dMo_init_175 zkb_20 <| zw_newa .int dMo_init_177 rfl (zt6 65 rfl) hn hN hb hc1 hs1 kk
theorem sMo_init_179 {G : zG} {d : Nat} {Q : Option Value → Heap → Prop} {H : Heap} {st : List Value} {o0 : Option Value} {vs0 : Value} {as1 : Nat} {b0 : Value} {b1 : Value} {b2 : Value} {b3 : Value} {b4 : Value} {b5 : Value} {b6 : Value} {b7 : Value} {b8 : Value} {b9 : Value} {b10 : Value} {b11 : Value} {b12 : Value} {b13 : Value} {b14 : Value} {b15 : Value} {b16 : Value} {b17 : Value} {b18 : Value} {b19 : Value} {b20 : Value} {b21 : Value} {b22 : Value} {b23 : Value} {b24 : Value} {b25 : Value} {b26 : Value} {b27 : Value} {b28 : Value} {b29 : Value} {b30 : Value} {b31 : Value} {b32 : Value} {b33 : Value} {b34 : Value} {b35 : Value} {b36 : Value} {b37 : Value} {b38 : Value} {b39 : Value} {b40 : Value} {b41 : Value} {b42 : Value} {b43 : Value} {b44 : Value} {b45 : Value} {b46 : Value} {b47 : Value} {b48 : Value} {b49 : Value} {b50 : Value} (hrs0 : zRf vs0 := by first | exact zRf_ref | exact zRf_null | exact zRf_rf _ | assumption) (ho : zObj G H as1 13 [b0, b1, b2, b3, b4, b5, b6, b7, b8, b9, b10, b11, b12, b13, b14, b15, b16, b17, b18, b19, b20, b21, b22, b23, b24, b25, b26, b27, b28, b29, b30, b31, b32, b33, b34, b35, b36, b37, b38, b39, b40, b41, b42, b43, b44, b45, b46, b47, b48, b49, b50]) (hw : zFr G as1) (kk : ∀ H1 : Heap, zObj G H1 as1 13 [b0, b1, b2, b3, b4, b5, b6, b7, b8, b9, b10, b11, b12, b13, b14, b15, b16, b17, b18, b19, b20, b21, b22, b23, b24, b25, b26, b27, b28, b29, b30, b31, vs0, b33, b34, b35, b36, b37, b38, b39, b40, b41, b42, b43, b44, b45, b46, b47, b48, b49, b50] → zUp as1 H H1 → zW G d M_Mo_init 182 [o0] st H1 Q) : zW G d M_Mo_init 179 [o0] (vs0 :: (.ref as1) :: st) H Q :=
  zw_putf (k := 32) dMo_init_179 zp_Mo_init_199 ho (Nat.le_of_ble_eq_true rfl) (Nat.le_of_ble_eq_true rfl) hw (zNarA hrs0) (zFitA hrs0) kk
theorem sMo_init_182 {G : zG} {d : Nat} {Q : Option Value → Heap → Prop} {H : Heap} {st : List Value} {v0 : Value} {N : Nat} (hr0 : zRf v0 := by first | exact zRf_ref | exact zRf_null | exact zRf_rf _ | assumption) (hn : ¬ (20 : Int32) < 0) (hN : ((20 : Int32)).toNatClampNeg = N) (hb : N * componentBytes .int ≤ 536870912) (hc1 : H.size + 1 ≤ zCp G) (hs1 : zT H + N ≤ zSp G) (kk : ∀ H1 : Heap, zArr G H1 H.size .int N (fun _ => defaultValue .int) → zNw N H H1 → zW G d M_Mo_init 187 [some v0] ((.ref H.size) :: v0 :: st) H1 Q) : zW G d M_Mo_init 182 [some v0] st H Q :=
  zw_aload_n (i := 0) dMo_init_182 rfl rfl hr0 <| zw_bipush (20 : Int32) dMo_init_183 zkb_20 <| zw_newa .int dMo_init_185 rfl (zt6 65 rfl) hn hN hb hc1 hs1 kk
theorem sMo_init_187 {G : zG} {d : Nat} {Q : Option Value → Heap → Prop} {H : Heap} {st : List Value} {o0 : Option Value} {vs0 : Value} {as1 : Nat} {b0 : Value} {b1 : Value} {b2 : Value} {b3 : Value} {b4 : Value} {b5 : Value} {b6 : Value} {b7 : Value} {b8 : Value} {b9 : Value} {b10 : Value} {b11 : Value} {b12 : Value} {b13 : Value} {b14 : Value} {b15 : Value} {b16 : Value} {b17 : Value} {b18 : Value} {b19 : Value} {b20 : Value} {b21 : Value} {b22 : Value} {b23 : Value} {b24 : Value} {b25 : Value} {b26 : Value} {b27 : Value} {b28 : Value} {b29 : Value} {b30 : Value} {b31 : Value} {b32 : Value} {b33 : Value} {b34 : Value} {b35 : Value} {b36 : Value} {b37 : Value} {b38 : Value} {b39 : Value} {b40 : Value} {b41 : Value} {b42 : Value} {b43 : Value} {b44 : Value} {b45 : Value} {b46 : Value} {b47 : Value} {b48 : Value} {b49 : Value} {b50 : Value} (hrs0 : zRf vs0 := by first | exact zRf_ref | exact zRf_null | exact zRf_rf _ | assumption) (ho : zObj G H as1 13 [b0, b1, b2, b3, b4, b5, b6, b7, b8, b9, b10, b11, b12, b13, b14, b15, b16, b17, b18, b19, b20, b21, b22, b23, b24, b25, b26, b27, b28, b29, b30, b31, b32, b33, b34, b35, b36, b37, b38, b39, b40, b41, b42, b43, b44, b45, b46, b47, b48, b49, b50]) (hw : zFr G as1) (kk : ∀ H1 : Heap, zObj G H1 as1 13 [b0, b1, b2, b3, b4, b5, b6, b7, b8, b9, b10, b11, b12, b13, b14, b15, b16, b17, b18, b19, b20, b21, b22, b23, b24, b25, b26, b27, b28, b29, b30, b31, b32, vs0, b34, b35, b36, b37, b38, b39, b40, b41, b42, b43, b44, b45, b46, b47, b48, b49, b50] → zUp as1 H H1 → zW G d M_Mo_init 190 [o0] st H1 Q) : zW G d M_Mo_init 187 [o0] (vs0 :: (.ref as1) :: st) H Q :=
  zw_putf (k := 33) dMo_init_187 zp_Mo_init_205 ho (Nat.le_of_ble_eq_true rfl) (Nat.le_of_ble_eq_true rfl) hw (zNarA hrs0) (zFitA hrs0) kk
theorem sMo_init_190 {G : zG} {d : Nat} {Q : Option Value → Heap → Prop} {H : Heap} {st : List Value} {v0 : Value} {N : Nat} (hr0 : zRf v0 := by first | exact zRf_ref | exact zRf_null | exact zRf_rf _ | assumption) (hn : ¬ (20 : Int32) < 0) (hN : ((20 : Int32)).toNatClampNeg = N) (hb : N * componentBytes .int ≤ 536870912) (hc1 : H.size + 1 ≤ zCp G) (hs1 : zT H + N ≤ zSp G) (kk : ∀ H1 : Heap, zArr G H1 H.size .int N (fun _ => defaultValue .int) → zNw N H H1 → zW G d M_Mo_init 195 [some v0] ((.ref H.size) :: v0 :: st) H1 Q) : zW G d M_Mo_init 190 [some v0] st H Q :=
  zw_aload_n (i := 0) dMo_init_190 rfl rfl hr0 <| zw_bipush (20 : Int32) dMo_init_191 zkb_20 <| zw_newa .int dMo_init_193 rfl (zt6 65 rfl) hn hN hb hc1 hs1 kk
theorem sMo_init_195 {G : zG} {d : Nat} {Q : Option Value → Heap → Prop} {H : Heap} {st : List Value} {o0 : Option Value} {vs0 : Value} {as1 : Nat} {b0 : Value} {b1 : Value} {b2 : Value} {b3 : Value} {b4 : Value} {b5 : Value} {b6 : Value} {b7 : Value} {b8 : Value} {b9 : Value} {b10 : Value} {b11 : Value} {b12 : Value} {b13 : Value} {b14 : Value} {b15 : Value} {b16 : Value} {b17 : Value} {b18 : Value} {b19 : Value} {b20 : Value} {b21 : Value} {b22 : Value} {b23 : Value} {b24 : Value} {b25 : Value} {b26 : Value} {b27 : Value} {b28 : Value} {b29 : Value} {b30 : Value} {b31 : Value} {b32 : Value} {b33 : Value} {b34 : Value} {b35 : Value} {b36 : Value} {b37 : Value} {b38 : Value} {b39 : Value} {b40 : Value} {b41 : Value} {b42 : Value} {b43 : Value} {b44 : Value} {b45 : Value} {b46 : Value} {b47 : Value} {b48 : Value} {b49 : Value} {b50 : Value} (hrs0 : zRf vs0 := by first | exact zRf_ref | exact zRf_null | exact zRf_rf _ | assumption) (ho : zObj G H as1 13 [b0, b1, b2, b3, b4, b5, b6, b7, b8, b9, b10, b11, b12, b13, b14, b15, b16, b17, b18, b19, b20, b21, b22, b23, b24, b25, b26, b27, b28, b29, b30, b31, b32, b33, b34, b35, b36, b37, b38, b39, b40, b41, b42, b43, b44, b45, b46, b47, b48, b49, b50]) (hw : zFr G as1) (kk : ∀ H1 : Heap, zObj G H1 as1 13 [b0, b1, b2, b3, b4, b5, b6, b7, b8, b9, b10, b11, b12, b13, b14, b15, b16, b17, b18, b19, b20, b21, b22, b23, b24, b25, b26, b27, b28, b29, b30, b31, b32, b33, vs0, b35, b36, b37, b38, b39, b40, b41, b42, b43, b44, b45, b46, b47, b48, b49, b50] → zUp as1 H H1 → zW G d M_Mo_init 198 [o0] st H1 Q) : zW G d M_Mo_init 195 [o0] (vs0 :: (.ref as1) :: st) H Q :=
  zw_putf (k := 34) dMo_init_195 zp_Mo_init_208 ho (Nat.le_of_ble_eq_true rfl) (Nat.le_of_ble_eq_true rfl) hw (zNarA hrs0) (zFitA hrs0) kk
theorem sMo_init_198 {G : zG} {d : Nat} {Q : Option Value → Heap → Prop} {H : Heap} {st : List Value} {v0 : Value} {N : Nat} (hr0 : zRf v0 := by first | exact zRf_ref | exact zRf_null | exact zRf_rf _ | assumption) (hn : ¬ (400 : Int32) < 0) (hN : ((400 : Int32)).toNatClampNeg = N) (hb : N * componentBytes .byte ≤ 536870912) (hc1 : H.size + 1 ≤ zCp G) (hs1 : zT H + N ≤ zSp G) (kk : ∀ H1 : Heap, zArr G H1 H.size .byte N (fun _ => defaultValue .byte) → zNw N H H1 → zW G d M_Mo_init 204 [some v0] ((.ref H.size) :: v0 :: st) H1 Q) : zW G d M_Mo_init 198 [some v0] st H Q :=
  zw_aload_n (i := 0) dMo_init_198 rfl rfl hr0 <| zw_sipush (400 : Int32) dMo_init_199 zks_400 <| zw_newa .byte dMo_init_202 rfl (zt1 68 rfl) hn hN hb hc1 hs1 kk
theorem sMo_init_204 {G : zG} {d : Nat} {Q : Option Value → Heap → Prop} {H : Heap} {st : List Value} {o0 : Option Value} {vs0 : Value} {as1 : Nat} {b0 : Value} {b1 : Value} {b2 : Value} {b3 : Value} {b4 : Value} {b5 : Value} {b6 : Value} {b7 : Value} {b8 : Value} {b9 : Value} {b10 : Value} {b11 : Value} {b12 : Value} {b13 : Value} {b14 : Value} {b15 : Value} {b16 : Value} {b17 : Value} {b18 : Value} {b19 : Value} {b20 : Value} {b21 : Value} {b22 : Value} {b23 : Value} {b24 : Value} {b25 : Value} {b26 : Value} {b27 : Value} {b28 : Value} {b29 : Value} {b30 : Value} {b31 : Value} {b32 : Value} {b33 : Value} {b34 : Value} {b35 : Value} {b36 : Value} {b37 : Value} {b38 : Value} {b39 : Value} {b40 : Value} {b41 : Value} {b42 : Value} {b43 : Value} {b44 : Value} {b45 : Value} {b46 : Value} {b47 : Value} {b48 : Value} {b49 : Value} {b50 : Value} (hrs0 : zRf vs0 := by first | exact zRf_ref | exact zRf_null | exact zRf_rf _ | assumption) (ho : zObj G H as1 13 [b0, b1, b2, b3, b4, b5, b6, b7, b8, b9, b10, b11, b12, b13, b14, b15, b16, b17, b18, b19, b20, b21, b22, b23, b24, b25, b26, b27, b28, b29, b30, b31, b32, b33, b34, b35, b36, b37, b38, b39, b40, b41, b42, b43, b44, b45, b46, b47, b48, b49, b50]) (hw : zFr G as1) (kk : ∀ H1 : Heap, zObj G H1 as1 13 [b0, b1, b2, b3, b4, b5, b6, b7, b8, b9, b10, b11, b12, b13, b14, b15, b16, b17, b18, b19, b20, b21, b22, b23, b24, b25, b26, b27, b28, b29, b30, b31, b32, b33, b34, b35, vs0, b37, b38, b39, b40, b41, b42, b43, b44, b45, b46, b47, b48, b49, b50] → zUp as1 H H1 → zW G d M_Mo_init 207 [o0] st H1 Q) : zW G d M_Mo_init 204 [o0] (vs0 :: (.ref as1) :: st) H Q :=
  zw_putf (k := 36) dMo_init_204 zp_Mo_init_211 ho (Nat.le_of_ble_eq_true rfl) (Nat.le_of_ble_eq_true rfl) hw (zNarA hrs0) (zFitA hrs0) kk
theorem sMo_init_207 {G : zG} {d : Nat} {Q : Option Value → Heap → Prop} {H : Heap} {st : List Value} {v0 : Value} {N : Nat} (hr0 : zRf v0 := by first | exact zRf_ref | exact zRf_null | exact zRf_rf _ | assumption) (hn : ¬ (16 : Int32) < 0) (hN : ((16 : Int32)).toNatClampNeg = N) (hb : N * componentBytes .byte ≤ 536870912) (hc1 : H.size + 1 ≤ zCp G) (hs1 : zT H + N ≤ zSp G) (kk : ∀ H1 : Heap, zArr G H1 H.size .byte N (fun _ => defaultValue .byte) → zNw N H H1 → zW G d M_Mo_init 212 [some v0] ((.ref H.size) :: v0 :: st) H1 Q) : zW G d M_Mo_init 207 [some v0] st H Q :=
  zw_aload_n (i := 0) dMo_init_207 rfl rfl hr0 <| zw_bipush (16 : Int32) dMo_init_208 zkb_16 <| zw_newa .byte dMo_init_210 rfl (zt1 68 rfl) hn hN hb hc1 hs1 kk
theorem sMo_init_212 {G : zG} {d : Nat} {Q : Option Value → Heap → Prop} {H : Heap} {st : List Value} {o0 : Option Value} {vs0 : Value} {as1 : Nat} {b0 : Value} {b1 : Value} {b2 : Value} {b3 : Value} {b4 : Value} {b5 : Value} {b6 : Value} {b7 : Value} {b8 : Value} {b9 : Value} {b10 : Value} {b11 : Value} {b12 : Value} {b13 : Value} {b14 : Value} {b15 : Value} {b16 : Value} {b17 : Value} {b18 : Value} {b19 : Value} {b20 : Value} {b21 : Value} {b22 : Value} {b23 : Value} {b24 : Value} {b25 : Value} {b26 : Value} {b27 : Value} {b28 : Value} {b29 : Value} {b30 : Value} {b31 : Value} {b32 : Value} {b33 : Value} {b34 : Value} {b35 : Value} {b36 : Value} {b37 : Value} {b38 : Value} {b39 : Value} {b40 : Value} {b41 : Value} {b42 : Value} {b43 : Value} {b44 : Value} {b45 : Value} {b46 : Value} {b47 : Value} {b48 : Value} {b49 : Value} {b50 : Value} (hrs0 : zRf vs0 := by first | exact zRf_ref | exact zRf_null | exact zRf_rf _ | assumption) (ho : zObj G H as1 13 [b0, b1, b2, b3, b4, b5, b6, b7, b8, b9, b10, b11, b12, b13, b14, b15, b16, b17, b18, b19, b20, b21, b22, b23, b24, b25, b26, b27, b28, b29, b30, b31, b32, b33, b34, b35, b36, b37, b38, b39, b40, b41, b42, b43, b44, b45, b46, b47, b48, b49, b50]) (hw : zFr G as1) (kk : ∀ H1 : Heap, zObj G H1 as1 13 [b0, b1, b2, b3, b4, b5, b6, b7, b8, b9, b10, b11, b12, b13, b14, b15, b16, b17, b18, b19, b20, b21, b22, b23, b24, b25, b26, b27, b28, b29, b30, b31, b32, b33, b34, b35, b36, b37, b38, b39, b40, b41, b42, vs0, b44, b45, b46, b47, b48, b49, b50] → zUp as1 H H1 → zW G d M_Mo_init 215 [o0] st H1 Q) : zW G d M_Mo_init 212 [o0] (vs0 :: (.ref as1) :: st) H Q :=
  zw_putf (k := 43) dMo_init_212 zp_Mo_init_136 ho (Nat.le_of_ble_eq_true rfl) (Nat.le_of_ble_eq_true rfl) hw (zNarA hrs0) (zFitA hrs0) kk
theorem sMo_init_215 {G : zG} {d : Nat} {Q : Option Value → Heap → Prop} {H : Heap} {st : List Value} {v0 : Value} {N : Nat} (hr0 : zRf v0 := by first | exact zRf_ref | exact zRf_null | exact zRf_rf _ | assumption) (hn : ¬ (1500 : Int32) < 0) (hN : ((1500 : Int32)).toNatClampNeg = N) (hb : N * componentBytes .byte ≤ 536870912) (hc1 : H.size + 1 ≤ zCp G) (hs1 : zT H + N ≤ zSp G) (kk : ∀ H1 : Heap, zArr G H1 H.size .byte N (fun _ => defaultValue .byte) → zNw N H H1 → zW G d M_Mo_init 221 [some v0] ((.ref H.size) :: v0 :: st) H1 Q) : zW G d M_Mo_init 215 [some v0] st H Q :=
  zw_aload_n (i := 0) dMo_init_215 rfl rfl hr0 <| zw_sipush (1500 : Int32) dMo_init_216 zks_1500 <| zw_newa .byte dMo_init_219 rfl (zt1 68 rfl) hn hN hb hc1 hs1 kk
theorem sMo_init_221 {G : zG} {d : Nat} {Q : Option Value → Heap → Prop} {H : Heap} {st : List Value} {o0 : Option Value} {vs0 : Value} {as1 : Nat} {b0 : Value} {b1 : Value} {b2 : Value} {b3 : Value} {b4 : Value} {b5 : Value} {b6 : Value} {b7 : Value} {b8 : Value} {b9 : Value} {b10 : Value} {b11 : Value} {b12 : Value} {b13 : Value} {b14 : Value} {b15 : Value} {b16 : Value} {b17 : Value} {b18 : Value} {b19 : Value} {b20 : Value} {b21 : Value} {b22 : Value} {b23 : Value} {b24 : Value} {b25 : Value} {b26 : Value} {b27 : Value} {b28 : Value} {b29 : Value} {b30 : Value} {b31 : Value} {b32 : Value} {b33 : Value} {b34 : Value} {b35 : Value} {b36 : Value} {b37 : Value} {b38 : Value} {b39 : Value} {b40 : Value} {b41 : Value} {b42 : Value} {b43 : Value} {b44 : Value} {b45 : Value} {b46 : Value} {b47 : Value} {b48 : Value} {b49 : Value} {b50 : Value} (hrs0 : zRf vs0 := by first | exact zRf_ref | exact zRf_null | exact zRf_rf _ | assumption) (ho : zObj G H as1 13 [b0, b1, b2, b3, b4, b5, b6, b7, b8, b9, b10, b11, b12, b13, b14, b15, b16, b17, b18, b19, b20, b21, b22, b23, b24, b25, b26, b27, b28, b29, b30, b31, b32, b33, b34, b35, b36, b37, b38, b39, b40, b41, b42, b43, b44, b45, b46, b47, b48, b49, b50]) (hw : zFr G as1) (kk : ∀ H1 : Heap, zObj G H1 as1 13 [b0, b1, b2, b3, b4, b5, b6, b7, b8, b9, b10, b11, b12, b13, b14, b15, b16, b17, b18, b19, b20, b21, b22, b23, b24, b25, b26, b27, b28, b29, b30, b31, b32, b33, b34, b35, b36, b37, b38, b39, b40, b41, b42, b43, b44, b45, b46, vs0, b48, b49, b50] → zUp as1 H H1 → zW G d M_Mo_init 224 [o0] st H1 Q) : zW G d M_Mo_init 221 [o0] (vs0 :: (.ref as1) :: st) H Q :=
  zw_putf (k := 47) dMo_init_221 zp_Mo_init_265 ho (Nat.le_of_ble_eq_true rfl) (Nat.le_of_ble_eq_true rfl) hw (zNarA hrs0) (zFitA hrs0) kk
theorem sMo_init_224 {G : zG} {d : Nat} {Q : Option Value → Heap → Prop} {H : Heap} {st : List Value} {a0 : Nat} {af1 : Nat} {n : Nat} {g : Nat → Value} (hf1 : zFd G H a0 13 7 (.ref af1)) (ha : zArr G H af1 .int n g) (hi : vp_in (5 : Int32) n) (hw : zFr G af1) (kk : ∀ H1 : Heap, zArr G H1 af1 .int n (updV g ((5 : Int32)).toNatClampNeg (.int (7 : Int32))) → zUp af1 H H1 → zW G d M_Mo_init 232 [some (.ref a0)] st H1 Q) : zW G d M_Mo_init 224 [some (.ref a0)] st H Q :=
  zw_aload_n (i := 0) dMo_init_224 rfl rfl zRf_ref <| zw_getf dMo_init_225 zf_Mo_39 hf1 <| zw_iconst (5 : Int32) dMo_init_228 zki_5 <| zw_bipush (7 : Int32) dMo_init_229 zkb_7 <| zw_iast dMo_init_231 ha hi hw kk
theorem sMo_init_232 {G : zG} {d : Nat} {Q : Option Value → Heap → Prop} {H : Heap} {st : List Value} {a0 : Nat} {af1 : Nat} {n : Nat} {g : Nat → Value} (hf1 : zFd G H a0 13 6 (.ref af1)) (ha : zArr G H af1 .byte n g) (hi : vp_in (750 : Int32) n) (hw : zFr G af1) (kk : ∀ H1 : Heap, zArr G H1 af1 .byte n (updV g ((750 : Int32)).toNatClampNeg (.int ((47 : Int32)).toInt8.toInt32)) → zUp af1 H H1 → zW G d M_Mo_init 242 [some (.ref a0)] st H1 Q) : zW G d M_Mo_init 232 [some (.ref a0)] st H Q :=
  zw_aload_n (i := 0) dMo_init_232 rfl rfl zRf_ref <| zw_getf dMo_init_233 zf_Mo_36 hf1 <| zw_sipush (750 : Int32) dMo_init_236 zks_750 <| zw_bipush (47 : Int32) dMo_init_239 zkb_47 <| zw_bast dMo_init_241 ha hi hw kk
theorem sMo_init_242 {G : zG} {d : Nat} {Q : Option Value → Heap → Prop} {H : Heap} {st : List Value} {a0 : Nat} {af1 : Nat} {n : Nat} {g : Nat → Value} (hf1 : zFd G H a0 13 6 (.ref af1)) (ha : zArr G H af1 .byte n g) (hi : vp_in (751 : Int32) n) (hw : zFr G af1) (kk : ∀ H1 : Heap, zArr G H1 af1 .byte n (updV g ((751 : Int32)).toNatClampNeg (.int ((47 : Int32)).toInt8.toInt32)) → zUp af1 H H1 → zW G d M_Mo_init 252 [some (.ref a0)] st H1 Q) : zW G d M_Mo_init 242 [some (.ref a0)] st H Q :=
  zw_aload_n (i := 0) dMo_init_242 rfl rfl zRf_ref <| zw_getf dMo_init_243 zf_Mo_36 hf1 <| zw_sipush (751 : Int32) dMo_init_246 zks_751 <| zw_bipush (47 : Int32) dMo_init_249 zkb_47 <| zw_bast dMo_init_251 ha hi hw kk
theorem sMo_init_252 {G : zG} {d : Nat} {Q : Option Value → Heap → Prop} {H : Heap} {st : List Value} {a0 : Nat} {af1 : Nat} {n : Nat} {g : Nat → Value} (hf1 : zFd G H a0 13 6 (.ref af1)) (ha : zArr G H af1 .byte n g) (hi : vp_in (752 : Int32) n) (hw : zFr G af1) (kk : ∀ H1 : Heap, zArr G H1 af1 .byte n (updV g ((752 : Int32)).toNatClampNeg (.int ((104 : Int32)).toInt8.toInt32)) → zUp af1 H H1 → zW G d M_Mo_init 262 [some (.ref a0)] st H1 Q) : zW G d M_Mo_init 252 [some (.ref a0)] st H Q :=
  zw_aload_n (i := 0) dMo_init_252 rfl rfl zRf_ref <| zw_getf dMo_init_253 zf_Mo_36 hf1 <| zw_sipush (752 : Int32) dMo_init_256 zks_752 <| zw_bipush (104 : Int32) dMo_init_259 zkb_104 <| zw_bast dMo_init_261 ha hi hw kk
theorem sMo_init_262 {G : zG} {d : Nat} {Q : Option Value → Heap → Prop} {H : Heap} {st : List Value} {a0 : Nat} {af1 : Nat} {n : Nat} {g : Nat → Value} (hf1 : zFd G H a0 13 6 (.ref af1)) (ha : zArr G H af1 .byte n g) (hi : vp_in (753 : Int32) n) (hw : zFr G af1) (kk : ∀ H1 : Heap, zArr G H1 af1 .byte n (updV g ((753 : Int32)).toNatClampNeg (.int ((111 : Int32)).toInt8.toInt32)) → zUp af1 H H1 → zW G d M_Mo_init 272 [some (.ref a0)] st H1 Q) : zW G d M_Mo_init 262 [some (.ref a0)] st H Q :=
  zw_aload_n (i := 0) dMo_init_262 rfl rfl zRf_ref <| zw_getf dMo_init_263 zf_Mo_36 hf1 <| zw_sipush (753 : Int32) dMo_init_266 zks_753 <| zw_bipush (111 : Int32) dMo_init_269 zkb_111 <| zw_bast dMo_init_271 ha hi hw kk
theorem sMo_init_272 {G : zG} {d : Nat} {Q : Option Value → Heap → Prop} {H : Heap} {st : List Value} {a0 : Nat} {af1 : Nat} {n : Nat} {g : Nat → Value} (hf1 : zFd G H a0 13 6 (.ref af1)) (ha : zArr G H af1 .byte n g) (hi : vp_in (754 : Int32) n) (hw : zFr G af1) (kk : ∀ H1 : Heap, zArr G H1 af1 .byte n (updV g ((754 : Int32)).toNatClampNeg (.int ((109 : Int32)).toInt8.toInt32)) → zUp af1 H H1 → zW G d M_Mo_init 282 [some (.ref a0)] st H1 Q) : zW G d M_Mo_init 272 [some (.ref a0)] st H Q :=
  zw_aload_n (i := 0) dMo_init_272 rfl rfl zRf_ref <| zw_getf dMo_init_273 zf_Mo_36 hf1 <| zw_sipush (754 : Int32) dMo_init_276 zks_754 <| zw_bipush (109 : Int32) dMo_init_279 zkb_109 <| zw_bast dMo_init_281 ha hi hw kk
theorem sMo_init_282 {G : zG} {d : Nat} {Q : Option Value → Heap → Prop} {H : Heap} {st : List Value} {a0 : Nat} {af1 : Nat} {n : Nat} {g : Nat → Value} (hf1 : zFd G H a0 13 6 (.ref af1)) (ha : zArr G H af1 .byte n g) (hi : vp_in (755 : Int32) n) (hw : zFr G af1) (kk : ∀ H1 : Heap, zArr G H1 af1 .byte n (updV g ((755 : Int32)).toNatClampNeg (.int ((101 : Int32)).toInt8.toInt32)) → zUp af1 H H1 → zW G d M_Mo_init 292 [some (.ref a0)] st H1 Q) : zW G d M_Mo_init 282 [some (.ref a0)] st H Q :=
  zw_aload_n (i := 0) dMo_init_282 rfl rfl zRf_ref <| zw_getf dMo_init_283 zf_Mo_36 hf1 <| zw_sipush (755 : Int32) dMo_init_286 zks_755 <| zw_bipush (101 : Int32) dMo_init_289 zkb_101 <| zw_bast dMo_init_291 ha hi hw kk
theorem sMo_init_292 {G : zG} {d : Nat} {Q : Option Value → Heap → Prop} {H : Heap} {st : List Value} {a0 : Nat} {af1 : Nat} {n : Nat} {g : Nat → Value} (hf1 : zFd G H a0 13 6 (.ref af1)) (ha : zArr G H af1 .byte n g) (hi : vp_in (756 : Int32) n) (hw : zFr G af1) (kk : ∀ H1 : Heap, zArr G H1 af1 .byte n (updV g ((756 : Int32)).toNatClampNeg (.int ((47 : Int32)).toInt8.toInt32)) → zUp af1 H H1 → zW G d M_Mo_init 302 [some (.ref a0)] st H1 Q) : zW G d M_Mo_init 292 [some (.ref a0)] st H Q :=
  zw_aload_n (i := 0) dMo_init_292 rfl rfl zRf_ref <| zw_getf dMo_init_293 zf_Mo_36 hf1 <| zw_sipush (756 : Int32) dMo_init_296 zks_756 <| zw_bipush (47 : Int32) dMo_init_299 zkb_47 <| zw_bast dMo_init_301 ha hi hw kk
theorem sMo_init_302 {G : zG} {d : Nat} {Q : Option Value → Heap → Prop} {H : Heap} {st : List Value} {a0 : Nat} {P : Heap → Prop} (hd : 1 ≤ d) (hl : st.length ≤ 4) (ho : zIs G H a0 13) (hc : zC G (d - 1) M_Mo_copyRow [(.ref a0), (.int (1 : Int32)), (.int (5 : Int32))] H (zPv P)) (kk : ∀ H1 : Heap, P H1 → zOk G H1 → H.size ≤ H1.size → zT H ≤ zT H1 → zW G d M_Mo_init 308 [some (.ref a0)] st H1 Q) : zW G d M_Mo_init 302 [some (.ref a0)] st H Q :=
  zw_aload_n (i := 0) dMo_init_302 rfl rfl zRf_ref <| zw_iconst (1 : Int32) dMo_init_303 zki_1 <| zw_iconst (5 : Int32) dMo_init_304 zki_5 <| zw_callV [(.int (1 : Int32)), (.int (5 : Int32))] _ dMo_init_305 hd zk_Mo_148 ho rfl rfl hl hc (zPv_k kk)
theorem sMo_init_308 {G : zG} {d : Nat} {Q : Option Value → Heap → Prop} {H : Heap} {o0 : Option Value} (hq : Q none H) : zW G d M_Mo_init 308 [o0] [] H Q :=
  zw_vret dMo_init_308 rfl hq
theorem sMo_feed_0 {G : zG} {d : Nat} {ad : Nat → Nat} {μ : zMm} {P : Option Value → zMm → Prop} {st : List Value} {o1 : Option Value} {o2 : Option Value} {o3 : Option Value} {o4 : Option Value} {o5 : Option Value} (kt : (((μ.1 1) + (nI 20)) ≤ (nI 2000)) → mW G d ad M_Mo_feed 15 [some (.ref (ad 50)), o1, o2, o3, o4, o5] st μ P) (kf : (¬ ((μ.1 1) + (nI 20)) ≤ (nI 2000)) → mW G d ad M_Mo_feed 13 [some (.ref (ad 50)), o1, o2, o3, o4, o5] st μ P) : mW G d ad M_Mo_feed 0 [some (.ref (ad 50)), o1, o2, o3, o4, o5] st μ P :=
  fun H0 H hM hm hu => zw_aload_n (i := 0) dMo_feed_0 rfl rfl zRf_ref <| zw_getf dMo_feed_1 zf_Mo_15 (hM.fi 1 (Nat.le_of_ble_eq_true rfl) mz_1) <| zw_bipush (nI 20) dMo_feed_4 zkb_20 <| zw_iadd dMo_feed_6 <| zw_sipush (nI 2000) dMo_feed_7 zks_2000 <| zw_icmp_le 15 dMo_feed_10 (by decide) (fun h => kt h H0 H hM hm hu) (fun h => kf h H0 H hM hm hu)
theorem sMo_feed_13 {G : zG} {d : Nat} {ad : Nat → Nat} {μ : zMm} {P : Option Value → zMm → Prop} {o0 : Option Value} {o1 : Option Value} {o2 : Option Value} {o3 : Option Value} {o4 : Option Value} {o5 : Option Value} (hq : P (some (.int (-1 : Int32))) μ) : mW G d ad M_Mo_feed 13 [o0, o1, o2, o3, o4, o5] [] μ P :=
  fun H0 H hM hm hu => zw_iconst (-1 : Int32) dMo_feed_13 zki_m1 <| zw_iret dMo_feed_14 .int rfl rfl ⟨μ, hq, hM, hm, hu⟩
theorem sMo_feed_15 {G : zG} {d : Nat} {ad : Nat → Nat} {μ : zMm} {P : Option Value → zMm → Prop} {st : List Value} {o2 : Option Value} {o3 : Option Value} {o4 : Option Value} {o5 : Option Value} {x1 : Int32} {P2 : zMm → Prop} (hd : 1 ≤ d) (hl : st.length ≤ 4) (hc : mC G (d - 1) ad M_Mo_putFour [(.ref (ad 50)), (.int x1)] μ (mPv P2)) (kk : ∀ μ1 : zMm, P2 μ1 → mW G d ad M_Mo_feed 20 [some (.ref (ad 50)), some (.int x1), o2, o3, o4, o5] st μ1 P) : mW G d ad M_Mo_feed 15 [some (.ref (ad 50)), some (.int x1), o2, o3, o4, o5] st μ P :=
  fun H0 H hM hm hu => zw_aload_n (i := 0) dMo_feed_15 rfl rfl zRf_ref <| zw_iload_n (i := 1) dMo_feed_16 rfl rfl <| zw_callV [(.int x1)] _ dMo_feed_17 hd zk_Mo_268 hM.is rfl rfl hl (hc H hM) (mPv_k kk hm hu)
theorem sMo_feed_20 {G : zG} {d : Nat} {ad : Nat → Nat} {μ : zMm} {P : Option Value → zMm → Prop} {st : List Value} {o1 : Option Value} {o3 : Option Value} {o4 : Option Value} {o5 : Option Value} {x2 : Int32} {P2 : zMm → Prop} (hd : 1 ≤ d) (hl : st.length ≤ 4) (hc : mC G (d - 1) ad M_Mo_putFour [(.ref (ad 50)), (.int x2)] μ (mPv P2)) (kk : ∀ μ1 : zMm, P2 μ1 → mW G d ad M_Mo_feed 25 [some (.ref (ad 50)), o1, some (.int x2), o3, o4, o5] st μ1 P) : mW G d ad M_Mo_feed 20 [some (.ref (ad 50)), o1, some (.int x2), o3, o4, o5] st μ P :=
  fun H0 H hM hm hu => zw_aload_n (i := 0) dMo_feed_20 rfl rfl zRf_ref <| zw_iload_n (i := 2) dMo_feed_21 rfl rfl <| zw_callV [(.int x2)] _ dMo_feed_22 hd zk_Mo_268 hM.is rfl rfl hl (hc H hM) (mPv_k kk hm hu)
theorem sMo_feed_25 {G : zG} {d : Nat} {ad : Nat → Nat} {μ : zMm} {P : Option Value → zMm → Prop} {st : List Value} {o1 : Option Value} {o2 : Option Value} {o4 : Option Value} {o5 : Option Value} {x3 : Int32} {P2 : zMm → Prop} (hd : 1 ≤ d) (hl : st.length ≤ 4) (hc : mC G (d - 1) ad M_Mo_putFour [(.ref (ad 50)), (.int x3)] μ (mPv P2)) (kk : ∀ μ1 : zMm, P2 μ1 → mW G d ad M_Mo_feed 30 [some (.ref (ad 50)), o1, o2, some (.int x3), o4, o5] st μ1 P) : mW G d ad M_Mo_feed 25 [some (.ref (ad 50)), o1, o2, some (.int x3), o4, o5] st μ P :=
  fun H0 H hM hm hu => zw_aload_n (i := 0) dMo_feed_25 rfl rfl zRf_ref <| zw_iload_n (i := 3) dMo_feed_26 rfl rfl <| zw_callV [(.int x3)] _ dMo_feed_27 hd zk_Mo_268 hM.is rfl rfl hl (hc H hM) (mPv_k kk hm hu)
theorem sMo_feed_30 {G : zG} {d : Nat} {ad : Nat → Nat} {μ : zMm} {P : Option Value → zMm → Prop} {st : List Value} {o1 : Option Value} {o2 : Option Value} {o3 : Option Value} {o5 : Option Value} {x4 : Int32} {P2 : zMm → Prop} (hd : 1 ≤ d) (hl : st.length ≤ 4) (hc : mC G (d - 1) ad M_Mo_putFour [(.ref (ad 50)), (.int x4)] μ (mPv P2)) (kk : ∀ μ1 : zMm, P2 μ1 → mW G d ad M_Mo_feed 36 [some (.ref (ad 50)), o1, o2, o3, some (.int x4), o5] st μ1 P) : mW G d ad M_Mo_feed 30 [some (.ref (ad 50)), o1, o2, o3, some (.int x4), o5] st μ P :=
  fun H0 H hM hm hu => zw_aload_n (i := 0) dMo_feed_30 rfl rfl zRf_ref <| zw_iload (i := 4) dMo_feed_31 rfl <| zw_callV [(.int x4)] _ dMo_feed_33 hd zk_Mo_268 hM.is rfl rfl hl (hc H hM) (mPv_k kk hm hu)
theorem sMo_feed_36 {G : zG} {d : Nat} {ad : Nat → Nat} {μ : zMm} {P : Option Value → zMm → Prop} {st : List Value} {o1 : Option Value} {o2 : Option Value} {o3 : Option Value} {o4 : Option Value} {x5 : Int32} {P2 : zMm → Prop} (hd : 1 ≤ d) (hl : st.length ≤ 4) (hc : mC G (d - 1) ad M_Mo_putFour [(.ref (ad 50)), (.int x5)] μ (mPv P2)) (kk : ∀ μ1 : zMm, P2 μ1 → mW G d ad M_Mo_feed 42 [some (.ref (ad 50)), o1, o2, o3, o4, some (.int x5)] st μ1 P) : mW G d ad M_Mo_feed 36 [some (.ref (ad 50)), o1, o2, o3, o4, some (.int x5)] st μ P :=
  fun H0 H hM hm hu => zw_aload_n (i := 0) dMo_feed_36 rfl rfl zRf_ref <| zw_iload (i := 5) dMo_feed_37 rfl <| zw_callV [(.int x5)] _ dMo_feed_39 hd zk_Mo_268 hM.is rfl rfl hl (hc H hM) (mPv_k kk hm hu)
theorem sMo_feed_42 {G : zG} {d : Nat} {ad : Nat → Nat} {μ : zMm} {P : Option Value → zMm → Prop} {o1 : Option Value} {o2 : Option Value} {o3 : Option Value} {o4 : Option Value} {o5 : Option Value} (hq : P (some (.int (μ.1 1))) μ) : mW G d ad M_Mo_feed 42 [some (.ref (ad 50)), o1, o2, o3, o4, o5] [] μ P :=
  fun H0 H hM hm hu => zw_aload_n (i := 0) dMo_feed_42 rfl rfl zRf_ref <| zw_getf dMo_feed_43 zf_Mo_15 (hM.fi 1 (Nat.le_of_ble_eq_true rfl) mz_1) <| zw_iret dMo_feed_46 .int rfl rfl ⟨μ, hq, hM, hm, hu⟩
theorem sMo_putFour_0 {G : zG} {d : Nat} {ad : Nat → Nat} {μ : zMm} {P : Option Value → zMm → Prop} {st : List Value} {o0 : Option Value} {o1 : Option Value} {o2 : Option Value} (kk : mW G d ad M_Mo_putFour 3 [o0, o1, some (.int (nI 24))] st μ P) : mW G d ad M_Mo_putFour 0 [o0, o1, o2] st μ P :=
  fun H0 H hM hm hu => zw_bipush (nI 24) dMo_putFour_0 zkb_24 <| zw_istore_n (i := 2) dMo_putFour_2 rfl (Nat.le_of_ble_eq_true rfl) <| kk H0 H hM hm hu
theorem sMo_putFour_3 {G : zG} {d : Nat} {ad : Nat → Nat} {μ : zMm} {P : Option Value → zMm → Prop} {st : List Value} {o0 : Option Value} {o1 : Option Value} {x2 : Int32} (kt : (x2 < 0) → mW G d ad M_Mo_putFour 36 [o0, o1, some (.int x2)] st μ P) (kf : (¬ x2 < 0) → mW G d ad M_Mo_putFour 7 [o0, o1, some (.int x2)] st μ P) : mW G d ad M_Mo_putFour 3 [o0, o1, some (.int x2)] st μ P :=
  fun H0 H hM hm hu => zw_iload_n (i := 2) dMo_putFour_3 rfl rfl <| zw_if_lt 36 dMo_putFour_4 (by decide) (fun h => kt h H0 H hM hm hu) (fun h => kf h H0 H hM hm hu)
theorem sMo_putFour_7 {G : zG} {d : Nat} {ad : Nat → Nat} {μ : zMm} {P : Option Value → zMm → Prop} {st : List Value} {x1 : Int32} {x2 : Int32} {i : Nat} (hx : (μ.1 1) = nI i) (hi : i < mLn 0) (kk : mW G d ad M_Mo_putFour 20 [some (.ref (ad 50)), some (.int x1), some (.int x2)] st (μ.1, updA μ.2 0 i (((x1 >>> (x2 &&& 31))).toInt8.toInt32).toInt8.toInt32) P) : mW G d ad M_Mo_putFour 7 [some (.ref (ad 50)), some (.int x1), some (.int x2)] st μ P :=
  fun H0 H hM hm hu => zw_aload_n (i := 0) dMo_putFour_7 rfl rfl zRf_ref <| zw_getf dMo_putFour_8 zf_Mo_24 (hM.fa 0 (Nat.le_of_ble_eq_true rfl) mn_0) <| zw_aload_n (i := 0) dMo_putFour_11 rfl rfl zRf_ref <| zw_getf dMo_putFour_12 zf_Mo_15 (hM.fi 1 (Nat.le_of_ble_eq_true rfl) mz_1) <| zw_iload_n (i := 1) dMo_putFour_15 rfl rfl <| zw_iload_n (i := 2) dMo_putFour_16 rfl rfl <| zw_ishr dMo_putFour_17 <| zw_i2b dMo_putFour_18 <| (mw_bast (M := M_Mo_putFour) (pc := 19) (k := 0) dMo_putFour_19 mk_0 hx hi kk) H0 H hM hm hu
theorem sMo_putFour_20 {G : zG} {d : Nat} {ad : Nat → Nat} {μ : zMm} {P : Option Value → zMm → Prop} {st : List Value} {o1 : Option Value} {o2 : Option Value} (kk : mW G d ad M_Mo_putFour 30 [some (.ref (ad 50)), o1, o2] st (upd μ.1 1 ((μ.1 1) + (nI 1)), μ.2) P) : mW G d ad M_Mo_putFour 20 [some (.ref (ad 50)), o1, o2] st μ P :=
  fun H0 H hM hm hu => zw_aload_n (i := 0) dMo_putFour_20 rfl rfl zRf_ref <| zw_dup dMo_putFour_21 rfl <| zw_getf dMo_putFour_22 zf_Mo_15 (hM.fi 1 (Nat.le_of_ble_eq_true rfl) mz_1) <| zw_iconst (nI 1) dMo_putFour_25 zki_1 <| zw_iadd dMo_putFour_26 <| (mw_puti (M := M_Mo_putFour) (pc := 27) (k := 1) (v := ((μ.1 1) + (nI 1))) dMo_putFour_27 zp_Mo_putFour_15 (Nat.le_of_ble_eq_true rfl) mz_1 rfl rfl kk) H0 H hM hm hu
theorem sMo_putFour_30 {G : zG} {d : Nat} {ad : Nat → Nat} {μ : zMm} {P : Option Value → zMm → Prop} {st : List Value} {o0 : Option Value} {o1 : Option Value} {x2 : Int32} (kk : mW G d ad M_Mo_putFour 3 [o0, o1, some (.int (x2 + (-8 : Int32)))] st μ P) : mW G d ad M_Mo_putFour 30 [o0, o1, some (.int x2)] st μ P :=
  fun H0 H hM hm hu => zw_iinc (i := 2) (x2 + (-8 : Int32)) dMo_putFour_30 rfl (congrArg (fun z => x2 + z) zki_m8) <| zw_goto 3 dMo_putFour_33 (by decide) <| kk H0 H hM hm hu
theorem sMo_putFour_36 {G : zG} {d : Nat} {ad : Nat → Nat} {μ : zMm} {P : Option Value → zMm → Prop} {o0 : Option Value} {o1 : Option Value} {o2 : Option Value} (hq : P none μ) : mW G d ad M_Mo_putFour 36 [o0, o1, o2] [] μ P :=
  fun H0 H hM hm hu => zw_vret dMo_putFour_36 rfl ⟨μ, hq, hM, hm, hu⟩
theorem sMo_end_0 {G : zG} {d : Nat} {ad : Nat → Nat} {μ : zMm} {P : Option Value → zMm → Prop} {st : List Value} {o0 : Option Value} {x1 : Int32} (kt : (x1 < 0) → mW G d ad M_Mo_end 12 [o0, some (.int x1)] st μ P) (kf : (¬ x1 < 0) → mW G d ad M_Mo_end 4 [o0, some (.int x1)] st μ P) : mW G d ad M_Mo_end 0 [o0, some (.int x1)] st μ P :=
  fun H0 H hM hm hu => zw_iload_n (i := 1) dMo_end_0 rfl rfl <| zw_if_lt 12 dMo_end_1 (by decide) (fun h => kt h H0 H hM hm hu) (fun h => kf h H0 H hM hm hu)
theorem sMo_end_4 {G : zG} {d : Nat} {ad : Nat → Nat} {μ : zMm} {P : Option Value → zMm → Prop} {st : List Value} {x1 : Int32} (kt : (x1 ≤ (μ.1 1)) → mW G d ad M_Mo_end 14 [some (.ref (ad 50)), some (.int x1)] st μ P) (kf : (¬ x1 ≤ (μ.1 1)) → mW G d ad M_Mo_end 12 [some (.ref (ad 50)), some (.int x1)] st μ P) : mW G d ad M_Mo_end 4 [some (.ref (ad 50)), some (.int x1)] st μ P :=
  fun H0 H hM hm hu => zw_iload_n (i := 1) dMo_end_4 rfl rfl <| zw_aload_n (i := 0) dMo_end_5 rfl rfl zRf_ref <| zw_getf dMo_end_6 zf_Mo_15 (hM.fi 1 (Nat.le_of_ble_eq_true rfl) mz_1) <| zw_icmp_le 14 dMo_end_9 (by decide) (fun h => kt h H0 H hM hm hu) (fun h => kf h H0 H hM hm hu)
theorem sMo_end_12 {G : zG} {d : Nat} {ad : Nat → Nat} {μ : zMm} {P : Option Value → zMm → Prop} {o0 : Option Value} {o1 : Option Value} (hq : P (some (.int (-1 : Int32))) μ) : mW G d ad M_Mo_end 12 [o0, o1] [] μ P :=
  fun H0 H hM hm hu => zw_iconst (-1 : Int32) dMo_end_12 zki_m1 <| zw_iret dMo_end_13 .int rfl rfl ⟨μ, hq, hM, hm, hu⟩
theorem sMo_end_14 {G : zG} {d : Nat} {ad : Nat → Nat} {μ : zMm} {P : Option Value → zMm → Prop} {st : List Value} {x1 : Int32} (kk : mW G d ad M_Mo_end 19 [some (.ref (ad 50)), some (.int x1)] st (upd μ.1 1 x1, μ.2) P) : mW G d ad M_Mo_end 14 [some (.ref (ad 50)), some (.int x1)] st μ P :=
  fun H0 H hM hm hu => zw_aload_n (i := 0) dMo_end_14 rfl rfl zRf_ref <| zw_iload_n (i := 1) dMo_end_15 rfl rfl <| (mw_puti (M := M_Mo_end) (pc := 16) (k := 1) (v := x1) dMo_end_16 zp_Mo_end_15 (Nat.le_of_ble_eq_true rfl) mz_1 rfl rfl kk) H0 H hM hm hu
theorem sMo_end_19 {G : zG} {d : Nat} {ad : Nat → Nat} {μ : zMm} {P : Option Value → zMm → Prop} {o0 : Option Value} {x1 : Int32} (hq : P (some (.int x1)) μ) : mW G d ad M_Mo_end 19 [o0, some (.int x1)] [] μ P :=
  fun H0 H hM hm hu => zw_iload_n (i := 1) dMo_end_19 rfl rfl <| zw_iret dMo_end_20 .int rfl rfl ⟨μ, hq, hM, hm, hu⟩
theorem sMo_out_0 {G : zG} {d : Nat} {ad : Nat → Nat} {μ : zMm} {P : Option Value → zMm → Prop} {st : List Value} {o0 : Option Value} {x1 : Int32} (kt : (x1 < 0) → mW G d ad M_Mo_out 12 [o0, some (.int x1)] st μ P) (kf : (¬ x1 < 0) → mW G d ad M_Mo_out 4 [o0, some (.int x1)] st μ P) : mW G d ad M_Mo_out 0 [o0, some (.int x1)] st μ P :=
  fun H0 H hM hm hu => zw_iload_n (i := 1) dMo_out_0 rfl rfl <| zw_if_lt 12 dMo_out_1 (by decide) (fun h => kt h H0 H hM hm hu) (fun h => kf h H0 H hM hm hu)
theorem sMo_out_4 {G : zG} {d : Nat} {ad : Nat → Nat} {μ : zMm} {P : Option Value → zMm → Prop} {st : List Value} {x1 : Int32} (kt : (x1 < (μ.1 5)) → mW G d ad M_Mo_out 16 [some (.ref (ad 50)), some (.int x1)] st μ P) (kf : (¬ x1 < (μ.1 5)) → mW G d ad M_Mo_out 12 [some (.ref (ad 50)), some (.int x1)] st μ P) : mW G d ad M_Mo_out 4 [some (.ref (ad 50)), some (.int x1)] st μ P :=
  fun H0 H hM hm hu => zw_iload_n (i := 1) dMo_out_4 rfl rfl <| zw_aload_n (i := 0) dMo_out_5 rfl rfl zRf_ref <| zw_getf dMo_out_6 zf_Mo_1 (hM.fi 5 (Nat.le_of_ble_eq_true rfl) mz_5) <| zw_icmp_lt 16 dMo_out_9 (by decide) (fun h => kt h H0 H hM hm hu) (fun h => kf h H0 H hM hm hu)
theorem sMo_out_12 {G : zG} {d : Nat} {ad : Nat → Nat} {μ : zMm} {P : Option Value → zMm → Prop} {o0 : Option Value} {o1 : Option Value} (hq : P (some (.int (-1 : Int32))) μ) : mW G d ad M_Mo_out 12 [o0, o1] [] μ P :=
  fun H0 H hM hm hu => zw_iconst (-1 : Int32) dMo_out_12 zki_m1 <| zw_goto 26 dMo_out_13 (by decide) <| zw_iret dMo_out_26 .int rfl rfl ⟨μ, hq, hM, hm, hu⟩
theorem sMo_out_16 {G : zG} {d : Nat} {ad : Nat → Nat} {μ : zMm} {P : Option Value → zMm → Prop} {x1 : Int32} {i1 : Nat} (hx1 : x1 = nI i1) (hi1 : i1 < mLn 4) (hq : P (some (.int ((μ.2 4 i1) &&& (nI 255)))) μ) : mW G d ad M_Mo_out 16 [some (.ref (ad 50)), some (.int x1)] [] μ P :=
  fun H0 H hM hm hu => zw_aload_n (i := 0) dMo_out_16 rfl rfl zRf_ref <| zw_getf dMo_out_17 zf_Mo_7 (hM.fa 4 (Nat.le_of_ble_eq_true rfl) mn_4) <| zw_iload_n (i := 1) dMo_out_20 rfl rfl <| zw_baldN (g := μ.2 4) dMo_out_21 (hM.ab mk_4) hx1 hi1 (mLn_le _) <| zw_sipush (nI 255) dMo_out_22 zks_255 <| zw_iand dMo_out_25 <| zw_iret dMo_out_26 .int rfl rfl ⟨μ, hq, hM, hm, hu⟩
theorem sMo_out_26 {G : zG} {d : Nat} {ad : Nat → Nat} {μ : zMm} {P : Option Value → zMm → Prop} {o0 : Option Value} {o1 : Option Value} {xs0 : Int32} (hq : P (some (.int xs0)) μ) : mW G d ad M_Mo_out 26 [o0, o1] ((.int xs0) :: []) μ P :=
  fun H0 H hM hm hu => zw_iret dMo_out_26 .int rfl rfl ⟨μ, hq, hM, hm, hu⟩
theorem sMo_resolve_0 {G : zG} {d : Nat} {ad : Nat → Nat} {μ : zMm} {P : Option Value → zMm → Prop} {st : List Value} {o1 : Option Value} {P2 : Int32 → zMm → Prop} (hd : 1 ≤ d) (hl : st.length ≤ 4) (hc : mC G (d - 1) ad M_Mo_take [(.ref (ad 50))] μ (mPi P2)) (kk : ∀ (r : Int32) (μ1 : zMm), P2 r μ1 → mW G d ad M_Mo_resolve 4 [some (.ref (ad 50)), o1] ((.int r) :: st) μ1 P) : mW G d ad M_Mo_resolve 0 [some (.ref (ad 50)), o1] st μ P :=
  fun H0 H hM hm hu => zw_aload_n (i := 0) dMo_resolve_0 rfl rfl zRf_ref <| zw_callV [] _ dMo_resolve_1 hd zk_Mo_151 hM.is rfl rfl hl (hc H hM) (mPi_k kk hm hu)
theorem sMo_resolve_4 {G : zG} {d : Nat} {ad : Nat → Nat} {μ : zMm} {P : Option Value → zMm → Prop} {st : List Value} {o0 : Option Value} {o1 : Option Value} {xs0 : Int32} (kt : (xs0 < 0) → mW G d ad M_Mo_resolve 14 [o0, some (.int xs0)] st μ P) (kf : (¬ xs0 < 0) → mW G d ad M_Mo_resolve 9 [o0, some (.int xs0)] st μ P) : mW G d ad M_Mo_resolve 4 [o0, o1] ((.int xs0) :: st) μ P :=
  fun H0 H hM hm hu => zw_istore_n (i := 1) dMo_resolve_4 rfl (Nat.le_of_ble_eq_true rfl) <| zw_iload_n (i := 1) dMo_resolve_5 rfl rfl <| zw_if_lt 14 dMo_resolve_6 (by decide) (fun h => kt h H0 H hM hm hu) (fun h => kf h H0 H hM hm hu)
theorem sMo_resolve_9 {G : zG} {d : Nat} {ad : Nat → Nat} {μ : zMm} {P : Option Value → zMm → Prop} {st : List Value} {o0 : Option Value} {x1 : Int32} {P2 : Int32 → zMm → Prop} (hd : 1 ≤ d) (hl : st.length ≤ 4) (hc : mC G (d - 1) ad M_Mo_wrong [(.int x1)] μ (mPi P2)) (kk : ∀ (r : Int32) (μ1 : zMm), P2 r μ1 → mW G d ad M_Mo_resolve 13 [o0, some (.int x1)] ((.int r) :: st) μ1 P) : mW G d ad M_Mo_resolve 9 [o0, some (.int x1)] st μ P :=
  fun H0 H hM hm hu => zw_iload_n (i := 1) dMo_resolve_9 rfl rfl <| zw_callS [(.int x1)] _ dMo_resolve_10 hd zk_Mo_155 rfl rfl hl (hc H hM) (mPi_k kk hm hu)
theorem sMo_resolve_13 {G : zG} {d : Nat} {ad : Nat → Nat} {μ : zMm} {P : Option Value → zMm → Prop} {o0 : Option Value} {o1 : Option Value} {xs0 : Int32} (hq : P (some (.int xs0)) μ) : mW G d ad M_Mo_resolve 13 [o0, o1] ((.int xs0) :: []) μ P :=
  fun H0 H hM hm hu => zw_iret dMo_resolve_13 .int rfl rfl ⟨μ, hq, hM, hm, hu⟩
theorem sMo_resolve_14 {G : zG} {d : Nat} {ad : Nat → Nat} {μ : zMm} {P : Option Value → zMm → Prop} {st : List Value} {o1 : Option Value} {P2 : Int32 → zMm → Prop} (hd : 1 ≤ d) (hl : st.length ≤ 4) (hc : mC G (d - 1) ad M_Mo_refer [(.ref (ad 50)), (.ref (ad 2)), (.int (nI 0)), (.int (μ.1 3)), (.int (nI 1))] μ (mPi P2)) (kk : ∀ (r : Int32) (μ1 : zMm), P2 r μ1 → mW G d ad M_Mo_resolve 28 [some (.ref (ad 50)), o1] ((.int r) :: st) μ1 P) : mW G d ad M_Mo_resolve 14 [some (.ref (ad 50)), o1] st μ P :=
  fun H0 H hM hm hu => zw_aload_n (i := 0) dMo_resolve_14 rfl rfl zRf_ref <| zw_aload_n (i := 0) dMo_resolve_15 rfl rfl zRf_ref <| zw_getf dMo_resolve_16 zf_Mo_21 (hM.fa 2 (Nat.le_of_ble_eq_true rfl) mn_2) <| zw_iconst (nI 0) dMo_resolve_19 zki_0 <| zw_aload_n (i := 0) dMo_resolve_20 rfl rfl zRf_ref <| zw_getf dMo_resolve_21 zf_Mo_18 (hM.fi 3 (Nat.le_of_ble_eq_true rfl) mz_3) <| zw_iconst (nI 1) dMo_resolve_24 zki_1 <| zw_callV [(.ref (ad 2)), (.int (nI 0)), (.int (μ.1 3)), (.int (nI 1))] _ dMo_resolve_25 hd zk_Mo_144 hM.is rfl rfl hl (hc H hM) (mPi_k kk hm hu)
theorem sMo_resolve_28 {G : zG} {d : Nat} {ad : Nat → Nat} {μ : zMm} {P : Option Value → zMm → Prop} {st : List Value} {o0 : Option Value} {o1 : Option Value} {xs0 : Int32} (kt : (¬ xs0 = 0) → mW G d ad M_Mo_resolve 33 [o0, o1] st μ P) (kf : (xs0 = 0) → mW G d ad M_Mo_resolve 31 [o0, o1] st μ P) : mW G d ad M_Mo_resolve 28 [o0, o1] ((.int xs0) :: st) μ P :=
  fun H0 H hM hm hu => zw_if_ne 33 dMo_resolve_28 (by decide) (fun h => kt h H0 H hM hm hu) (fun h => kf h H0 H hM hm hu)
theorem sMo_resolve_31 {G : zG} {d : Nat} {ad : Nat → Nat} {μ : zMm} {P : Option Value → zMm → Prop} {o0 : Option Value} {o1 : Option Value} (hq : P (some (.int (-1 : Int32))) μ) : mW G d ad M_Mo_resolve 31 [o0, o1] [] μ P :=
  fun H0 H hM hm hu => zw_iconst (-1 : Int32) dMo_resolve_31 zki_m1 <| zw_iret dMo_resolve_32 .int rfl rfl ⟨μ, hq, hM, hm, hu⟩
theorem sMo_resolve_33 {G : zG} {d : Nat} {ad : Nat → Nat} {μ : zMm} {P : Option Value → zMm → Prop} {st : List Value} {o1 : Option Value} (kk : mW G d ad M_Mo_resolve 38 [some (.ref (ad 50)), o1] st (upd μ.1 5 (nI 0), μ.2) P) : mW G d ad M_Mo_resolve 33 [some (.ref (ad 50)), o1] st μ P :=
  fun H0 H hM hm hu => zw_aload_n (i := 0) dMo_resolve_33 rfl rfl zRf_ref <| zw_iconst (nI 0) dMo_resolve_34 zki_0 <| (mw_puti (M := M_Mo_resolve) (pc := 35) (k := 5) (v := (nI 0)) dMo_resolve_35 zp_Mo_resolve_1 (Nat.le_of_ble_eq_true rfl) mz_5 rfl rfl kk) H0 H hM hm hu
theorem sMo_resolve_38 {G : zG} {d : Nat} {ad : Nat → Nat} {μ : zMm} {P : Option Value → zMm → Prop} {st : List Value} {o1 : Option Value} {P2 : zMm → Prop} (hd : 1 ≤ d) (hl : st.length ≤ 4) (hc : mC G (d - 1) ad M_Mo_sayRow [(.ref (ad 50)), (.int (nI 0))] μ (mPv P2)) (kk : ∀ μ1 : zMm, P2 μ1 → mW G d ad M_Mo_resolve 43 [some (.ref (ad 50)), o1] st μ1 P) : mW G d ad M_Mo_resolve 38 [some (.ref (ad 50)), o1] st μ P :=
  fun H0 H hM hm hu => zw_aload_n (i := 0) dMo_resolve_38 rfl rfl zRf_ref <| zw_iconst (nI 0) dMo_resolve_39 zki_0 <| zw_callV [(.int (nI 0))] _ dMo_resolve_40 hd zk_Mo_271 hM.is rfl rfl hl (hc H hM) (mPv_k kk hm hu)
theorem sMo_resolve_43 {G : zG} {d : Nat} {ad : Nat → Nat} {μ : zMm} {P : Option Value → zMm → Prop} {o1 : Option Value} (hq : P (some (.int (μ.1 5))) μ) : mW G d ad M_Mo_resolve 43 [some (.ref (ad 50)), o1] [] μ P :=
  fun H0 H hM hm hu => zw_aload_n (i := 0) dMo_resolve_43 rfl rfl zRf_ref <| zw_getf dMo_resolve_44 zf_Mo_1 (hM.fi 5 (Nat.le_of_ble_eq_true rfl) mz_5) <| zw_iret dMo_resolve_47 .int rfl rfl ⟨μ, hq, hM, hm, hu⟩
theorem sMo_sayRow_0 {G : zG} {d : Nat} {ad : Nat → Nat} {μ : zMm} {P : Option Value → zMm → Prop} {st : List Value} {x1 : Int32} {i1 : Nat} {P2 : zMm → Prop} (hx1 : x1 = nI i1) (hi1 : i1 < mLn 7) (hd : 1 ≤ d) (hl : st.length ≤ 4) (hc : mC G (d - 1) ad M_Mo_sayAll [(.ref (ad 50)), (.ref (ad 6)), (.int (x1 * (nI 150))), (.int (μ.2 7 i1))] μ (mPv P2)) (kk : ∀ μ1 : zMm, P2 μ1 → mW G d ad M_Mo_sayRow 19 [some (.ref (ad 50)), some (.int x1)] st μ1 P) : mW G d ad M_Mo_sayRow 0 [some (.ref (ad 50)), some (.int x1)] st μ P :=
  fun H0 H hM hm hu => zw_aload_n (i := 0) dMo_sayRow_0 rfl rfl zRf_ref <| zw_aload_n (i := 0) dMo_sayRow_1 rfl rfl zRf_ref <| zw_getf dMo_sayRow_2 zf_Mo_36 (hM.fa 6 (Nat.le_of_ble_eq_true rfl) mn_6) <| zw_iload_n (i := 1) dMo_sayRow_5 rfl rfl <| zw_sipush (nI 150) dMo_sayRow_6 zks_150 <| zw_imul dMo_sayRow_9 <| zw_aload_n (i := 0) dMo_sayRow_10 rfl rfl zRf_ref <| zw_getf dMo_sayRow_11 zf_Mo_39 (hM.fa 7 (Nat.le_of_ble_eq_true rfl) mn_7) <| zw_iload_n (i := 1) dMo_sayRow_14 rfl rfl <| zw_ialdN (g := μ.2 7) dMo_sayRow_15 (hM.ai mk_7) hx1 hi1 (mLn_le _) <| zw_callV [(.ref (ad 6)), (.int (x1 * (nI 150))), (.int (μ.2 7 i1))] _ dMo_sayRow_16 hd zk_Mo_108 hM.is rfl rfl hl (hc H hM) (mPv_k kk hm hu)
theorem sMo_sayRow_19 {G : zG} {d : Nat} {ad : Nat → Nat} {μ : zMm} {P : Option Value → zMm → Prop} {st : List Value} {x1 : Int32} {i1 : Nat} (hx1 : x1 = nI i1) (hi1 : i1 < mLn 8) (kt : ((μ.2 8 i1) ≤ 0) → mW G d ad M_Mo_sayRow 57 [some (.ref (ad 50)), some (.int x1)] st μ P) (kf : (¬ (μ.2 8 i1) ≤ 0) → mW G d ad M_Mo_sayRow 28 [some (.ref (ad 50)), some (.int x1)] st μ P) : mW G d ad M_Mo_sayRow 19 [some (.ref (ad 50)), some (.int x1)] st μ P :=
  fun H0 H hM hm hu => zw_aload_n (i := 0) dMo_sayRow_19 rfl rfl zRf_ref <| zw_getf dMo_sayRow_20 zf_Mo_43 (hM.fa 8 (Nat.le_of_ble_eq_true rfl) mn_8) <| zw_iload_n (i := 1) dMo_sayRow_23 rfl rfl <| zw_ialdN (g := μ.2 8) dMo_sayRow_24 (hM.ai mk_8) hx1 hi1 (mLn_le _) <| zw_if_le 57 dMo_sayRow_25 (by decide) (fun h => kt h H0 H hM hm hu) (fun h => kf h H0 H hM hm hu)
theorem sMo_sayRow_28 {G : zG} {d : Nat} {ad : Nat → Nat} {μ : zMm} {P : Option Value → zMm → Prop} {st : List Value} {o1 : Option Value} {P2 : zMm → Prop} (hd : 1 ≤ d) (hl : st.length ≤ 4) (hc : mC G (d - 1) ad M_Mo_say [(.ref (ad 50)), (.int (nI 35))] μ (mPv P2)) (kk : ∀ μ1 : zMm, P2 μ1 → mW G d ad M_Mo_sayRow 34 [some (.ref (ad 50)), o1] st μ1 P) : mW G d ad M_Mo_sayRow 28 [some (.ref (ad 50)), o1] st μ P :=
  fun H0 H hM hm hu => zw_aload_n (i := 0) dMo_sayRow_28 rfl rfl zRf_ref <| zw_bipush (nI 35) dMo_sayRow_29 zkb_35 <| zw_callV [(.int (nI 35))] _ dMo_sayRow_31 hd zk_Mo_11 hM.is rfl rfl hl (hc H hM) (mPv_k kk hm hu)
theorem sMo_sayRow_34 {G : zG} {d : Nat} {ad : Nat → Nat} {μ : zMm} {P : Option Value → zMm → Prop} {st : List Value} {x1 : Int32} {i1 : Nat} {P2 : zMm → Prop} (hx1 : x1 = nI i1) (hi1 : i1 < mLn 8) (hd : 1 ≤ d) (hl : st.length ≤ 4) (hc : mC G (d - 1) ad M_Mo_sayAll [(.ref (ad 50)), (.ref (ad 6)), (.int ((x1 * (nI 150)) + (nI 135))), (.int (μ.2 8 i1))] μ (mPv P2)) (kk : ∀ μ1 : zMm, P2 μ1 → mW G d ad M_Mo_sayRow 57 [some (.ref (ad 50)), some (.int x1)] st μ1 P) : mW G d ad M_Mo_sayRow 34 [some (.ref (ad 50)), some (.int x1)] st μ P :=
  fun H0 H hM hm hu => zw_aload_n (i := 0) dMo_sayRow_34 rfl rfl zRf_ref <| zw_aload_n (i := 0) dMo_sayRow_35 rfl rfl zRf_ref <| zw_getf dMo_sayRow_36 zf_Mo_36 (hM.fa 6 (Nat.le_of_ble_eq_true rfl) mn_6) <| zw_iload_n (i := 1) dMo_sayRow_39 rfl rfl <| zw_sipush (nI 150) dMo_sayRow_40 zks_150 <| zw_imul dMo_sayRow_43 <| zw_sipush (nI 135) dMo_sayRow_44 zks_135 <| zw_iadd dMo_sayRow_47 <| zw_aload_n (i := 0) dMo_sayRow_48 rfl rfl zRf_ref <| zw_getf dMo_sayRow_49 zf_Mo_43 (hM.fa 8 (Nat.le_of_ble_eq_true rfl) mn_8) <| zw_iload_n (i := 1) dMo_sayRow_52 rfl rfl <| zw_ialdN (g := μ.2 8) dMo_sayRow_53 (hM.ai mk_8) hx1 hi1 (mLn_le _) <| zw_callV [(.ref (ad 6)), (.int ((x1 * (nI 150)) + (nI 135))), (.int (μ.2 8 i1))] _ dMo_sayRow_54 hd zk_Mo_108 hM.is rfl rfl hl (hc H hM) (mPv_k kk hm hu)
theorem sMo_sayRow_57 {G : zG} {d : Nat} {ad : Nat → Nat} {μ : zMm} {P : Option Value → zMm → Prop} {o0 : Option Value} {o1 : Option Value} (hq : P none μ) : mW G d ad M_Mo_sayRow 57 [o0, o1] [] μ P :=
  fun H0 H hM hm hu => zw_vret dMo_sayRow_57 rfl ⟨μ, hq, hM, hm, hu⟩
theorem sMo_sayAll_0 {G : zG} {d : Nat} {ad : Nat → Nat} {μ : zMm} {P : Option Value → zMm → Prop} {st : List Value} {o0 : Option Value} {o1 : Option Value} {o2 : Option Value} {o3 : Option Value} {o4 : Option Value} (kk : mW G d ad M_Mo_sayAll 3 [o0, o1, o2, o3, some (.int (nI 0))] st μ P) : mW G d ad M_Mo_sayAll 0 [o0, o1, o2, o3, o4] st μ P :=
  fun H0 H hM hm hu => zw_iconst (nI 0) dMo_sayAll_0 zki_0 <| zw_istore (i := 4) dMo_sayAll_1 (Nat.le_of_ble_eq_true rfl) <| kk H0 H hM hm hu
theorem sMo_sayAll_3 {G : zG} {d : Nat} {ad : Nat → Nat} {μ : zMm} {P : Option Value → zMm → Prop} {st : List Value} {o0 : Option Value} {o1 : Option Value} {o2 : Option Value} {x4 : Int32} {x3 : Int32} (kt : (x3 ≤ x4) → mW G d ad M_Mo_sayAll 25 [o0, o1, o2, some (.int x3), some (.int x4)] st μ P) (kf : (¬ x3 ≤ x4) → mW G d ad M_Mo_sayAll 9 [o0, o1, o2, some (.int x3), some (.int x4)] st μ P) : mW G d ad M_Mo_sayAll 3 [o0, o1, o2, some (.int x3), some (.int x4)] st μ P :=
  fun H0 H hM hm hu => zw_iload (i := 4) dMo_sayAll_3 rfl <| zw_iload_n (i := 3) dMo_sayAll_5 rfl rfl <| zw_icmp_ge 25 dMo_sayAll_6 (by decide) (fun h => kt h H0 H hM hm hu) (fun h => kf h H0 H hM hm hu)
theorem sMo_sayAll_9 {G : zG} {d : Nat} {ad : Nat → Nat} {μ : zMm} {P : Option Value → zMm → Prop} {st : List Value} {o3 : Option Value} {k1 : Nat} {x2 : Int32} {x4 : Int32} {i1 : Nat} {P2 : zMm → Prop} (hkk1 : mB k1) (hx1 : (x2 + x4) = nI i1) (hi1 : i1 < mLn k1) (hd : 1 ≤ d) (hl : st.length ≤ 4) (hc : mC G (d - 1) ad M_Mo_say [(.ref (ad 50)), (.int (μ.2 k1 i1))] μ (mPv P2)) (kk : ∀ μ1 : zMm, P2 μ1 → mW G d ad M_Mo_sayAll 19 [some (.ref (ad 50)), some (.ref (ad k1)), some (.int x2), o3, some (.int x4)] st μ1 P) : mW G d ad M_Mo_sayAll 9 [some (.ref (ad 50)), some (.ref (ad k1)), some (.int x2), o3, some (.int x4)] st μ P :=
  fun H0 H hM hm hu => zw_aload_n (i := 0) dMo_sayAll_9 rfl rfl zRf_ref <| zw_aload_n (i := 1) dMo_sayAll_10 rfl rfl zRf_ref <| zw_iload_n (i := 2) dMo_sayAll_11 rfl rfl <| zw_iload (i := 4) dMo_sayAll_12 rfl <| zw_iadd dMo_sayAll_14 <| zw_baldN (g := μ.2 k1) dMo_sayAll_15 (hM.ab hkk1) hx1 hi1 (mLn_le _) <| zw_callV [(.int (μ.2 k1 i1))] _ dMo_sayAll_16 hd zk_Mo_11 hM.is rfl rfl hl (hc H hM) (mPv_k kk hm hu)
theorem sMo_sayAll_19 {G : zG} {d : Nat} {ad : Nat → Nat} {μ : zMm} {P : Option Value → zMm → Prop} {st : List Value} {o0 : Option Value} {o1 : Option Value} {o2 : Option Value} {o3 : Option Value} {x4 : Int32} (kk : mW G d ad M_Mo_sayAll 3 [o0, o1, o2, o3, some (.int (x4 + (nI 1)))] st μ P) : mW G d ad M_Mo_sayAll 19 [o0, o1, o2, o3, some (.int x4)] st μ P :=
  fun H0 H hM hm hu => zw_iinc (i := 4) (x4 + (nI 1)) dMo_sayAll_19 rfl (congrArg (fun z => x4 + z) zki_1) <| zw_goto 3 dMo_sayAll_22 (by decide) <| kk H0 H hM hm hu
theorem sMo_sayAll_25 {G : zG} {d : Nat} {ad : Nat → Nat} {μ : zMm} {P : Option Value → zMm → Prop} {o0 : Option Value} {o1 : Option Value} {o2 : Option Value} {o3 : Option Value} {o4 : Option Value} (hq : P none μ) : mW G d ad M_Mo_sayAll 25 [o0, o1, o2, o3, o4] [] μ P :=
  fun H0 H hM hm hu => zw_vret dMo_sayAll_25 rfl ⟨μ, hq, hM, hm, hu⟩
theorem sMo_say_0 {G : zG} {d : Nat} {ad : Nat → Nat} {μ : zMm} {P : Option Value → zMm → Prop} {st : List Value} {o1 : Option Value} (kt : ((nI 8000) ≤ (μ.1 5)) → mW G d ad M_Mo_say 31 [some (.ref (ad 50)), o1] st μ P) (kf : (¬ (nI 8000) ≤ (μ.1 5)) → mW G d ad M_Mo_say 10 [some (.ref (ad 50)), o1] st μ P) : mW G d ad M_Mo_say 0 [some (.ref (ad 50)), o1] st μ P :=
  fun H0 H hM hm hu => zw_aload_n (i := 0) dMo_say_0 rfl rfl zRf_ref <| zw_getf dMo_say_1 zf_Mo_1 (hM.fi 5 (Nat.le_of_ble_eq_true rfl) mz_5) <| zw_sipush (nI 8000) dMo_say_4 zks_8000 <| zw_icmp_ge 31 dMo_say_7 (by decide) (fun h => kt h H0 H hM hm hu) (fun h => kf h H0 H hM hm hu)
theorem sMo_say_10 {G : zG} {d : Nat} {ad : Nat → Nat} {μ : zMm} {P : Option Value → zMm → Prop} {st : List Value} {x1 : Int32} {i : Nat} (hx : (μ.1 5) = nI i) (hi : i < mLn 4) (kk : mW G d ad M_Mo_say 21 [some (.ref (ad 50)), some (.int x1)] st (μ.1, updA μ.2 4 i ((x1).toInt8.toInt32).toInt8.toInt32) P) : mW G d ad M_Mo_say 10 [some (.ref (ad 50)), some (.int x1)] st μ P :=
  fun H0 H hM hm hu => zw_aload_n (i := 0) dMo_say_10 rfl rfl zRf_ref <| zw_getf dMo_say_11 zf_Mo_7 (hM.fa 4 (Nat.le_of_ble_eq_true rfl) mn_4) <| zw_aload_n (i := 0) dMo_say_14 rfl rfl zRf_ref <| zw_getf dMo_say_15 zf_Mo_1 (hM.fi 5 (Nat.le_of_ble_eq_true rfl) mz_5) <| zw_iload_n (i := 1) dMo_say_18 rfl rfl <| zw_i2b dMo_say_19 <| (mw_bast (M := M_Mo_say) (pc := 20) (k := 4) dMo_say_20 mk_4 hx hi kk) H0 H hM hm hu
theorem sMo_say_21 {G : zG} {d : Nat} {ad : Nat → Nat} {μ : zMm} {P : Option Value → zMm → Prop} {st : List Value} {o1 : Option Value} (kk : mW G d ad M_Mo_say 31 [some (.ref (ad 50)), o1] st (upd μ.1 5 ((μ.1 5) + (nI 1)), μ.2) P) : mW G d ad M_Mo_say 21 [some (.ref (ad 50)), o1] st μ P :=
  fun H0 H hM hm hu => zw_aload_n (i := 0) dMo_say_21 rfl rfl zRf_ref <| zw_dup dMo_say_22 rfl <| zw_getf dMo_say_23 zf_Mo_1 (hM.fi 5 (Nat.le_of_ble_eq_true rfl) mz_5) <| zw_iconst (nI 1) dMo_say_26 zki_1 <| zw_iadd dMo_say_27 <| (mw_puti (M := M_Mo_say) (pc := 28) (k := 5) (v := ((μ.1 5) + (nI 1))) dMo_say_28 zp_Mo_say_1 (Nat.le_of_ble_eq_true rfl) mz_5 rfl rfl kk) H0 H hM hm hu
theorem sMo_say_31 {G : zG} {d : Nat} {ad : Nat → Nat} {μ : zMm} {P : Option Value → zMm → Prop} {o0 : Option Value} {o1 : Option Value} (hq : P none μ) : mW G d ad M_Mo_say 31 [o0, o1] [] μ P :=
  fun H0 H hM hm hu => zw_vret dMo_say_31 rfl ⟨μ, hq, hM, hm, hu⟩
theorem sMo_base_0 {G : zG} {d : Nat} {ad : Nat → Nat} {μ : zMm} {P : Option Value → zMm → Prop} {st : List Value} {o1 : Option Value} {P2 : Int32 → zMm → Prop} (hd : 1 ≤ d) (hl : st.length ≤ 4) (hc : mC G (d - 1) ad M_Mo_take [(.ref (ad 50))] μ (mPi P2)) (kk : ∀ (r : Int32) (μ1 : zMm), P2 r μ1 → mW G d ad M_Mo_base 4 [some (.ref (ad 50)), o1] ((.int r) :: st) μ1 P) : mW G d ad M_Mo_base 0 [some (.ref (ad 50)), o1] st μ P :=
  fun H0 H hM hm hu => zw_aload_n (i := 0) dMo_base_0 rfl rfl zRf_ref <| zw_callV [] _ dMo_base_1 hd zk_Mo_151 hM.is rfl rfl hl (hc H hM) (mPi_k kk hm hu)
theorem sMo_base_4 {G : zG} {d : Nat} {ad : Nat → Nat} {μ : zMm} {P : Option Value → zMm → Prop} {st : List Value} {o0 : Option Value} {o1 : Option Value} {xs0 : Int32} (kt : (xs0 < 0) → mW G d ad M_Mo_base 14 [o0, some (.int xs0)] st μ P) (kf : (¬ xs0 < 0) → mW G d ad M_Mo_base 9 [o0, some (.int xs0)] st μ P) : mW G d ad M_Mo_base 4 [o0, o1] ((.int xs0) :: st) μ P :=
  fun H0 H hM hm hu => zw_istore_n (i := 1) dMo_base_4 rfl (Nat.le_of_ble_eq_true rfl) <| zw_iload_n (i := 1) dMo_base_5 rfl rfl <| zw_if_lt 14 dMo_base_6 (by decide) (fun h => kt h H0 H hM hm hu) (fun h => kf h H0 H hM hm hu)
theorem sMo_base_9 {G : zG} {d : Nat} {ad : Nat → Nat} {μ : zMm} {P : Option Value → zMm → Prop} {st : List Value} {o0 : Option Value} {x1 : Int32} {P2 : Int32 → zMm → Prop} (hd : 1 ≤ d) (hl : st.length ≤ 4) (hc : mC G (d - 1) ad M_Mo_wrong [(.int x1)] μ (mPi P2)) (kk : ∀ (r : Int32) (μ1 : zMm), P2 r μ1 → mW G d ad M_Mo_base 13 [o0, some (.int x1)] ((.int r) :: st) μ1 P) : mW G d ad M_Mo_base 9 [o0, some (.int x1)] st μ P :=
  fun H0 H hM hm hu => zw_iload_n (i := 1) dMo_base_9 rfl rfl <| zw_callS [(.int x1)] _ dMo_base_10 hd zk_Mo_155 rfl rfl hl (hc H hM) (mPi_k kk hm hu)
theorem sMo_base_13 {G : zG} {d : Nat} {ad : Nat → Nat} {μ : zMm} {P : Option Value → zMm → Prop} {o0 : Option Value} {o1 : Option Value} {xs0 : Int32} (hq : P (some (.int xs0)) μ) : mW G d ad M_Mo_base 13 [o0, o1] ((.int xs0) :: []) μ P :=
  fun H0 H hM hm hu => zw_iret dMo_base_13 .int rfl rfl ⟨μ, hq, hM, hm, hu⟩
theorem sMo_base_14 {G : zG} {d : Nat} {ad : Nat → Nat} {μ : zMm} {P : Option Value → zMm → Prop} {st : List Value} {o1 : Option Value} {P2 : Int32 → zMm → Prop} (hd : 1 ≤ d) (hl : st.length ≤ 4) (hc : mC G (d - 1) ad M_Mo_refer [(.ref (ad 50)), (.ref (ad 2)), (.int (nI 0)), (.int (μ.1 3)), (.int (nI 1))] μ (mPi P2)) (kk : ∀ (r : Int32) (μ1 : zMm), P2 r μ1 → mW G d ad M_Mo_base 28 [some (.ref (ad 50)), o1] ((.int r) :: st) μ1 P) : mW G d ad M_Mo_base 14 [some (.ref (ad 50)), o1] st μ P :=
  fun H0 H hM hm hu => zw_aload_n (i := 0) dMo_base_14 rfl rfl zRf_ref <| zw_aload_n (i := 0) dMo_base_15 rfl rfl zRf_ref <| zw_getf dMo_base_16 zf_Mo_21 (hM.fa 2 (Nat.le_of_ble_eq_true rfl) mn_2) <| zw_iconst (nI 0) dMo_base_19 zki_0 <| zw_aload_n (i := 0) dMo_base_20 rfl rfl zRf_ref <| zw_getf dMo_base_21 zf_Mo_18 (hM.fi 3 (Nat.le_of_ble_eq_true rfl) mz_3) <| zw_iconst (nI 1) dMo_base_24 zki_1 <| zw_callV [(.ref (ad 2)), (.int (nI 0)), (.int (μ.1 3)), (.int (nI 1))] _ dMo_base_25 hd zk_Mo_144 hM.is rfl rfl hl (hc H hM) (mPi_k kk hm hu)
theorem sMo_base_28 {G : zG} {d : Nat} {ad : Nat → Nat} {μ : zMm} {P : Option Value → zMm → Prop} {st : List Value} {o0 : Option Value} {o1 : Option Value} {xs0 : Int32} (kt : (¬ xs0 = 0) → mW G d ad M_Mo_base 33 [o0, o1] st μ P) (kf : (xs0 = 0) → mW G d ad M_Mo_base 31 [o0, o1] st μ P) : mW G d ad M_Mo_base 28 [o0, o1] ((.int xs0) :: st) μ P :=
  fun H0 H hM hm hu => zw_if_ne 33 dMo_base_28 (by decide) (fun h => kt h H0 H hM hm hu) (fun h => kf h H0 H hM hm hu)
theorem sMo_base_31 {G : zG} {d : Nat} {ad : Nat → Nat} {μ : zMm} {P : Option Value → zMm → Prop} {o0 : Option Value} {o1 : Option Value} (hq : P (some (.int (-1 : Int32))) μ) : mW G d ad M_Mo_base 31 [o0, o1] [] μ P :=
  fun H0 H hM hm hu => zw_iconst (-1 : Int32) dMo_base_31 zki_m1 <| zw_iret dMo_base_32 .int rfl rfl ⟨μ, hq, hM, hm, hu⟩
theorem sMo_base_33 {G : zG} {d : Nat} {ad : Nat → Nat} {μ : zMm} {P : Option Value → zMm → Prop} {st : List Value} {o1 : Option Value} {P2 : zMm → Prop} (hd : 1 ≤ d) (hl : st.length ≤ 4) (hc : mC G (d - 1) ad M_Mo_copyRow [(.ref (ad 50)), (.int (nI 1)), (.int (nI 0))] μ (mPv P2)) (kk : ∀ μ1 : zMm, P2 μ1 → mW G d ad M_Mo_base 39 [some (.ref (ad 50)), o1] st μ1 P) : mW G d ad M_Mo_base 33 [some (.ref (ad 50)), o1] st μ P :=
  fun H0 H hM hm hu => zw_aload_n (i := 0) dMo_base_33 rfl rfl zRf_ref <| zw_iconst (nI 1) dMo_base_34 zki_1 <| zw_iconst (nI 0) dMo_base_35 zki_0 <| zw_callV [(.int (nI 1)), (.int (nI 0))] _ dMo_base_36 hd zk_Mo_148 hM.is rfl rfl hl (hc H hM) (mPv_k kk hm hu)
theorem sMo_base_39 {G : zG} {d : Nat} {ad : Nat → Nat} {μ : zMm} {P : Option Value → zMm → Prop} {o1 : Option Value} (hq : P (some (.int (μ.1 12))) μ) : mW G d ad M_Mo_base 39 [some (.ref (ad 50)), o1] [] μ P :=
  fun H0 H hM hm hu => zw_aload_n (i := 0) dMo_base_39 rfl rfl zRf_ref <| zw_getf dMo_base_40 zf_Mo_61 (hM.fi 12 (Nat.le_of_ble_eq_true rfl) mz_12) <| zw_iret dMo_base_43 .int rfl rfl ⟨μ, hq, hM, hm, hu⟩
theorem sMo_fetch_0 {G : zG} {d : Nat} {ad : Nat → Nat} {μ : zMm} {P : Option Value → zMm → Prop} {st : List Value} {o1 : Option Value} {o2 : Option Value} {P2 : Int32 → zMm → Prop} (hd : 1 ≤ d) (hl : st.length ≤ 4) (hc : mC G (d - 1) ad M_Mo_take [(.ref (ad 50))] μ (mPi P2)) (kk : ∀ (r : Int32) (μ1 : zMm), P2 r μ1 → mW G d ad M_Mo_fetch 4 [some (.ref (ad 50)), o1, o2] ((.int r) :: st) μ1 P) : mW G d ad M_Mo_fetch 0 [some (.ref (ad 50)), o1, o2] st μ P :=
  fun H0 H hM hm hu => zw_aload_n (i := 0) dMo_fetch_0 rfl rfl zRf_ref <| zw_callV [] _ dMo_fetch_1 hd zk_Mo_151 hM.is rfl rfl hl (hc H hM) (mPi_k kk hm hu)
theorem sMo_fetch_4 {G : zG} {d : Nat} {ad : Nat → Nat} {μ : zMm} {P : Option Value → zMm → Prop} {st : List Value} {o0 : Option Value} {o1 : Option Value} {o2 : Option Value} {xs0 : Int32} (kt : (xs0 < 0) → mW G d ad M_Mo_fetch 14 [o0, some (.int xs0), o2] st μ P) (kf : (¬ xs0 < 0) → mW G d ad M_Mo_fetch 9 [o0, some (.int xs0), o2] st μ P) : mW G d ad M_Mo_fetch 4 [o0, o1, o2] ((.int xs0) :: st) μ P :=
  fun H0 H hM hm hu => zw_istore_n (i := 1) dMo_fetch_4 rfl (Nat.le_of_ble_eq_true rfl) <| zw_iload_n (i := 1) dMo_fetch_5 rfl rfl <| zw_if_lt 14 dMo_fetch_6 (by decide) (fun h => kt h H0 H hM hm hu) (fun h => kf h H0 H hM hm hu)
theorem sMo_fetch_9 {G : zG} {d : Nat} {ad : Nat → Nat} {μ : zMm} {P : Option Value → zMm → Prop} {st : List Value} {o0 : Option Value} {o2 : Option Value} {x1 : Int32} {P2 : Int32 → zMm → Prop} (hd : 1 ≤ d) (hl : st.length ≤ 4) (hc : mC G (d - 1) ad M_Mo_wrong [(.int x1)] μ (mPi P2)) (kk : ∀ (r : Int32) (μ1 : zMm), P2 r μ1 → mW G d ad M_Mo_fetch 13 [o0, some (.int x1), o2] ((.int r) :: st) μ1 P) : mW G d ad M_Mo_fetch 9 [o0, some (.int x1), o2] st μ P :=
  fun H0 H hM hm hu => zw_iload_n (i := 1) dMo_fetch_9 rfl rfl <| zw_callS [(.int x1)] _ dMo_fetch_10 hd zk_Mo_155 rfl rfl hl (hc H hM) (mPi_k kk hm hu)
theorem sMo_fetch_13 {G : zG} {d : Nat} {ad : Nat → Nat} {μ : zMm} {P : Option Value → zMm → Prop} {o0 : Option Value} {o1 : Option Value} {o2 : Option Value} {xs0 : Int32} (hq : P (some (.int xs0)) μ) : mW G d ad M_Mo_fetch 13 [o0, o1, o2] ((.int xs0) :: []) μ P :=
  fun H0 H hM hm hu => zw_iret dMo_fetch_13 .int rfl rfl ⟨μ, hq, hM, hm, hu⟩
theorem sMo_fetch_14 {G : zG} {d : Nat} {ad : Nat → Nat} {μ : zMm} {P : Option Value → zMm → Prop} {st : List Value} {o1 : Option Value} {o2 : Option Value} {P2 : Int32 → zMm → Prop} (hd : 1 ≤ d) (hl : st.length ≤ 4) (hc : mC G (d - 1) ad M_Mo_refer [(.ref (ad 50)), (.ref (ad 2)), (.int (nI 0)), (.int (μ.1 3)), (.int (nI 1))] μ (mPi P2)) (kk : ∀ (r : Int32) (μ1 : zMm), P2 r μ1 → mW G d ad M_Mo_fetch 28 [some (.ref (ad 50)), o1, o2] ((.int r) :: st) μ1 P) : mW G d ad M_Mo_fetch 14 [some (.ref (ad 50)), o1, o2] st μ P :=
  fun H0 H hM hm hu => zw_aload_n (i := 0) dMo_fetch_14 rfl rfl zRf_ref <| zw_aload_n (i := 0) dMo_fetch_15 rfl rfl zRf_ref <| zw_getf dMo_fetch_16 zf_Mo_21 (hM.fa 2 (Nat.le_of_ble_eq_true rfl) mn_2) <| zw_iconst (nI 0) dMo_fetch_19 zki_0 <| zw_aload_n (i := 0) dMo_fetch_20 rfl rfl zRf_ref <| zw_getf dMo_fetch_21 zf_Mo_18 (hM.fi 3 (Nat.le_of_ble_eq_true rfl) mz_3) <| zw_iconst (nI 1) dMo_fetch_24 zki_1 <| zw_callV [(.ref (ad 2)), (.int (nI 0)), (.int (μ.1 3)), (.int (nI 1))] _ dMo_fetch_25 hd zk_Mo_144 hM.is rfl rfl hl (hc H hM) (mPi_k kk hm hu)
theorem sMo_fetch_28 {G : zG} {d : Nat} {ad : Nat → Nat} {μ : zMm} {P : Option Value → zMm → Prop} {st : List Value} {o0 : Option Value} {o1 : Option Value} {o2 : Option Value} {xs0 : Int32} (kt : (¬ xs0 = 0) → mW G d ad M_Mo_fetch 33 [o0, o1, o2] st μ P) (kf : (xs0 = 0) → mW G d ad M_Mo_fetch 31 [o0, o1, o2] st μ P) : mW G d ad M_Mo_fetch 28 [o0, o1, o2] ((.int xs0) :: st) μ P :=
  fun H0 H hM hm hu => zw_if_ne 33 dMo_fetch_28 (by decide) (fun h => kt h H0 H hM hm hu) (fun h => kf h H0 H hM hm hu)
theorem sMo_fetch_31 {G : zG} {d : Nat} {ad : Nat → Nat} {μ : zMm} {P : Option Value → zMm → Prop} {o0 : Option Value} {o1 : Option Value} {o2 : Option Value} (hq : P (some (.int (-1 : Int32))) μ) : mW G d ad M_Mo_fetch 31 [o0, o1, o2] [] μ P :=
  fun H0 H hM hm hu => zw_iconst (-1 : Int32) dMo_fetch_31 zki_m1 <| zw_iret dMo_fetch_32 .int rfl rfl ⟨μ, hq, hM, hm, hu⟩
theorem sMo_fetch_33 {G : zG} {d : Nat} {ad : Nat → Nat} {μ : zMm} {P : Option Value → zMm → Prop} {st : List Value} {o1 : Option Value} {o2 : Option Value} {P2 : zMm → Prop} (hd : 1 ≤ d) (hl : st.length ≤ 4) (hc : mC G (d - 1) ad M_Mo_copyRow [(.ref (ad 50)), (.int (nI 3)), (.int (nI 0))] μ (mPv P2)) (kk : ∀ μ1 : zMm, P2 μ1 → mW G d ad M_Mo_fetch 39 [some (.ref (ad 50)), o1, o2] st μ1 P) : mW G d ad M_Mo_fetch 33 [some (.ref (ad 50)), o1, o2] st μ P :=
  fun H0 H hM hm hu => zw_aload_n (i := 0) dMo_fetch_33 rfl rfl zRf_ref <| zw_iconst (nI 3) dMo_fetch_34 zki_3 <| zw_iconst (nI 0) dMo_fetch_35 zki_0 <| zw_callV [(.int (nI 3)), (.int (nI 0))] _ dMo_fetch_36 hd zk_Mo_148 hM.is rfl rfl hl (hc H hM) (mPv_k kk hm hu)
theorem sMo_fetch_39 {G : zG} {d : Nat} {ad : Nat → Nat} {μ : zMm} {P : Option Value → zMm → Prop} {st : List Value} {o1 : Option Value} {o2 : Option Value} {P2 : zMm → Prop} (hd : 1 ≤ d) (hl : st.length ≤ 4) (hc : mC G (d - 1) ad M_Mo_fetchIt [(.ref (ad 50))] μ (mPv P2)) (kk : ∀ μ1 : zMm, P2 μ1 → mW G d ad M_Mo_fetch 43 [some (.ref (ad 50)), o1, o2] st μ1 P) : mW G d ad M_Mo_fetch 39 [some (.ref (ad 50)), o1, o2] st μ P :=
  fun H0 H hM hm hu => zw_aload_n (i := 0) dMo_fetch_39 rfl rfl zRf_ref <| zw_callV [] _ dMo_fetch_40 hd zk_Mo_274 hM.is rfl rfl hl (hc H hM) (mPv_k kk hm hu)
theorem sMo_fetch_43 {G : zG} {d : Nat} {ad : Nat → Nat} {μ : zMm} {P : Option Value → zMm → Prop} {st : List Value} {o1 : Option Value} {o2 : Option Value} (hn : narrow .boolean (.int (nI 1)) = .int (nI 1)) (hfit : fits .boolean (.int (nI 1)) = true) (kk : mW G d ad M_Mo_fetch 48 [some (.ref (ad 50)), o1, o2] st (upd μ.1 50 (nI 1), μ.2) P) : mW G d ad M_Mo_fetch 43 [some (.ref (ad 50)), o1, o2] st μ P :=
  fun H0 H hM hm hu => zw_aload_n (i := 0) dMo_fetch_43 rfl rfl zRf_ref <| zw_iconst (nI 1) dMo_fetch_44 zki_1 <| (mw_puti (M := M_Mo_fetch) (pc := 45) (k := 50) (v := (nI 1)) dMo_fetch_45 zp_Mo_fetch_277 (Nat.le_of_ble_eq_true rfl) mz_50 hn hfit kk) H0 H hM hm hu
theorem sMo_fetch_48 {G : zG} {d : Nat} {ad : Nat → Nat} {μ : zMm} {P : Option Value → zMm → Prop} {st : List Value} {o1 : Option Value} {o2 : Option Value} {P2 : zMm → Prop} (hd : 1 ≤ d) (hl : st.length ≤ 4) (hc : mC G (d - 1) ad M_Mo_copyRow [(.ref (ad 50)), (.int (nI 26)), (.int (nI 4))] μ (mPv P2)) (kk : ∀ μ1 : zMm, P2 μ1 → mW G d ad M_Mo_fetch 55 [some (.ref (ad 50)), o1, o2] st μ1 P) : mW G d ad M_Mo_fetch 48 [some (.ref (ad 50)), o1, o2] st μ P :=
  fun H0 H hM hm hu => zw_aload_n (i := 0) dMo_fetch_48 rfl rfl zRf_ref <| zw_bipush (nI 26) dMo_fetch_49 zkb_26 <| zw_iconst (nI 4) dMo_fetch_51 zki_4 <| zw_callV [(.int (nI 26)), (.int (nI 4))] _ dMo_fetch_52 hd zk_Mo_148 hM.is rfl rfl hl (hc H hM) (mPv_k kk hm hu)
theorem sMo_fetch_55 {G : zG} {d : Nat} {ad : Nat → Nat} {μ : zMm} {P : Option Value → zMm → Prop} {st : List Value} {o1 : Option Value} {o2 : Option Value} {i1 : Nat} {i : Nat} (hx1 : (nI 3) = nI i1) (hi1 : i1 < mLn 8) (hx : (nI 26) = nI i) (hi : i < mLn 8) (kk : mW G d ad M_Mo_fetch 68 [some (.ref (ad 50)), o1, o2] st (μ.1, updA μ.2 8 i (μ.2 8 i1)) P) : mW G d ad M_Mo_fetch 55 [some (.ref (ad 50)), o1, o2] st μ P :=
  fun H0 H hM hm hu => zw_aload_n (i := 0) dMo_fetch_55 rfl rfl zRf_ref <| zw_getf dMo_fetch_56 zf_Mo_43 (hM.fa 8 (Nat.le_of_ble_eq_true rfl) mn_8) <| zw_bipush (nI 26) dMo_fetch_59 zkb_26 <| zw_aload_n (i := 0) dMo_fetch_61 rfl rfl zRf_ref <| zw_getf dMo_fetch_62 zf_Mo_43 (hM.fa 8 (Nat.le_of_ble_eq_true rfl) mn_8) <| zw_iconst (nI 3) dMo_fetch_65 zki_3 <| zw_ialdN (g := μ.2 8) dMo_fetch_66 (hM.ai mk_8) hx1 hi1 (mLn_le _) <| (mw_iast (M := M_Mo_fetch) (pc := 67) (k := 8) dMo_fetch_67 mk_8 hx hi kk) H0 H hM hm hu
theorem sMo_fetch_68 {G : zG} {d : Nat} {ad : Nat → Nat} {μ : zMm} {P : Option Value → zMm → Prop} {st : List Value} {o0 : Option Value} {o1 : Option Value} {o2 : Option Value} (kk : mW G d ad M_Mo_fetch 70 [o0, o1, some (.int (nI 0))] st μ P) : mW G d ad M_Mo_fetch 68 [o0, o1, o2] st μ P :=
  fun H0 H hM hm hu => zw_iconst (nI 0) dMo_fetch_68 zki_0 <| zw_istore_n (i := 2) dMo_fetch_69 rfl (Nat.le_of_ble_eq_true rfl) <| kk H0 H hM hm hu
theorem sMo_fetch_70 {G : zG} {d : Nat} {ad : Nat → Nat} {μ : zMm} {P : Option Value → zMm → Prop} {st : List Value} {o1 : Option Value} {x2 : Int32} {i1 : Nat} (hx1 : (nI 3) = nI i1) (hi1 : i1 < mLn 8) (kt : ((μ.2 8 i1) ≤ x2) → mW G d ad M_Mo_fetch 106 [some (.ref (ad 50)), o1, some (.int x2)] st μ P) (kf : (¬ (μ.2 8 i1) ≤ x2) → mW G d ad M_Mo_fetch 80 [some (.ref (ad 50)), o1, some (.int x2)] st μ P) : mW G d ad M_Mo_fetch 70 [some (.ref (ad 50)), o1, some (.int x2)] st μ P :=
  fun H0 H hM hm hu => zw_iload_n (i := 2) dMo_fetch_70 rfl rfl <| zw_aload_n (i := 0) dMo_fetch_71 rfl rfl zRf_ref <| zw_getf dMo_fetch_72 zf_Mo_43 (hM.fa 8 (Nat.le_of_ble_eq_true rfl) mn_8) <| zw_iconst (nI 3) dMo_fetch_75 zki_3 <| zw_ialdN (g := μ.2 8) dMo_fetch_76 (hM.ai mk_8) hx1 hi1 (mLn_le _) <| zw_icmp_ge 106 dMo_fetch_77 (by decide) (fun h => kt h H0 H hM hm hu) (fun h => kf h H0 H hM hm hu)
theorem sMo_fetch_80 {G : zG} {d : Nat} {ad : Nat → Nat} {μ : zMm} {P : Option Value → zMm → Prop} {st : List Value} {o1 : Option Value} {x2 : Int32} {i1 : Nat} {i : Nat} (hx1 : ((nI 585) + x2) = nI i1) (hi1 : i1 < mLn 6) (hx : ((nI 4035) + x2) = nI i) (hi : i < mLn 6) (kk : mW G d ad M_Mo_fetch 100 [some (.ref (ad 50)), o1, some (.int x2)] st (μ.1, updA μ.2 6 i ((μ.2 6 i1)).toInt8.toInt32) P) : mW G d ad M_Mo_fetch 80 [some (.ref (ad 50)), o1, some (.int x2)] st μ P :=
  fun H0 H hM hm hu => zw_aload_n (i := 0) dMo_fetch_80 rfl rfl zRf_ref <| zw_getf dMo_fetch_81 zf_Mo_36 (hM.fa 6 (Nat.le_of_ble_eq_true rfl) mn_6) <| zw_sipush (nI 4035) dMo_fetch_84 zks_4035 <| zw_iload_n (i := 2) dMo_fetch_87 rfl rfl <| zw_iadd dMo_fetch_88 <| zw_aload_n (i := 0) dMo_fetch_89 rfl rfl zRf_ref <| zw_getf dMo_fetch_90 zf_Mo_36 (hM.fa 6 (Nat.le_of_ble_eq_true rfl) mn_6) <| zw_sipush (nI 585) dMo_fetch_93 zks_585 <| zw_iload_n (i := 2) dMo_fetch_96 rfl rfl <| zw_iadd dMo_fetch_97 <| zw_baldN (g := μ.2 6) dMo_fetch_98 (hM.ab mk_6) hx1 hi1 (mLn_le _) <| (mw_bast (M := M_Mo_fetch) (pc := 99) (k := 6) dMo_fetch_99 mk_6 hx hi kk) H0 H hM hm hu
theorem sMo_fetch_100 {G : zG} {d : Nat} {ad : Nat → Nat} {μ : zMm} {P : Option Value → zMm → Prop} {st : List Value} {o0 : Option Value} {o1 : Option Value} {x2 : Int32} (kk : mW G d ad M_Mo_fetch 70 [o0, o1, some (.int (x2 + (nI 1)))] st μ P) : mW G d ad M_Mo_fetch 100 [o0, o1, some (.int x2)] st μ P :=
  fun H0 H hM hm hu => zw_iinc (i := 2) (x2 + (nI 1)) dMo_fetch_100 rfl (congrArg (fun z => x2 + z) zki_1) <| zw_goto 70 dMo_fetch_103 (by decide) <| kk H0 H hM hm hu
theorem sMo_fetch_106 {G : zG} {d : Nat} {ad : Nat → Nat} {μ : zMm} {P : Option Value → zMm → Prop} {st : List Value} {o1 : Option Value} {o2 : Option Value} (kt : (0 ≤ (μ.1 44)) → mW G d ad M_Mo_fetch 118 [some (.ref (ad 50)), o1, o2] ((.ref (ad 50)) :: st) μ P) (kf : (¬ 0 ≤ (μ.1 44)) → mW G d ad M_Mo_fetch 114 [some (.ref (ad 50)), o1, o2] ((.ref (ad 50)) :: st) μ P) : mW G d ad M_Mo_fetch 106 [some (.ref (ad 50)), o1, o2] st μ P :=
  fun H0 H hM hm hu => zw_aload_n (i := 0) dMo_fetch_106 rfl rfl zRf_ref <| zw_aload_n (i := 0) dMo_fetch_107 rfl rfl zRf_ref <| zw_getf dMo_fetch_108 zf_Mo_238 (hM.fi 44 (Nat.le_of_ble_eq_true rfl) mz_44) <| zw_if_ge 118 dMo_fetch_111 (by decide) (fun h => kt h H0 H hM hm hu) (fun h => kf h H0 H hM hm hu)
theorem sMo_fetch_114 {G : zG} {d : Nat} {ad : Nat → Nat} {μ : zMm} {P : Option Value → zMm → Prop} {st : List Value} {o0 : Option Value} {o1 : Option Value} {o2 : Option Value} (kk : mW G d ad M_Mo_fetch 130 [o0, o1, o2] st (upd μ.1 48 (nI 0), μ.2) P) : mW G d ad M_Mo_fetch 114 [o0, o1, o2] ((.ref (ad 50)) :: st) μ P :=
  fun H0 H hM hm hu => zw_iconst (nI 0) dMo_fetch_114 zki_0 <| zw_goto 127 dMo_fetch_115 (by decide) <| (mw_puti (M := M_Mo_fetch) (pc := 127) (k := 48) (v := (nI 0)) dMo_fetch_127 zp_Mo_fetch_280 (Nat.le_of_ble_eq_true rfl) mz_48 rfl rfl kk) H0 H hM hm hu
theorem sMo_fetch_118 {G : zG} {d : Nat} {ad : Nat → Nat} {μ : zMm} {P : Option Value → zMm → Prop} {st : List Value} {o1 : Option Value} {o2 : Option Value} {i1 : Nat} (hx1 : (μ.1 44) = nI i1) (hi1 : i1 < mLn 18) (kk : mW G d ad M_Mo_fetch 130 [some (.ref (ad 50)), o1, o2] st (upd μ.1 48 (μ.2 18 i1), μ.2) P) : mW G d ad M_Mo_fetch 118 [some (.ref (ad 50)), o1, o2] ((.ref (ad 50)) :: st) μ P :=
  fun H0 H hM hm hu => zw_aload_n (i := 0) dMo_fetch_118 rfl rfl zRf_ref <| zw_getf dMo_fetch_119 zf_Mo_171 (hM.fa 18 (Nat.le_of_ble_eq_true rfl) mn_18) <| zw_aload_n (i := 0) dMo_fetch_122 rfl rfl zRf_ref <| zw_getf dMo_fetch_123 zf_Mo_238 (hM.fi 44 (Nat.le_of_ble_eq_true rfl) mz_44) <| zw_ialdN (g := μ.2 18) dMo_fetch_126 (hM.ai mk_18) hx1 hi1 (mLn_le _) <| (mw_puti (M := M_Mo_fetch) (pc := 127) (k := 48) (v := (μ.2 18 i1)) dMo_fetch_127 zp_Mo_fetch_280 (Nat.le_of_ble_eq_true rfl) mz_48 rfl rfl kk) H0 H hM hm hu
theorem sMo_fetch_127 {G : zG} {d : Nat} {ad : Nat → Nat} {μ : zMm} {P : Option Value → zMm → Prop} {st : List Value} {o0 : Option Value} {o1 : Option Value} {o2 : Option Value} {xs0 : Int32} (kk : mW G d ad M_Mo_fetch 130 [o0, o1, o2] st (upd μ.1 48 xs0, μ.2) P) : mW G d ad M_Mo_fetch 127 [o0, o1, o2] ((.int xs0) :: (.ref (ad 50)) :: st) μ P :=
  fun H0 H hM hm hu => (mw_puti (M := M_Mo_fetch) (pc := 127) (k := 48) (v := xs0) dMo_fetch_127 zp_Mo_fetch_280 (Nat.le_of_ble_eq_true rfl) mz_48 rfl rfl kk) H0 H hM hm hu
theorem sMo_fetch_130 {G : zG} {d : Nat} {ad : Nat → Nat} {μ : zMm} {P : Option Value → zMm → Prop} {st : List Value} {o0 : Option Value} {o1 : Option Value} {o2 : Option Value} (kk : mW G d ad M_Mo_fetch 132 [o0, o1, some (.int (nI 0))] st μ P) : mW G d ad M_Mo_fetch 130 [o0, o1, o2] st μ P :=
  fun H0 H hM hm hu => zw_iconst (nI 0) dMo_fetch_130 zki_0 <| zw_istore_n (i := 2) dMo_fetch_131 rfl (Nat.le_of_ble_eq_true rfl) <| kk H0 H hM hm hu
theorem sMo_fetch_132 {G : zG} {d : Nat} {ad : Nat → Nat} {μ : zMm} {P : Option Value → zMm → Prop} {st : List Value} {o1 : Option Value} {x2 : Int32} (kt : ((μ.1 48) ≤ x2) → mW G d ad M_Mo_fetch 167 [some (.ref (ad 50)), o1, some (.int x2)] st μ P) (kf : (¬ (μ.1 48) ≤ x2) → mW G d ad M_Mo_fetch 140 [some (.ref (ad 50)), o1, some (.int x2)] st μ P) : mW G d ad M_Mo_fetch 132 [some (.ref (ad 50)), o1, some (.int x2)] st μ P :=
  fun H0 H hM hm hu => zw_iload_n (i := 2) dMo_fetch_132 rfl rfl <| zw_aload_n (i := 0) dMo_fetch_133 rfl rfl zRf_ref <| zw_getf dMo_fetch_134 zf_Mo_280 (hM.fi 48 (Nat.le_of_ble_eq_true rfl) mz_48) <| zw_icmp_ge 167 dMo_fetch_137 (by decide) (fun h => kt h H0 H hM hm hu) (fun h => kf h H0 H hM hm hu)
theorem sMo_fetch_140 {G : zG} {d : Nat} {ad : Nat → Nat} {μ : zMm} {P : Option Value → zMm → Prop} {st : List Value} {o1 : Option Value} {x2 : Int32} {i1 : Nat} {i : Nat} (hx1 : (((μ.1 44) * (nI 1500)) + x2) = nI i1) (hi1 : i1 < mLn 17) (hx : x2 = nI i) (hi : i < mLn 47) (kk : mW G d ad M_Mo_fetch 161 [some (.ref (ad 50)), o1, some (.int x2)] st (μ.1, updA μ.2 47 i ((μ.2 17 i1)).toInt8.toInt32) P) : mW G d ad M_Mo_fetch 140 [some (.ref (ad 50)), o1, some (.int x2)] st μ P :=
  fun H0 H hM hm hu => zw_aload_n (i := 0) dMo_fetch_140 rfl rfl zRf_ref <| zw_getf dMo_fetch_141 zf_Mo_265 (hM.fa 47 (Nat.le_of_ble_eq_true rfl) mn_47) <| zw_iload_n (i := 2) dMo_fetch_144 rfl rfl <| zw_aload_n (i := 0) dMo_fetch_145 rfl rfl zRf_ref <| zw_getf dMo_fetch_146 zf_Mo_174 (hM.fa 17 (Nat.le_of_ble_eq_true rfl) mn_17) <| zw_aload_n (i := 0) dMo_fetch_149 rfl rfl zRf_ref <| zw_getf dMo_fetch_150 zf_Mo_238 (hM.fi 44 (Nat.le_of_ble_eq_true rfl) mz_44) <| zw_sipush (nI 1500) dMo_fetch_153 zks_1500 <| zw_imul dMo_fetch_156 <| zw_iload_n (i := 2) dMo_fetch_157 rfl rfl <| zw_iadd dMo_fetch_158 <| zw_baldN (g := μ.2 17) dMo_fetch_159 (hM.ab mk_17) hx1 hi1 (mLn_le _) <| (mw_bast (M := M_Mo_fetch) (pc := 160) (k := 47) dMo_fetch_160 mk_47 hx hi kk) H0 H hM hm hu
theorem sMo_fetch_161 {G : zG} {d : Nat} {ad : Nat → Nat} {μ : zMm} {P : Option Value → zMm → Prop} {st : List Value} {o0 : Option Value} {o1 : Option Value} {x2 : Int32} (kk : mW G d ad M_Mo_fetch 132 [o0, o1, some (.int (x2 + (nI 1)))] st μ P) : mW G d ad M_Mo_fetch 161 [o0, o1, some (.int x2)] st μ P :=
  fun H0 H hM hm hu => zw_iinc (i := 2) (x2 + (nI 1)) dMo_fetch_161 rfl (congrArg (fun z => x2 + z) zki_1) <| zw_goto 132 dMo_fetch_164 (by decide) <| kk H0 H hM hm hu
theorem sMo_fetch_167 {G : zG} {d : Nat} {ad : Nat → Nat} {μ : zMm} {P : Option Value → zMm → Prop} {st : List Value} {o1 : Option Value} {o2 : Option Value} (kt : ((μ.1 44) < 0) → mW G d ad M_Mo_fetch 191 [some (.ref (ad 50)), o1, o2] ((.ref (ad 50)) :: st) μ P) (kf : (¬ (μ.1 44) < 0) → mW G d ad M_Mo_fetch 175 [some (.ref (ad 50)), o1, o2] ((.ref (ad 50)) :: st) μ P) : mW G d ad M_Mo_fetch 167 [some (.ref (ad 50)), o1, o2] st μ P :=
  fun H0 H hM hm hu => zw_aload_n (i := 0) dMo_fetch_167 rfl rfl zRf_ref <| zw_aload_n (i := 0) dMo_fetch_168 rfl rfl zRf_ref <| zw_getf dMo_fetch_169 zf_Mo_238 (hM.fi 44 (Nat.le_of_ble_eq_true rfl) mz_44) <| zw_if_lt 191 dMo_fetch_172 (by decide) (fun h => kt h H0 H hM hm hu) (fun h => kf h H0 H hM hm hu)
theorem sMo_fetch_175 {G : zG} {d : Nat} {ad : Nat → Nat} {μ : zMm} {P : Option Value → zMm → Prop} {st : List Value} {o1 : Option Value} {o2 : Option Value} {i1 : Nat} (hx1 : (μ.1 44) = nI i1) (hi1 : i1 < mLn 24) (kt : ((μ.2 24 i1) = 0) → mW G d ad M_Mo_fetch 191 [some (.ref (ad 50)), o1, o2] st μ P) (kf : (¬ (μ.2 24 i1) = 0) → mW G d ad M_Mo_fetch 187 [some (.ref (ad 50)), o1, o2] st μ P) : mW G d ad M_Mo_fetch 175 [some (.ref (ad 50)), o1, o2] st μ P :=
  fun H0 H hM hm hu => zw_aload_n (i := 0) dMo_fetch_175 rfl rfl zRf_ref <| zw_getf dMo_fetch_176 zf_Mo_193 (hM.fa 24 (Nat.le_of_ble_eq_true rfl) mn_24) <| zw_aload_n (i := 0) dMo_fetch_179 rfl rfl zRf_ref <| zw_getf dMo_fetch_180 zf_Mo_238 (hM.fi 44 (Nat.le_of_ble_eq_true rfl) mz_44) <| zw_zaldN (g := μ.2 24) dMo_fetch_183 (hM.az mk_24) hx1 hi1 (mLn_le _) <| zw_if_eq 191 dMo_fetch_184 (by decide) (fun h => kt h H0 H hM hm hu) (fun h => kf h H0 H hM hm hu)
theorem sMo_fetch_187 {G : zG} {d : Nat} {ad : Nat → Nat} {μ : zMm} {P : Option Value → zMm → Prop} {st : List Value} {o0 : Option Value} {o1 : Option Value} {o2 : Option Value} (hn : narrow .boolean (.int (nI 1)) = .int (nI 1)) (hfit : fits .boolean (.int (nI 1)) = true) (kk : mW G d ad M_Mo_fetch 195 [o0, o1, o2] st (upd μ.1 49 (nI 1), μ.2) P) : mW G d ad M_Mo_fetch 187 [o0, o1, o2] ((.ref (ad 50)) :: st) μ P :=
  fun H0 H hM hm hu => zw_iconst (nI 1) dMo_fetch_187 zki_1 <| zw_goto 192 dMo_fetch_188 (by decide) <| (mw_puti (M := M_Mo_fetch) (pc := 192) (k := 49) (v := (nI 1)) dMo_fetch_192 zp_Mo_fetch_283 (Nat.le_of_ble_eq_true rfl) mz_49 hn hfit kk) H0 H hM hm hu
theorem sMo_fetch_191 {G : zG} {d : Nat} {ad : Nat → Nat} {μ : zMm} {P : Option Value → zMm → Prop} {st : List Value} {o0 : Option Value} {o1 : Option Value} {o2 : Option Value} (hn : narrow .boolean (.int (nI 0)) = .int (nI 0)) (hfit : fits .boolean (.int (nI 0)) = true) (kk : mW G d ad M_Mo_fetch 195 [o0, o1, o2] st (upd μ.1 49 (nI 0), μ.2) P) : mW G d ad M_Mo_fetch 191 [o0, o1, o2] ((.ref (ad 50)) :: st) μ P :=
  fun H0 H hM hm hu => zw_iconst (nI 0) dMo_fetch_191 zki_0 <| (mw_puti (M := M_Mo_fetch) (pc := 192) (k := 49) (v := (nI 0)) dMo_fetch_192 zp_Mo_fetch_283 (Nat.le_of_ble_eq_true rfl) mz_49 hn hfit kk) H0 H hM hm hu
theorem sMo_fetch_192 {G : zG} {d : Nat} {ad : Nat → Nat} {μ : zMm} {P : Option Value → zMm → Prop} {st : List Value} {o0 : Option Value} {o1 : Option Value} {o2 : Option Value} {xs0 : Int32} (hn : narrow .boolean (.int xs0) = .int xs0) (hfit : fits .boolean (.int xs0) = true) (kk : mW G d ad M_Mo_fetch 195 [o0, o1, o2] st (upd μ.1 49 xs0, μ.2) P) : mW G d ad M_Mo_fetch 192 [o0, o1, o2] ((.int xs0) :: (.ref (ad 50)) :: st) μ P :=
  fun H0 H hM hm hu => (mw_puti (M := M_Mo_fetch) (pc := 192) (k := 49) (v := xs0) dMo_fetch_192 zp_Mo_fetch_283 (Nat.le_of_ble_eq_true rfl) mz_49 hn hfit kk) H0 H hM hm hu
theorem sMo_fetch_195 {G : zG} {d : Nat} {ad : Nat → Nat} {μ : zMm} {P : Option Value → zMm → Prop} {o1 : Option Value} {o2 : Option Value} (hq : P (some (.int (μ.1 48))) μ) : mW G d ad M_Mo_fetch 195 [some (.ref (ad 50)), o1, o2] [] μ P :=
  fun H0 H hM hm hu => zw_aload_n (i := 0) dMo_fetch_195 rfl rfl zRf_ref <| zw_getf dMo_fetch_196 zf_Mo_280 (hM.fi 48 (Nat.le_of_ble_eq_true rfl) mz_48) <| zw_iret dMo_fetch_199 .int rfl rfl ⟨μ, hq, hM, hm, hu⟩
theorem sMo_fetchIt_0 {G : zG} {d : Nat} {ad : Nat → Nat} {μ : zMm} {P : Option Value → zMm → Prop} {st : List Value} {o1 : Option Value} {o2 : Option Value} {o3 : Option Value} {P2 : zMm → Prop} (hd : 1 ≤ d) (hl : st.length ≤ 4) (hc : mC G (d - 1) ad M_Mo_copyRow [(.ref (ad 50)), (.int (nI 4)), (.int (nI 0))] μ (mPv P2)) (kk : ∀ μ1 : zMm, P2 μ1 → mW G d ad M_Mo_fetchIt 6 [some (.ref (ad 50)), o1, o2, o3] st μ1 P) : mW G d ad M_Mo_fetchIt 0 [some (.ref (ad 50)), o1, o2, o3] st μ P :=
  fun H0 H hM hm hu => zw_aload_n (i := 0) dMo_fetchIt_0 rfl rfl zRf_ref <| zw_iconst (nI 4) dMo_fetchIt_1 zki_4 <| zw_iconst (nI 0) dMo_fetchIt_2 zki_0 <| zw_callV [(.int (nI 4)), (.int (nI 0))] _ dMo_fetchIt_3 hd zk_Mo_148 hM.is rfl rfl hl (hc H hM) (mPv_k kk hm hu)
theorem sMo_fetchIt_6 {G : zG} {d : Nat} {ad : Nat → Nat} {μ : zMm} {P : Option Value → zMm → Prop} {st : List Value} {o1 : Option Value} {o2 : Option Value} {o3 : Option Value} {i : Nat} (hx : (nI 4) = nI i) (hi : i < mLn 8) (kk : mW G d ad M_Mo_fetchIt 13 [some (.ref (ad 50)), o1, o2, o3] st (μ.1, updA μ.2 8 i (nI 0)) P) : mW G d ad M_Mo_fetchIt 6 [some (.ref (ad 50)), o1, o2, o3] st μ P :=
  fun H0 H hM hm hu => zw_aload_n (i := 0) dMo_fetchIt_6 rfl rfl zRf_ref <| zw_getf dMo_fetchIt_7 zf_Mo_43 (hM.fa 8 (Nat.le_of_ble_eq_true rfl) mn_8) <| zw_iconst (nI 4) dMo_fetchIt_10 zki_4 <| zw_iconst (nI 0) dMo_fetchIt_11 zki_0 <| (mw_iast (M := M_Mo_fetchIt) (pc := 12) (k := 8) dMo_fetchIt_12 mk_8 hx hi kk) H0 H hM hm hu
theorem sMo_fetchIt_13 {G : zG} {d : Nat} {ad : Nat → Nat} {μ : zMm} {P : Option Value → zMm → Prop} {st : List Value} {o1 : Option Value} {o2 : Option Value} {o3 : Option Value} (kk : mW G d ad M_Mo_fetchIt 20 [some (.ref (ad 50)), some (.int (nI 1)), o2, o3] st (upd μ.1 45 (-1 : Int32), μ.2) P) : mW G d ad M_Mo_fetchIt 13 [some (.ref (ad 50)), o1, o2, o3] st μ P :=
  fun H0 H hM hm hu => zw_iconst (nI 1) dMo_fetchIt_13 zki_1 <| zw_istore_n (i := 1) dMo_fetchIt_14 rfl (Nat.le_of_ble_eq_true rfl) <| zw_aload_n (i := 0) dMo_fetchIt_15 rfl rfl zRf_ref <| zw_iconst (-1 : Int32) dMo_fetchIt_16 zki_m1 <| (mw_puti (M := M_Mo_fetchIt) (pc := 17) (k := 45) (v := (-1 : Int32)) dMo_fetchIt_17 zp_Mo_fetchIt_235 (Nat.le_of_ble_eq_true rfl) mz_45 rfl rfl kk) H0 H hM hm hu
theorem sMo_fetchIt_20 {G : zG} {d : Nat} {ad : Nat → Nat} {μ : zMm} {P : Option Value → zMm → Prop} {st : List Value} {o0 : Option Value} {o1 : Option Value} {o2 : Option Value} {o3 : Option Value} (kk : mW G d ad M_Mo_fetchIt 22 [o0, o1, some (.int (nI 0)), o3] st μ P) : mW G d ad M_Mo_fetchIt 20 [o0, o1, o2, o3] st μ P :=
  fun H0 H hM hm hu => zw_iconst (nI 0) dMo_fetchIt_20 zki_0 <| zw_istore_n (i := 2) dMo_fetchIt_21 rfl (Nat.le_of_ble_eq_true rfl) <| kk H0 H hM hm hu
theorem sMo_fetchIt_22 {G : zG} {d : Nat} {ad : Nat → Nat} {μ : zMm} {P : Option Value → zMm → Prop} {st : List Value} {o0 : Option Value} {o2 : Option Value} {o3 : Option Value} {x1 : Int32} (kt : (x1 = 0) → mW G d ad M_Mo_fetchIt 202 [o0, some (.int x1), o2, o3] st μ P) (kf : (¬ x1 = 0) → mW G d ad M_Mo_fetchIt 26 [o0, some (.int x1), o2, o3] st μ P) : mW G d ad M_Mo_fetchIt 22 [o0, some (.int x1), o2, o3] st μ P :=
  fun H0 H hM hm hu => zw_iload_n (i := 1) dMo_fetchIt_22 rfl rfl <| zw_if_eq 202 dMo_fetchIt_23 (by decide) (fun h => kt h H0 H hM hm hu) (fun h => kf h H0 H hM hm hu)
theorem sMo_fetchIt_26 {G : zG} {d : Nat} {ad : Nat → Nat} {μ : zMm} {P : Option Value → zMm → Prop} {st : List Value} {o1 : Option Value} {o2 : Option Value} {o3 : Option Value} (kk : mW G d ad M_Mo_fetchIt 36 [some (.ref (ad 50)), o1, o2, o3] st (upd μ.1 45 ((μ.1 45) + (nI 1)), μ.2) P) : mW G d ad M_Mo_fetchIt 26 [some (.ref (ad 50)), o1, o2, o3] st μ P :=
  fun H0 H hM hm hu => zw_aload_n (i := 0) dMo_fetchIt_26 rfl rfl zRf_ref <| zw_dup dMo_fetchIt_27 rfl <| zw_getf dMo_fetchIt_28 zf_Mo_235 (hM.fi 45 (Nat.le_of_ble_eq_true rfl) mz_45) <| zw_iconst (nI 1) dMo_fetchIt_31 zki_1 <| zw_iadd dMo_fetchIt_32 <| (mw_puti (M := M_Mo_fetchIt) (pc := 33) (k := 45) (v := ((μ.1 45) + (nI 1))) dMo_fetchIt_33 zp_Mo_fetchIt_235 (Nat.le_of_ble_eq_true rfl) mz_45 rfl rfl kk) H0 H hM hm hu
theorem sMo_fetchIt_36 {G : zG} {d : Nat} {ad : Nat → Nat} {μ : zMm} {P : Option Value → zMm → Prop} {st : List Value} {o1 : Option Value} {o2 : Option Value} {o3 : Option Value} (kk : mW G d ad M_Mo_fetchIt 41 [some (.ref (ad 50)), o1, o2, o3] st (upd μ.1 44 (-1 : Int32), μ.2) P) : mW G d ad M_Mo_fetchIt 36 [some (.ref (ad 50)), o1, o2, o3] st μ P :=
  fun H0 H hM hm hu => zw_aload_n (i := 0) dMo_fetchIt_36 rfl rfl zRf_ref <| zw_iconst (-1 : Int32) dMo_fetchIt_37 zki_m1 <| (mw_puti (M := M_Mo_fetchIt) (pc := 38) (k := 44) (v := (-1 : Int32)) dMo_fetchIt_38 zp_Mo_fetchIt_238 (Nat.le_of_ble_eq_true rfl) mz_44 rfl rfl kk) H0 H hM hm hu
theorem sMo_fetchIt_41 {G : zG} {d : Nat} {ad : Nat → Nat} {μ : zMm} {P : Option Value → zMm → Prop} {st : List Value} {o0 : Option Value} {o1 : Option Value} {o2 : Option Value} {o3 : Option Value} (kk : mW G d ad M_Mo_fetchIt 43 [o0, o1, o2, some (.int (nI 0))] st μ P) : mW G d ad M_Mo_fetchIt 41 [o0, o1, o2, o3] st μ P :=
  fun H0 H hM hm hu => zw_iconst (nI 0) dMo_fetchIt_41 zki_0 <| zw_istore_n (i := 3) dMo_fetchIt_42 rfl (Nat.le_of_ble_eq_true rfl) <| kk H0 H hM hm hu
theorem sMo_fetchIt_43 {G : zG} {d : Nat} {ad : Nat → Nat} {μ : zMm} {P : Option Value → zMm → Prop} {st : List Value} {o1 : Option Value} {o2 : Option Value} {x3 : Int32} (kt : ((μ.1 26) ≤ x3) → mW G d ad M_Mo_fetchIt 90 [some (.ref (ad 50)), o1, o2, some (.int x3)] st μ P) (kf : (¬ (μ.1 26) ≤ x3) → mW G d ad M_Mo_fetchIt 51 [some (.ref (ad 50)), o1, o2, some (.int x3)] st μ P) : mW G d ad M_Mo_fetchIt 43 [some (.ref (ad 50)), o1, o2, some (.int x3)] st μ P :=
  fun H0 H hM hm hu => zw_iload_n (i := 3) dMo_fetchIt_43 rfl rfl <| zw_aload_n (i := 0) dMo_fetchIt_44 rfl rfl zRf_ref <| zw_getf dMo_fetchIt_45 zf_Mo_220 (hM.fi 26 (Nat.le_of_ble_eq_true rfl) mz_26) <| zw_icmp_ge 90 dMo_fetchIt_48 (by decide) (fun h => kt h H0 H hM hm hu) (fun h => kf h H0 H hM hm hu)
theorem sMo_fetchIt_51 {G : zG} {d : Nat} {ad : Nat → Nat} {μ : zMm} {P : Option Value → zMm → Prop} {st : List Value} {o1 : Option Value} {o2 : Option Value} {x3 : Int32} {P2 : Int32 → zMm → Prop} (hd : 1 ≤ d) (hl : st.length ≤ 4) (hc : mC G (d - 1) ad M_Mo_alike [(.ref (ad 50)), (.int ((nI 18) + x3)), (.int (nI 4))] μ (mPi P2)) (kk : ∀ (r : Int32) (μ1 : zMm), P2 r μ1 → mW G d ad M_Mo_fetchIt 60 [some (.ref (ad 50)), o1, o2, some (.int x3)] ((.int r) :: st) μ1 P) : mW G d ad M_Mo_fetchIt 51 [some (.ref (ad 50)), o1, o2, some (.int x3)] st μ P :=
  fun H0 H hM hm hu => zw_aload_n (i := 0) dMo_fetchIt_51 rfl rfl zRf_ref <| zw_bipush (nI 18) dMo_fetchIt_52 zkb_18 <| zw_iload_n (i := 3) dMo_fetchIt_54 rfl rfl <| zw_iadd dMo_fetchIt_55 <| zw_iconst (nI 4) dMo_fetchIt_56 zki_4 <| zw_callV [(.int ((nI 18) + x3)), (.int (nI 4))] _ dMo_fetchIt_57 hd zk_Mo_168 hM.is rfl rfl hl (hc H hM) (mPi_k kk hm hu)
theorem sMo_fetchIt_60 {G : zG} {d : Nat} {ad : Nat → Nat} {μ : zMm} {P : Option Value → zMm → Prop} {st : List Value} {o0 : Option Value} {o1 : Option Value} {o2 : Option Value} {o3 : Option Value} {xs0 : Int32} (kt : (xs0 = 0) → mW G d ad M_Mo_fetchIt 84 [o0, o1, o2, o3] st μ P) (kf : (¬ xs0 = 0) → mW G d ad M_Mo_fetchIt 63 [o0, o1, o2, o3] st μ P) : mW G d ad M_Mo_fetchIt 60 [o0, o1, o2, o3] ((.int xs0) :: st) μ P :=
  fun H0 H hM hm hu => zw_if_eq 84 dMo_fetchIt_60 (by decide) (fun h => kt h H0 H hM hm hu) (fun h => kf h H0 H hM hm hu)
theorem sMo_fetchIt_63 {G : zG} {d : Nat} {ad : Nat → Nat} {μ : zMm} {P : Option Value → zMm → Prop} {st : List Value} {o1 : Option Value} {o2 : Option Value} {x3 : Int32} {i1 : Nat} (hx1 : x3 = nI i1) (hi1 : i1 < mLn 28) (kt : ((μ.2 28 i1) ≤ (μ.1 25)) → mW G d ad M_Mo_fetchIt 84 [some (.ref (ad 50)), o1, o2, some (.int x3)] st μ P) (kf : (¬ (μ.2 28 i1) ≤ (μ.1 25)) → mW G d ad M_Mo_fetchIt 76 [some (.ref (ad 50)), o1, o2, some (.int x3)] st μ P) : mW G d ad M_Mo_fetchIt 63 [some (.ref (ad 50)), o1, o2, some (.int x3)] st μ P :=
  fun H0 H hM hm hu => zw_aload_n (i := 0) dMo_fetchIt_63 rfl rfl zRf_ref <| zw_getf dMo_fetchIt_64 zf_Mo_226 (hM.fa 28 (Nat.le_of_ble_eq_true rfl) mn_28) <| zw_iload_n (i := 3) dMo_fetchIt_67 rfl rfl <| zw_ialdN (g := μ.2 28) dMo_fetchIt_68 (hM.ai mk_28) hx1 hi1 (mLn_le _) <| zw_aload_n (i := 0) dMo_fetchIt_69 rfl rfl zRf_ref <| zw_getf dMo_fetchIt_70 zf_Mo_229 (hM.fi 25 (Nat.le_of_ble_eq_true rfl) mz_25) <| zw_icmp_le 84 dMo_fetchIt_73 (by decide) (fun h => kt h H0 H hM hm hu) (fun h => kf h H0 H hM hm hu)
theorem sMo_fetchIt_76 {G : zG} {d : Nat} {ad : Nat → Nat} {μ : zMm} {P : Option Value → zMm → Prop} {st : List Value} {o1 : Option Value} {o2 : Option Value} {x3 : Int32} (kk : mW G d ad M_Mo_fetchIt 84 [some (.ref (ad 50)), o1, o2, some (.int x3)] st (upd μ.1 44 ((nI 12) + x3), μ.2) P) : mW G d ad M_Mo_fetchIt 76 [some (.ref (ad 50)), o1, o2, some (.int x3)] st μ P :=
  fun H0 H hM hm hu => zw_aload_n (i := 0) dMo_fetchIt_76 rfl rfl zRf_ref <| zw_bipush (nI 12) dMo_fetchIt_77 zkb_12 <| zw_iload_n (i := 3) dMo_fetchIt_79 rfl rfl <| zw_iadd dMo_fetchIt_80 <| (mw_puti (M := M_Mo_fetchIt) (pc := 81) (k := 44) (v := ((nI 12) + x3)) dMo_fetchIt_81 zp_Mo_fetchIt_238 (Nat.le_of_ble_eq_true rfl) mz_44 rfl rfl kk) H0 H hM hm hu
theorem sMo_fetchIt_84 {G : zG} {d : Nat} {ad : Nat → Nat} {μ : zMm} {P : Option Value → zMm → Prop} {st : List Value} {o0 : Option Value} {o1 : Option Value} {o2 : Option Value} {x3 : Int32} (kk : mW G d ad M_Mo_fetchIt 43 [o0, o1, o2, some (.int (x3 + (nI 1)))] st μ P) : mW G d ad M_Mo_fetchIt 84 [o0, o1, o2, some (.int x3)] st μ P :=
  fun H0 H hM hm hu => zw_iinc (i := 3) (x3 + (nI 1)) dMo_fetchIt_84 rfl (congrArg (fun z => x3 + z) zki_1) <| zw_goto 43 dMo_fetchIt_87 (by decide) <| kk H0 H hM hm hu
theorem sMo_fetchIt_90 {G : zG} {d : Nat} {ad : Nat → Nat} {μ : zMm} {P : Option Value → zMm → Prop} {st : List Value} {o1 : Option Value} {o2 : Option Value} {o3 : Option Value} (kt : ((μ.1 44) < 0) → mW G d ad M_Mo_fetchIt 102 [some (.ref (ad 50)), o1, o2, o3] ((.ref (ad 50)) :: st) μ P) (kf : (¬ (μ.1 44) < 0) → mW G d ad M_Mo_fetchIt 98 [some (.ref (ad 50)), o1, o2, o3] ((.ref (ad 50)) :: st) μ P) : mW G d ad M_Mo_fetchIt 90 [some (.ref (ad 50)), o1, o2, o3] st μ P :=
  fun H0 H hM hm hu => zw_aload_n (i := 0) dMo_fetchIt_90 rfl rfl zRf_ref <| zw_aload_n (i := 0) dMo_fetchIt_91 rfl rfl zRf_ref <| zw_getf dMo_fetchIt_92 zf_Mo_238 (hM.fi 44 (Nat.le_of_ble_eq_true rfl) mz_44) <| zw_if_lt 102 dMo_fetchIt_95 (by decide) (fun h => kt h H0 H hM hm hu) (fun h => kf h H0 H hM hm hu)
theorem sMo_fetchIt_98 {G : zG} {d : Nat} {ad : Nat → Nat} {μ : zMm} {P : Option Value → zMm → Prop} {st : List Value} {o0 : Option Value} {o1 : Option Value} {o2 : Option Value} {o3 : Option Value} (hn : narrow .boolean (.int (nI 1)) = .int (nI 1)) (hfit : fits .boolean (.int (nI 1)) = true) (kk : mW G d ad M_Mo_fetchIt 106 [o0, o1, o2, o3] st (upd μ.1 46 (nI 1), μ.2) P) : mW G d ad M_Mo_fetchIt 98 [o0, o1, o2, o3] ((.ref (ad 50)) :: st) μ P :=
  fun H0 H hM hm hu => zw_iconst (nI 1) dMo_fetchIt_98 zki_1 <| zw_goto 103 dMo_fetchIt_99 (by decide) <| (mw_puti (M := M_Mo_fetchIt) (pc := 103) (k := 46) (v := (nI 1)) dMo_fetchIt_103 zp_Mo_fetchIt_241 (Nat.le_of_ble_eq_true rfl) mz_46 hn hfit kk) H0 H hM hm hu
theorem sMo_fetchIt_102 {G : zG} {d : Nat} {ad : Nat → Nat} {μ : zMm} {P : Option Value → zMm → Prop} {st : List Value} {o0 : Option Value} {o1 : Option Value} {o2 : Option Value} {o3 : Option Value} (hn : narrow .boolean (.int (nI 0)) = .int (nI 0)) (hfit : fits .boolean (.int (nI 0)) = true) (kk : mW G d ad M_Mo_fetchIt 106 [o0, o1, o2, o3] st (upd μ.1 46 (nI 0), μ.2) P) : mW G d ad M_Mo_fetchIt 102 [o0, o1, o2, o3] ((.ref (ad 50)) :: st) μ P :=
  fun H0 H hM hm hu => zw_iconst (nI 0) dMo_fetchIt_102 zki_0 <| (mw_puti (M := M_Mo_fetchIt) (pc := 103) (k := 46) (v := (nI 0)) dMo_fetchIt_103 zp_Mo_fetchIt_241 (Nat.le_of_ble_eq_true rfl) mz_46 hn hfit kk) H0 H hM hm hu
theorem sMo_fetchIt_103 {G : zG} {d : Nat} {ad : Nat → Nat} {μ : zMm} {P : Option Value → zMm → Prop} {st : List Value} {o0 : Option Value} {o1 : Option Value} {o2 : Option Value} {o3 : Option Value} {xs0 : Int32} (hn : narrow .boolean (.int xs0) = .int xs0) (hfit : fits .boolean (.int xs0) = true) (kk : mW G d ad M_Mo_fetchIt 106 [o0, o1, o2, o3] st (upd μ.1 46 xs0, μ.2) P) : mW G d ad M_Mo_fetchIt 103 [o0, o1, o2, o3] ((.int xs0) :: (.ref (ad 50)) :: st) μ P :=
  fun H0 H hM hm hu => (mw_puti (M := M_Mo_fetchIt) (pc := 103) (k := 46) (v := xs0) dMo_fetchIt_103 zp_Mo_fetchIt_241 (Nat.le_of_ble_eq_true rfl) mz_46 hn hfit kk) H0 H hM hm hu
theorem sMo_fetchIt_106 {G : zG} {d : Nat} {ad : Nat → Nat} {μ : zMm} {P : Option Value → zMm → Prop} {st : List Value} {o1 : Option Value} {o2 : Option Value} {o3 : Option Value} (kt : (0 ≤ (μ.1 44)) → mW G d ad M_Mo_fetchIt 117 [some (.ref (ad 50)), o1, o2, o3] st μ P) (kf : (¬ 0 ≤ (μ.1 44)) → mW G d ad M_Mo_fetchIt 113 [some (.ref (ad 50)), o1, o2, o3] st μ P) : mW G d ad M_Mo_fetchIt 106 [some (.ref (ad 50)), o1, o2, o3] st μ P :=
  fun H0 H hM hm hu => zw_aload_n (i := 0) dMo_fetchIt_106 rfl rfl zRf_ref <| zw_getf dMo_fetchIt_107 zf_Mo_238 (hM.fi 44 (Nat.le_of_ble_eq_true rfl) mz_44) <| zw_if_ge 117 dMo_fetchIt_110 (by decide) (fun h => kt h H0 H hM hm hu) (fun h => kf h H0 H hM hm hu)
theorem sMo_fetchIt_113 {G : zG} {d : Nat} {ad : Nat → Nat} {μ : zMm} {P : Option Value → zMm → Prop} {st : List Value} {o1 : Option Value} {o2 : Option Value} {o3 : Option Value} {P2 : zMm → Prop} (hd : 1 ≤ d) (hl : st.length ≤ 4) (hc : mC G (d - 1) ad M_Mo_ask [(.ref (ad 50))] μ (mPv P2)) (kk : ∀ μ1 : zMm, P2 μ1 → mW G d ad M_Mo_fetchIt 117 [some (.ref (ad 50)), o1, o2, o3] st μ1 P) : mW G d ad M_Mo_fetchIt 113 [some (.ref (ad 50)), o1, o2, o3] st μ P :=
  fun H0 H hM hm hu => zw_aload_n (i := 0) dMo_fetchIt_113 rfl rfl zRf_ref <| zw_callV [] _ dMo_fetchIt_114 hd zk_Mo_244 hM.is rfl rfl hl (hc H hM) (mPv_k kk hm hu)
theorem sMo_fetchIt_117 {G : zG} {d : Nat} {ad : Nat → Nat} {μ : zMm} {P : Option Value → zMm → Prop} {st : List Value} {o1 : Option Value} {o2 : Option Value} {o3 : Option Value} (kt : ((μ.1 44) < 0) → mW G d ad M_Mo_fetchIt 140 [some (.ref (ad 50)), o1, o2, o3] st μ P) (kf : (¬ (μ.1 44) < 0) → mW G d ad M_Mo_fetchIt 124 [some (.ref (ad 50)), o1, o2, o3] st μ P) : mW G d ad M_Mo_fetchIt 117 [some (.ref (ad 50)), o1, o2, o3] st μ P :=
  fun H0 H hM hm hu => zw_aload_n (i := 0) dMo_fetchIt_117 rfl rfl zRf_ref <| zw_getf dMo_fetchIt_118 zf_Mo_238 (hM.fi 44 (Nat.le_of_ble_eq_true rfl) mz_44) <| zw_if_lt 140 dMo_fetchIt_121 (by decide) (fun h => kt h H0 H hM hm hu) (fun h => kf h H0 H hM hm hu)
theorem sMo_fetchIt_124 {G : zG} {d : Nat} {ad : Nat → Nat} {μ : zMm} {P : Option Value → zMm → Prop} {st : List Value} {o1 : Option Value} {o2 : Option Value} {o3 : Option Value} {i1 : Nat} (hx1 : (μ.1 44) = nI i1) (hi1 : i1 < mLn 23) (kt : ((μ.2 23 i1) = 0) → mW G d ad M_Mo_fetchIt 140 [some (.ref (ad 50)), o1, o2, o3] st μ P) (kf : (¬ (μ.2 23 i1) = 0) → mW G d ad M_Mo_fetchIt 136 [some (.ref (ad 50)), o1, o2, o3] st μ P) : mW G d ad M_Mo_fetchIt 124 [some (.ref (ad 50)), o1, o2, o3] st μ P :=
  fun H0 H hM hm hu => zw_aload_n (i := 0) dMo_fetchIt_124 rfl rfl zRf_ref <| zw_getf dMo_fetchIt_125 zf_Mo_189 (hM.fa 23 (Nat.le_of_ble_eq_true rfl) mn_23) <| zw_aload_n (i := 0) dMo_fetchIt_128 rfl rfl zRf_ref <| zw_getf dMo_fetchIt_129 zf_Mo_238 (hM.fi 44 (Nat.le_of_ble_eq_true rfl) mz_44) <| zw_zaldN (g := μ.2 23) dMo_fetchIt_132 (hM.az mk_23) hx1 hi1 (mLn_le _) <| zw_if_eq 140 dMo_fetchIt_133 (by decide) (fun h => kt h H0 H hM hm hu) (fun h => kf h H0 H hM hm hu)
theorem sMo_fetchIt_136 {G : zG} {d : Nat} {ad : Nat → Nat} {μ : zMm} {P : Option Value → zMm → Prop} {st : List Value} {o0 : Option Value} {o1 : Option Value} {o2 : Option Value} {o3 : Option Value} (kt : ((nI 1) = 0) → mW G d ad M_Mo_fetchIt 158 [o0, some (.int (nI 1)), o2, o3] st μ P) (kf : (¬ (nI 1) = 0) → mW G d ad M_Mo_fetchIt 146 [o0, some (.int (nI 1)), o2, o3] st μ P) : mW G d ad M_Mo_fetchIt 136 [o0, o1, o2, o3] st μ P :=
  fun H0 H hM hm hu => zw_iconst (nI 1) dMo_fetchIt_136 zki_1 <| zw_goto 141 dMo_fetchIt_137 (by decide) <| zw_istore_n (i := 1) dMo_fetchIt_141 rfl (Nat.le_of_ble_eq_true rfl) <| zw_iload_n (i := 1) dMo_fetchIt_142 rfl rfl <| zw_if_eq 158 dMo_fetchIt_143 (by decide) (fun h => kt h H0 H hM hm hu) (fun h => kf h H0 H hM hm hu)
theorem sMo_fetchIt_140 {G : zG} {d : Nat} {ad : Nat → Nat} {μ : zMm} {P : Option Value → zMm → Prop} {st : List Value} {o0 : Option Value} {o1 : Option Value} {o2 : Option Value} {o3 : Option Value} (kt : ((nI 0) = 0) → mW G d ad M_Mo_fetchIt 158 [o0, some (.int (nI 0)), o2, o3] st μ P) (kf : (¬ (nI 0) = 0) → mW G d ad M_Mo_fetchIt 146 [o0, some (.int (nI 0)), o2, o3] st μ P) : mW G d ad M_Mo_fetchIt 140 [o0, o1, o2, o3] st μ P :=
  fun H0 H hM hm hu => zw_iconst (nI 0) dMo_fetchIt_140 zki_0 <| zw_istore_n (i := 1) dMo_fetchIt_141 rfl (Nat.le_of_ble_eq_true rfl) <| zw_iload_n (i := 1) dMo_fetchIt_142 rfl rfl <| zw_if_eq 158 dMo_fetchIt_143 (by decide) (fun h => kt h H0 H hM hm hu) (fun h => kf h H0 H hM hm hu)
theorem sMo_fetchIt_141 {G : zG} {d : Nat} {ad : Nat → Nat} {μ : zMm} {P : Option Value → zMm → Prop} {st : List Value} {o0 : Option Value} {o1 : Option Value} {o2 : Option Value} {o3 : Option Value} {xs0 : Int32} (kt : (xs0 = 0) → mW G d ad M_Mo_fetchIt 158 [o0, some (.int xs0), o2, o3] st μ P) (kf : (¬ xs0 = 0) → mW G d ad M_Mo_fetchIt 146 [o0, some (.int xs0), o2, o3] st μ P) : mW G d ad M_Mo_fetchIt 141 [o0, o1, o2, o3] ((.int xs0) :: st) μ P :=
  fun H0 H hM hm hu => zw_istore_n (i := 1) dMo_fetchIt_141 rfl (Nat.le_of_ble_eq_true rfl) <| zw_iload_n (i := 1) dMo_fetchIt_142 rfl rfl <| zw_if_eq 158 dMo_fetchIt_143 (by decide) (fun h => kt h H0 H hM hm hu) (fun h => kf h H0 H hM hm hu)
theorem sMo_fetchIt_146 {G : zG} {d : Nat} {ad : Nat → Nat} {μ : zMm} {P : Option Value → zMm → Prop} {st : List Value} {o0 : Option Value} {o1 : Option Value} {o3 : Option Value} {x2 : Int32} (kt : (¬ x2 = (nI 5)) → mW G d ad M_Mo_fetchIt 158 [o0, o1, some (.int x2), o3] st μ P) (kf : (x2 = (nI 5)) → mW G d ad M_Mo_fetchIt 151 [o0, o1, some (.int x2), o3] st μ P) : mW G d ad M_Mo_fetchIt 146 [o0, o1, some (.int x2), o3] st μ P :=
  fun H0 H hM hm hu => zw_iload_n (i := 2) dMo_fetchIt_146 rfl rfl <| zw_iconst (nI 5) dMo_fetchIt_147 zki_5 <| zw_icmp_ne 158 dMo_fetchIt_148 (by decide) (fun h => kt h H0 H hM hm hu) (fun h => kf h H0 H hM hm hu)
theorem sMo_fetchIt_151 {G : zG} {d : Nat} {ad : Nat → Nat} {μ : zMm} {P : Option Value → zMm → Prop} {st : List Value} {o1 : Option Value} {o2 : Option Value} {o3 : Option Value} (kk : mW G d ad M_Mo_fetchIt 156 [some (.ref (ad 50)), o1, o2, o3] st (upd μ.1 44 (-1 : Int32), μ.2) P) : mW G d ad M_Mo_fetchIt 151 [some (.ref (ad 50)), o1, o2, o3] st μ P :=
  fun H0 H hM hm hu => zw_aload_n (i := 0) dMo_fetchIt_151 rfl rfl zRf_ref <| zw_iconst (-1 : Int32) dMo_fetchIt_152 zki_m1 <| (mw_puti (M := M_Mo_fetchIt) (pc := 153) (k := 44) (v := (-1 : Int32)) dMo_fetchIt_153 zp_Mo_fetchIt_238 (Nat.le_of_ble_eq_true rfl) mz_44 rfl rfl kk) H0 H hM hm hu
theorem sMo_fetchIt_156 {G : zG} {d : Nat} {ad : Nat → Nat} {μ : zMm} {P : Option Value → zMm → Prop} {st : List Value} {o0 : Option Value} {o1 : Option Value} {o2 : Option Value} {o3 : Option Value} (kt : ((nI 0) = 0) → mW G d ad M_Mo_fetchIt 196 [o0, some (.int (nI 0)), o2, o3] st μ P) (kf : (¬ (nI 0) = 0) → mW G d ad M_Mo_fetchIt 162 [o0, some (.int (nI 0)), o2, o3] st μ P) : mW G d ad M_Mo_fetchIt 156 [o0, o1, o2, o3] st μ P :=
  fun H0 H hM hm hu => zw_iconst (nI 0) dMo_fetchIt_156 zki_0 <| zw_istore_n (i := 1) dMo_fetchIt_157 rfl (Nat.le_of_ble_eq_true rfl) <| zw_iload_n (i := 1) dMo_fetchIt_158 rfl rfl <| zw_if_eq 196 dMo_fetchIt_159 (by decide) (fun h => kt h H0 H hM hm hu) (fun h => kf h H0 H hM hm hu)
theorem sMo_fetchIt_158 {G : zG} {d : Nat} {ad : Nat → Nat} {μ : zMm} {P : Option Value → zMm → Prop} {st : List Value} {o0 : Option Value} {o2 : Option Value} {o3 : Option Value} {x1 : Int32} (kt : (x1 = 0) → mW G d ad M_Mo_fetchIt 196 [o0, some (.int x1), o2, o3] st μ P) (kf : (¬ x1 = 0) → mW G d ad M_Mo_fetchIt 162 [o0, some (.int x1), o2, o3] st μ P) : mW G d ad M_Mo_fetchIt 158 [o0, some (.int x1), o2, o3] st μ P :=
  fun H0 H hM hm hu => zw_iload_n (i := 1) dMo_fetchIt_158 rfl rfl <| zw_if_eq 196 dMo_fetchIt_159 (by decide) (fun h => kt h H0 H hM hm hu) (fun h => kf h H0 H hM hm hu)
theorem sMo_fetchIt_162 {G : zG} {d : Nat} {ad : Nat → Nat} {μ : zMm} {P : Option Value → zMm → Prop} {st : List Value} {o1 : Option Value} {o2 : Option Value} {o3 : Option Value} (kt : ((nI 12) ≤ (μ.1 44)) → mW G d ad M_Mo_fetchIt 183 [some (.ref (ad 50)), o1, o2, o3] ((.int (nI 4)) :: (.ref (ad 50)) :: st) μ P) (kf : (¬ (nI 12) ≤ (μ.1 44)) → mW G d ad M_Mo_fetchIt 173 [some (.ref (ad 50)), o1, o2, o3] ((.int (nI 4)) :: (.ref (ad 50)) :: st) μ P) : mW G d ad M_Mo_fetchIt 162 [some (.ref (ad 50)), o1, o2, o3] st μ P :=
  fun H0 H hM hm hu => zw_aload_n (i := 0) dMo_fetchIt_162 rfl rfl zRf_ref <| zw_iconst (nI 4) dMo_fetchIt_163 zki_4 <| zw_aload_n (i := 0) dMo_fetchIt_164 rfl rfl zRf_ref <| zw_getf dMo_fetchIt_165 zf_Mo_238 (hM.fi 44 (Nat.le_of_ble_eq_true rfl) mz_44) <| zw_bipush (nI 12) dMo_fetchIt_168 zkb_12 <| zw_icmp_ge 183 dMo_fetchIt_170 (by decide) (fun h => kt h H0 H hM hm hu) (fun h => kf h H0 H hM hm hu)
theorem sMo_fetchIt_173 {G : zG} {d : Nat} {ad : Nat → Nat} {μ : zMm} {P : Option Value → zMm → Prop} {st : List Value} {o1 : Option Value} {o2 : Option Value} {o3 : Option Value} {xs0 : Int32} {P2 : zMm → Prop} (hd : 1 ≤ d) (hl : st.length ≤ 4) (hc : mC G (d - 1) ad M_Mo_copyRow [(.ref (ad 50)), (.int xs0), (.int ((nI 46) + (μ.1 44)))] μ (mPv P2)) (kk : ∀ μ1 : zMm, P2 μ1 → mW G d ad M_Mo_fetchIt 196 [some (.ref (ad 50)), o1, o2, o3] st μ1 P) : mW G d ad M_Mo_fetchIt 173 [some (.ref (ad 50)), o1, o2, o3] ((.int xs0) :: (.ref (ad 50)) :: st) μ P :=
  fun H0 H hM hm hu => zw_bipush (nI 46) dMo_fetchIt_173 zkb_46 <| zw_aload_n (i := 0) dMo_fetchIt_175 rfl rfl zRf_ref <| zw_getf dMo_fetchIt_176 zf_Mo_238 (hM.fi 44 (Nat.le_of_ble_eq_true rfl) mz_44) <| zw_iadd dMo_fetchIt_179 <| zw_goto 193 dMo_fetchIt_180 (by decide) <| zw_callV [(.int xs0), (.int ((nI 46) + (μ.1 44)))] _ dMo_fetchIt_193 hd zk_Mo_148 hM.is rfl rfl hl (hc H hM) (mPv_k kk hm hu)
theorem sMo_fetchIt_183 {G : zG} {d : Nat} {ad : Nat → Nat} {μ : zMm} {P : Option Value → zMm → Prop} {st : List Value} {o1 : Option Value} {o2 : Option Value} {o3 : Option Value} {xs0 : Int32} {P2 : zMm → Prop} (hd : 1 ≤ d) (hl : st.length ≤ 4) (hc : mC G (d - 1) ad M_Mo_copyRow [(.ref (ad 50)), (.int xs0), (.int (((nI 58) + (μ.1 44)) - (nI 12)))] μ (mPv P2)) (kk : ∀ μ1 : zMm, P2 μ1 → mW G d ad M_Mo_fetchIt 196 [some (.ref (ad 50)), o1, o2, o3] st μ1 P) : mW G d ad M_Mo_fetchIt 183 [some (.ref (ad 50)), o1, o2, o3] ((.int xs0) :: (.ref (ad 50)) :: st) μ P :=
  fun H0 H hM hm hu => zw_bipush (nI 58) dMo_fetchIt_183 zkb_58 <| zw_aload_n (i := 0) dMo_fetchIt_185 rfl rfl zRf_ref <| zw_getf dMo_fetchIt_186 zf_Mo_238 (hM.fi 44 (Nat.le_of_ble_eq_true rfl) mz_44) <| zw_iadd dMo_fetchIt_189 <| zw_bipush (nI 12) dMo_fetchIt_190 zkb_12 <| zw_isub dMo_fetchIt_192 <| zw_callV [(.int xs0), (.int (((nI 58) + (μ.1 44)) - (nI 12)))] _ dMo_fetchIt_193 hd zk_Mo_148 hM.is rfl rfl hl (hc H hM) (mPv_k kk hm hu)
theorem sMo_fetchIt_193 {G : zG} {d : Nat} {ad : Nat → Nat} {μ : zMm} {P : Option Value → zMm → Prop} {st : List Value} {o0 : Option Value} {o1 : Option Value} {o2 : Option Value} {o3 : Option Value} {xs0 : Int32} {xs1 : Int32} {P2 : zMm → Prop} (hd : 1 ≤ d) (hl : st.length ≤ 4) (hc : mC G (d - 1) ad M_Mo_copyRow [(.ref (ad 50)), (.int xs1), (.int xs0)] μ (mPv P2)) (kk : ∀ μ1 : zMm, P2 μ1 → mW G d ad M_Mo_fetchIt 196 [o0, o1, o2, o3] st μ1 P) : mW G d ad M_Mo_fetchIt 193 [o0, o1, o2, o3] ((.int xs0) :: (.int xs1) :: (.ref (ad 50)) :: st) μ P :=
  fun H0 H hM hm hu => zw_callV [(.int xs1), (.int xs0)] _ dMo_fetchIt_193 hd zk_Mo_148 hM.is rfl rfl hl (hc H hM) (mPv_k kk hm hu)
theorem sMo_fetchIt_196 {G : zG} {d : Nat} {ad : Nat → Nat} {μ : zMm} {P : Option Value → zMm → Prop} {st : List Value} {o0 : Option Value} {o1 : Option Value} {o3 : Option Value} {x2 : Int32} (kk : mW G d ad M_Mo_fetchIt 22 [o0, o1, some (.int (x2 + (nI 1))), o3] st μ P) : mW G d ad M_Mo_fetchIt 196 [o0, o1, some (.int x2), o3] st μ P :=
  fun H0 H hM hm hu => zw_iinc (i := 2) (x2 + (nI 1)) dMo_fetchIt_196 rfl (congrArg (fun z => x2 + z) zki_1) <| zw_goto 22 dMo_fetchIt_199 (by decide) <| kk H0 H hM hm hu
theorem sMo_fetchIt_202 {G : zG} {d : Nat} {ad : Nat → Nat} {μ : zMm} {P : Option Value → zMm → Prop} {o0 : Option Value} {o1 : Option Value} {o2 : Option Value} {o3 : Option Value} (hq : P none μ) : mW G d ad M_Mo_fetchIt 202 [o0, o1, o2, o3] [] μ P :=
  fun H0 H hM hm hu => zw_vret dMo_fetchIt_202 rfl ⟨μ, hq, hM, hm, hu⟩
theorem sMo_ask_0 {G : zG} {d : Nat} {ad : Nat → Nat} {μ : zMm} {P : Option Value → zMm → Prop} {st : List Value} {o1 : Option Value} (kk : mW G d ad M_Mo_ask 10 [some (.ref (ad 50)), o1] st (upd μ.1 35 ((μ.1 35) + (nI 1)), μ.2) P) : mW G d ad M_Mo_ask 0 [some (.ref (ad 50)), o1] st μ P :=
  fun H0 H hM hm hu => zw_aload_n (i := 0) dMo_ask_0 rfl rfl zRf_ref <| zw_dup dMo_ask_1 rfl <| zw_getf dMo_ask_2 zf_Mo_248 (hM.fi 35 (Nat.le_of_ble_eq_true rfl) mz_35) <| zw_iconst (nI 1) dMo_ask_5 zki_1 <| zw_iadd dMo_ask_6 <| (mw_puti (M := M_Mo_ask) (pc := 7) (k := 35) (v := ((μ.1 35) + (nI 1))) dMo_ask_7 zp_Mo_ask_248 (Nat.le_of_ble_eq_true rfl) mz_35 rfl rfl kk) H0 H hM hm hu
theorem sMo_ask_10 {G : zG} {d : Nat} {ad : Nat → Nat} {μ : zMm} {P : Option Value → zMm → Prop} {st : List Value} {o1 : Option Value} {P2 : zMm → Prop} (hd : 1 ≤ d) (hl : st.length ≤ 4) (hc : mC G (d - 1) ad M_Mo_copyRow [(.ref (ad 50)), (.int (nI 2)), (.int (nI 4))] μ (mPv P2)) (kk : ∀ μ1 : zMm, P2 μ1 → mW G d ad M_Mo_ask 16 [some (.ref (ad 50)), o1] st μ1 P) : mW G d ad M_Mo_ask 10 [some (.ref (ad 50)), o1] st μ P :=
  fun H0 H hM hm hu => zw_aload_n (i := 0) dMo_ask_10 rfl rfl zRf_ref <| zw_iconst (nI 2) dMo_ask_11 zki_2 <| zw_iconst (nI 4) dMo_ask_12 zki_4 <| zw_callV [(.int (nI 2)), (.int (nI 4))] _ dMo_ask_13 hd zk_Mo_148 hM.is rfl rfl hl (hc H hM) (mPv_k kk hm hu)
theorem sMo_ask_16 {G : zG} {d : Nat} {ad : Nat → Nat} {μ : zMm} {P : Option Value → zMm → Prop} {st : List Value} {o1 : Option Value} {P2 : zMm → Prop} (hd : 1 ≤ d) (hl : st.length ≤ 4) (hc : mC G (d - 1) ad M_Mo_tellCookies [(.ref (ad 50))] μ (mPv P2)) (kk : ∀ μ1 : zMm, P2 μ1 → mW G d ad M_Mo_ask 20 [some (.ref (ad 50)), o1] st μ1 P) : mW G d ad M_Mo_ask 16 [some (.ref (ad 50)), o1] st μ P :=
  fun H0 H hM hm hu => zw_aload_n (i := 0) dMo_ask_16 rfl rfl zRf_ref <| zw_callV [] _ dMo_ask_17 hd zk_Mo_251 hM.is rfl rfl hl (hc H hM) (mPv_k kk hm hu)
theorem sMo_ask_20 {G : zG} {d : Nat} {ad : Nat → Nat} {μ : zMm} {P : Option Value → zMm → Prop} {st : List Value} {o0 : Option Value} {o1 : Option Value} (kk : mW G d ad M_Mo_ask 22 [o0, some (.int (nI 0))] st μ P) : mW G d ad M_Mo_ask 20 [o0, o1] st μ P :=
  fun H0 H hM hm hu => zw_iconst (nI 0) dMo_ask_20 zki_0 <| zw_istore_n (i := 1) dMo_ask_21 rfl (Nat.le_of_ble_eq_true rfl) <| kk H0 H hM hm hu
theorem sMo_ask_22 {G : zG} {d : Nat} {ad : Nat → Nat} {μ : zMm} {P : Option Value → zMm → Prop} {st : List Value} {x1 : Int32} (kt : ((μ.1 16) ≤ x1) → mW G d ad M_Mo_ask 53 [some (.ref (ad 50)), some (.int x1)] st μ P) (kf : (¬ (μ.1 16) ≤ x1) → mW G d ad M_Mo_ask 30 [some (.ref (ad 50)), some (.int x1)] st μ P) : mW G d ad M_Mo_ask 22 [some (.ref (ad 50)), some (.int x1)] st μ P :=
  fun H0 H hM hm hu => zw_iload_n (i := 1) dMo_ask_22 rfl rfl <| zw_aload_n (i := 0) dMo_ask_23 rfl rfl zRf_ref <| zw_getf dMo_ask_24 zf_Mo_165 (hM.fi 16 (Nat.le_of_ble_eq_true rfl) mz_16) <| zw_icmp_ge 53 dMo_ask_27 (by decide) (fun h => kt h H0 H hM hm hu) (fun h => kf h H0 H hM hm hu)
theorem sMo_ask_30 {G : zG} {d : Nat} {ad : Nat → Nat} {μ : zMm} {P : Option Value → zMm → Prop} {st : List Value} {x1 : Int32} {P2 : Int32 → zMm → Prop} (hd : 1 ≤ d) (hl : st.length ≤ 4) (hc : mC G (d - 1) ad M_Mo_alike [(.ref (ad 50)), (.int ((nI 6) + x1)), (.int (nI 4))] μ (mPi P2)) (kk : ∀ (r : Int32) (μ1 : zMm), P2 r μ1 → mW G d ad M_Mo_ask 39 [some (.ref (ad 50)), some (.int x1)] ((.int r) :: st) μ1 P) : mW G d ad M_Mo_ask 30 [some (.ref (ad 50)), some (.int x1)] st μ P :=
  fun H0 H hM hm hu => zw_aload_n (i := 0) dMo_ask_30 rfl rfl zRf_ref <| zw_bipush (nI 6) dMo_ask_31 zkb_6 <| zw_iload_n (i := 1) dMo_ask_33 rfl rfl <| zw_iadd dMo_ask_34 <| zw_iconst (nI 4) dMo_ask_35 zki_4 <| zw_callV [(.int ((nI 6) + x1)), (.int (nI 4))] _ dMo_ask_36 hd zk_Mo_168 hM.is rfl rfl hl (hc H hM) (mPi_k kk hm hu)
theorem sMo_ask_39 {G : zG} {d : Nat} {ad : Nat → Nat} {μ : zMm} {P : Option Value → zMm → Prop} {st : List Value} {o0 : Option Value} {o1 : Option Value} {xs0 : Int32} (kt : (xs0 = 0) → mW G d ad M_Mo_ask 47 [o0, o1] st μ P) (kf : (¬ xs0 = 0) → mW G d ad M_Mo_ask 42 [o0, o1] st μ P) : mW G d ad M_Mo_ask 39 [o0, o1] ((.int xs0) :: st) μ P :=
  fun H0 H hM hm hu => zw_if_eq 47 dMo_ask_39 (by decide) (fun h => kt h H0 H hM hm hu) (fun h => kf h H0 H hM hm hu)
theorem sMo_ask_42 {G : zG} {d : Nat} {ad : Nat → Nat} {μ : zMm} {P : Option Value → zMm → Prop} {st : List Value} {x1 : Int32} (kk : mW G d ad M_Mo_ask 47 [some (.ref (ad 50)), some (.int x1)] st (upd μ.1 44 x1, μ.2) P) : mW G d ad M_Mo_ask 42 [some (.ref (ad 50)), some (.int x1)] st μ P :=
  fun H0 H hM hm hu => zw_aload_n (i := 0) dMo_ask_42 rfl rfl zRf_ref <| zw_iload_n (i := 1) dMo_ask_43 rfl rfl <| (mw_puti (M := M_Mo_ask) (pc := 44) (k := 44) (v := x1) dMo_ask_44 zp_Mo_ask_238 (Nat.le_of_ble_eq_true rfl) mz_44 rfl rfl kk) H0 H hM hm hu
theorem sMo_ask_47 {G : zG} {d : Nat} {ad : Nat → Nat} {μ : zMm} {P : Option Value → zMm → Prop} {st : List Value} {o0 : Option Value} {x1 : Int32} (kk : mW G d ad M_Mo_ask 22 [o0, some (.int (x1 + (nI 1)))] st μ P) : mW G d ad M_Mo_ask 47 [o0, some (.int x1)] st μ P :=
  fun H0 H hM hm hu => zw_iinc (i := 1) (x1 + (nI 1)) dMo_ask_47 rfl (congrArg (fun z => x1 + z) zki_1) <| zw_goto 22 dMo_ask_50 (by decide) <| kk H0 H hM hm hu
theorem sMo_ask_53 {G : zG} {d : Nat} {ad : Nat → Nat} {μ : zMm} {P : Option Value → zMm → Prop} {st : List Value} {o1 : Option Value} (kt : (0 ≤ (μ.1 44)) → mW G d ad M_Mo_ask 61 [some (.ref (ad 50)), o1] st μ P) (kf : (¬ 0 ≤ (μ.1 44)) → mW G d ad M_Mo_ask 60 [some (.ref (ad 50)), o1] st μ P) : mW G d ad M_Mo_ask 53 [some (.ref (ad 50)), o1] st μ P :=
  fun H0 H hM hm hu => zw_aload_n (i := 0) dMo_ask_53 rfl rfl zRf_ref <| zw_getf dMo_ask_54 zf_Mo_238 (hM.fi 44 (Nat.le_of_ble_eq_true rfl) mz_44) <| zw_if_ge 61 dMo_ask_57 (by decide) (fun h => kt h H0 H hM hm hu) (fun h => kf h H0 H hM hm hu)
theorem sMo_ask_60 {G : zG} {d : Nat} {ad : Nat → Nat} {μ : zMm} {P : Option Value → zMm → Prop} {o0 : Option Value} {o1 : Option Value} (hq : P none μ) : mW G d ad M_Mo_ask 60 [o0, o1] [] μ P :=
  fun H0 H hM hm hu => zw_vret dMo_ask_60 rfl ⟨μ, hq, hM, hm, hu⟩
theorem sMo_ask_61 {G : zG} {d : Nat} {ad : Nat → Nat} {μ : zMm} {P : Option Value → zMm → Prop} {st : List Value} {o1 : Option Value} {i1 : Nat} (hx1 : (μ.1 44) = nI i1) (hi1 : i1 < mLn 21) (kt : ((μ.2 21 i1) ≤ 0) → mW G d ad M_Mo_ask 81 [some (.ref (ad 50)), o1] st μ P) (kf : (¬ (μ.2 21 i1) ≤ 0) → mW G d ad M_Mo_ask 73 [some (.ref (ad 50)), o1] st μ P) : mW G d ad M_Mo_ask 61 [some (.ref (ad 50)), o1] st μ P :=
  fun H0 H hM hm hu => zw_aload_n (i := 0) dMo_ask_61 rfl rfl zRf_ref <| zw_getf dMo_ask_62 zf_Mo_180 (hM.fa 21 (Nat.le_of_ble_eq_true rfl) mn_21) <| zw_aload_n (i := 0) dMo_ask_65 rfl rfl zRf_ref <| zw_getf dMo_ask_66 zf_Mo_238 (hM.fi 44 (Nat.le_of_ble_eq_true rfl) mz_44) <| zw_ialdN (g := μ.2 21) dMo_ask_69 (hM.ai mk_21) hx1 hi1 (mLn_le _) <| zw_if_le 81 dMo_ask_70 (by decide) (fun h => kt h H0 H hM hm hu) (fun h => kf h H0 H hM hm hu)
theorem sMo_ask_73 {G : zG} {d : Nat} {ad : Nat → Nat} {μ : zMm} {P : Option Value → zMm → Prop} {st : List Value} {o1 : Option Value} {P2 : zMm → Prop} (hd : 1 ≤ d) (hl : st.length ≤ 4) (hc : mC G (d - 1) ad M_Mo_dropCookie [(.ref (ad 50)), (.int (μ.1 44))] μ (mPv P2)) (kk : ∀ μ1 : zMm, P2 μ1 → mW G d ad M_Mo_ask 81 [some (.ref (ad 50)), o1] st μ1 P) : mW G d ad M_Mo_ask 73 [some (.ref (ad 50)), o1] st μ P :=
  fun H0 H hM hm hu => zw_aload_n (i := 0) dMo_ask_73 rfl rfl zRf_ref <| zw_aload_n (i := 0) dMo_ask_74 rfl rfl zRf_ref <| zw_getf dMo_ask_75 zf_Mo_238 (hM.fi 44 (Nat.le_of_ble_eq_true rfl) mz_44) <| zw_callV [(.int (μ.1 44))] _ dMo_ask_78 hd zk_Mo_254 hM.is rfl rfl hl (hc H hM) (mPv_k kk hm hu)
theorem sMo_ask_81 {G : zG} {d : Nat} {ad : Nat → Nat} {μ : zMm} {P : Option Value → zMm → Prop} {st : List Value} {o1 : Option Value} {i1 : Nat} (hx1 : (μ.1 44) = nI i1) (hi1 : i1 < mLn 19) (kt : ((μ.2 19 i1) ≤ 0) → mW G d ad M_Mo_ask 101 [some (.ref (ad 50)), o1] st μ P) (kf : (¬ (μ.2 19 i1) ≤ 0) → mW G d ad M_Mo_ask 93 [some (.ref (ad 50)), o1] st μ P) : mW G d ad M_Mo_ask 81 [some (.ref (ad 50)), o1] st μ P :=
  fun H0 H hM hm hu => zw_aload_n (i := 0) dMo_ask_81 rfl rfl zRf_ref <| zw_getf dMo_ask_82 zf_Mo_177 (hM.fa 19 (Nat.le_of_ble_eq_true rfl) mn_19) <| zw_aload_n (i := 0) dMo_ask_85 rfl rfl zRf_ref <| zw_getf dMo_ask_86 zf_Mo_238 (hM.fi 44 (Nat.le_of_ble_eq_true rfl) mz_44) <| zw_ialdN (g := μ.2 19) dMo_ask_89 (hM.ai mk_19) hx1 hi1 (mLn_le _) <| zw_if_le 101 dMo_ask_90 (by decide) (fun h => kt h H0 H hM hm hu) (fun h => kf h H0 H hM hm hu)
theorem sMo_ask_93 {G : zG} {d : Nat} {ad : Nat → Nat} {μ : zMm} {P : Option Value → zMm → Prop} {st : List Value} {o1 : Option Value} {P2 : zMm → Prop} (hd : 1 ≤ d) (hl : st.length ≤ 4) (hc : mC G (d - 1) ad M_Mo_keep [(.ref (ad 50)), (.int (μ.1 44))] μ (mPv P2)) (kk : ∀ μ1 : zMm, P2 μ1 → mW G d ad M_Mo_ask 101 [some (.ref (ad 50)), o1] st μ1 P) : mW G d ad M_Mo_ask 93 [some (.ref (ad 50)), o1] st μ P :=
  fun H0 H hM hm hu => zw_aload_n (i := 0) dMo_ask_93 rfl rfl zRf_ref <| zw_aload_n (i := 0) dMo_ask_94 rfl rfl zRf_ref <| zw_getf dMo_ask_95 zf_Mo_238 (hM.fi 44 (Nat.le_of_ble_eq_true rfl) mz_44) <| zw_callV [(.int (μ.1 44))] _ dMo_ask_98 hd zk_Mo_257 hM.is rfl rfl hl (hc H hM) (mPv_k kk hm hu)
theorem sMo_ask_101 {G : zG} {d : Nat} {ad : Nat → Nat} {μ : zMm} {P : Option Value → zMm → Prop} {o0 : Option Value} {o1 : Option Value} (hq : P none μ) : mW G d ad M_Mo_ask 101 [o0, o1] [] μ P :=
  fun H0 H hM hm hu => zw_vret dMo_ask_101 rfl ⟨μ, hq, hM, hm, hu⟩
theorem sMo_tellCookies_0 {G : zG} {d : Nat} {ad : Nat → Nat} {μ : zMm} {P : Option Value → zMm → Prop} {st : List Value} {o1 : Option Value} {o2 : Option Value} {o3 : Option Value} (kk : mW G d ad M_Mo_tellCookies 5 [some (.ref (ad 50)), o1, o2, o3] st (upd μ.1 37 (nI 0), μ.2) P) : mW G d ad M_Mo_tellCookies 0 [some (.ref (ad 50)), o1, o2, o3] st μ P :=
  fun H0 H hM hm hu => zw_aload_n (i := 0) dMo_tellCookies_0 rfl rfl zRf_ref <| zw_iconst (nI 0) dMo_tellCookies_1 zki_0 <| (mw_puti (M := M_Mo_tellCookies) (pc := 2) (k := 37) (v := (nI 0)) dMo_tellCookies_2 zp_Mo_tellCookies_214 (Nat.le_of_ble_eq_true rfl) mz_37 rfl rfl kk) H0 H hM hm hu
theorem sMo_tellCookies_5 {G : zG} {d : Nat} {ad : Nat → Nat} {μ : zMm} {P : Option Value → zMm → Prop} {st : List Value} {o1 : Option Value} {o2 : Option Value} {o3 : Option Value} {P2 : Int32 → zMm → Prop} (hd : 1 ≤ d) (hl : st.length ≤ 4) (hc : mC G (d - 1) ad M_Mo_siteEnd [(.ref (ad 50)), (.int (nI 4))] μ (mPi P2)) (kk : ∀ (r : Int32) (μ1 : zMm), P2 r μ1 → mW G d ad M_Mo_tellCookies 10 [some (.ref (ad 50)), o1, o2, o3] ((.int r) :: st) μ1 P) : mW G d ad M_Mo_tellCookies 5 [some (.ref (ad 50)), o1, o2, o3] st μ P :=
  fun H0 H hM hm hu => zw_aload_n (i := 0) dMo_tellCookies_5 rfl rfl zRf_ref <| zw_iconst (nI 4) dMo_tellCookies_6 zki_4 <| zw_callV [(.int (nI 4))] _ dMo_tellCookies_7 hd zk_Mo_50 hM.is rfl rfl hl (hc H hM) (mPi_k kk hm hu)
theorem sMo_tellCookies_10 {G : zG} {d : Nat} {ad : Nat → Nat} {μ : zMm} {P : Option Value → zMm → Prop} {st : List Value} {o0 : Option Value} {o1 : Option Value} {o2 : Option Value} {o3 : Option Value} {xs0 : Int32} (kk : mW G d ad M_Mo_tellCookies 15 [o0, some (.int (xs0 - (nI 2))), some (.int (nI 0)), o3] st μ P) : mW G d ad M_Mo_tellCookies 10 [o0, o1, o2, o3] ((.int xs0) :: st) μ P :=
  fun H0 H hM hm hu => zw_iconst (nI 2) dMo_tellCookies_10 zki_2 <| zw_isub dMo_tellCookies_11 <| zw_istore_n (i := 1) dMo_tellCookies_12 rfl (Nat.le_of_ble_eq_true rfl) <| zw_iconst (nI 0) dMo_tellCookies_13 zki_0 <| zw_istore_n (i := 2) dMo_tellCookies_14 rfl (Nat.le_of_ble_eq_true rfl) <| kk H0 H hM hm hu
theorem sMo_tellCookies_15 {G : zG} {d : Nat} {ad : Nat → Nat} {μ : zMm} {P : Option Value → zMm → Prop} {st : List Value} {o1 : Option Value} {o3 : Option Value} {x2 : Int32} (kt : ((μ.1 30) ≤ x2) → mW G d ad M_Mo_tellCookies 155 [some (.ref (ad 50)), o1, some (.int x2), o3] st μ P) (kf : (¬ (μ.1 30) ≤ x2) → mW G d ad M_Mo_tellCookies 23 [some (.ref (ad 50)), o1, some (.int x2), o3] st μ P) : mW G d ad M_Mo_tellCookies 15 [some (.ref (ad 50)), o1, some (.int x2), o3] st μ P :=
  fun H0 H hM hm hu => zw_iload_n (i := 2) dMo_tellCookies_15 rfl rfl <| zw_aload_n (i := 0) dMo_tellCookies_16 rfl rfl zRf_ref <| zw_getf dMo_tellCookies_17 zf_Mo_196 (hM.fi 30 (Nat.le_of_ble_eq_true rfl) mz_30) <| zw_icmp_ge 155 dMo_tellCookies_20 (by decide) (fun h => kt h H0 H hM hm hu) (fun h => kf h H0 H hM hm hu)
theorem sMo_tellCookies_23 {G : zG} {d : Nat} {ad : Nat → Nat} {μ : zMm} {P : Option Value → zMm → Prop} {st : List Value} {o3 : Option Value} {x2 : Int32} {x1 : Int32} {i1 : Nat} (hx1 : x2 = nI i1) (hi1 : i1 < mLn 32) (kt : (¬ (μ.2 32 i1) = x1) → mW G d ad M_Mo_tellCookies 149 [some (.ref (ad 50)), some (.int x1), some (.int x2), o3] st μ P) (kf : ((μ.2 32 i1) = x1) → mW G d ad M_Mo_tellCookies 33 [some (.ref (ad 50)), some (.int x1), some (.int x2), o3] st μ P) : mW G d ad M_Mo_tellCookies 23 [some (.ref (ad 50)), some (.int x1), some (.int x2), o3] st μ P :=
  fun H0 H hM hm hu => zw_aload_n (i := 0) dMo_tellCookies_23 rfl rfl zRf_ref <| zw_getf dMo_tellCookies_24 zf_Mo_199 (hM.fa 32 (Nat.le_of_ble_eq_true rfl) mn_32) <| zw_iload_n (i := 2) dMo_tellCookies_27 rfl rfl <| zw_ialdN (g := μ.2 32) dMo_tellCookies_28 (hM.ai mk_32) hx1 hi1 (mLn_le _) <| zw_iload_n (i := 1) dMo_tellCookies_29 rfl rfl <| zw_icmp_ne 149 dMo_tellCookies_30 (by decide) (fun h => kt h H0 H hM hm hu) (fun h => kf h H0 H hM hm hu)
theorem sMo_tellCookies_33 {G : zG} {d : Nat} {ad : Nat → Nat} {μ : zMm} {P : Option Value → zMm → Prop} {st : List Value} {o3 : Option Value} {x2 : Int32} {x1 : Int32} {P2 : Int32 → zMm → Prop} (hd : 1 ≤ d) (hl : st.length ≤ 4) (hc : mC G (d - 1) ad M_Mo_same [(.ref (ad 31)), (.int ((nI 24) * x2)), (.ref (ad 6)), (.int (nI 602)), (.int x1)] μ (mPi P2)) (kk : ∀ (r : Int32) (μ1 : zMm), P2 r μ1 → mW G d ad M_Mo_tellCookies 52 [some (.ref (ad 50)), some (.int x1), some (.int x2), o3] ((.int r) :: st) μ1 P) : mW G d ad M_Mo_tellCookies 33 [some (.ref (ad 50)), some (.int x1), some (.int x2), o3] st μ P :=
  fun H0 H hM hm hu => zw_aload_n (i := 0) dMo_tellCookies_33 rfl rfl zRf_ref <| zw_getf dMo_tellCookies_34 zf_Mo_202 (hM.fa 31 (Nat.le_of_ble_eq_true rfl) mn_31) <| zw_bipush (nI 24) dMo_tellCookies_37 zkb_24 <| zw_iload_n (i := 2) dMo_tellCookies_39 rfl rfl <| zw_imul dMo_tellCookies_40 <| zw_aload_n (i := 0) dMo_tellCookies_41 rfl rfl zRf_ref <| zw_getf dMo_tellCookies_42 zf_Mo_36 (hM.fa 6 (Nat.le_of_ble_eq_true rfl) mn_6) <| zw_sipush (nI 602) dMo_tellCookies_45 zks_602 <| zw_iload_n (i := 1) dMo_tellCookies_48 rfl rfl <| zw_callS [(.ref (ad 31)), (.int ((nI 24) * x2)), (.ref (ad 6)), (.int (nI 602)), (.int x1)] _ dMo_tellCookies_49 hd zk_Mo_46 rfl rfl hl (hc H hM) (mPi_k kk hm hu)
theorem sMo_tellCookies_52 {G : zG} {d : Nat} {ad : Nat → Nat} {μ : zMm} {P : Option Value → zMm → Prop} {st : List Value} {o0 : Option Value} {o1 : Option Value} {o2 : Option Value} {o3 : Option Value} {xs0 : Int32} (kt : (¬ xs0 = 0) → mW G d ad M_Mo_tellCookies 58 [o0, o1, o2, o3] st μ P) (kf : (xs0 = 0) → mW G d ad M_Mo_tellCookies 55 [o0, o1, o2, o3] st μ P) : mW G d ad M_Mo_tellCookies 52 [o0, o1, o2, o3] ((.int xs0) :: st) μ P :=
  fun H0 H hM hm hu => zw_if_ne 58 dMo_tellCookies_52 (by decide) (fun h => kt h H0 H hM hm hu) (fun h => kf h H0 H hM hm hu)
theorem sMo_tellCookies_55 {G : zG} {d : Nat} {ad : Nat → Nat} {μ : zMm} {P : Option Value → zMm → Prop} {st : List Value} {o0 : Option Value} {o1 : Option Value} {o3 : Option Value} {x2 : Int32} (kk : mW G d ad M_Mo_tellCookies 15 [o0, o1, some (.int (x2 + (nI 1))), o3] st μ P) : mW G d ad M_Mo_tellCookies 55 [o0, o1, some (.int x2), o3] st μ P :=
  fun H0 H hM hm hu => zw_goto 149 dMo_tellCookies_55 (by decide) <| zw_iinc (i := 2) (x2 + (nI 1)) dMo_tellCookies_149 rfl (congrArg (fun z => x2 + z) zki_1) <| zw_goto 15 dMo_tellCookies_152 (by decide) <| kk H0 H hM hm hu
theorem sMo_tellCookies_58 {G : zG} {d : Nat} {ad : Nat → Nat} {μ : zMm} {P : Option Value → zMm → Prop} {st : List Value} {o1 : Option Value} {o2 : Option Value} {o3 : Option Value} (kt : ((μ.1 37) ≤ 0) → mW G d ad M_Mo_tellCookies 71 [some (.ref (ad 50)), o1, o2, o3] st μ P) (kf : (¬ (μ.1 37) ≤ 0) → mW G d ad M_Mo_tellCookies 65 [some (.ref (ad 50)), o1, o2, o3] st μ P) : mW G d ad M_Mo_tellCookies 58 [some (.ref (ad 50)), o1, o2, o3] st μ P :=
  fun H0 H hM hm hu => zw_aload_n (i := 0) dMo_tellCookies_58 rfl rfl zRf_ref <| zw_getf dMo_tellCookies_59 zf_Mo_214 (hM.fi 37 (Nat.le_of_ble_eq_true rfl) mz_37) <| zw_if_le 71 dMo_tellCookies_62 (by decide) (fun h => kt h H0 H hM hm hu) (fun h => kf h H0 H hM hm hu)
theorem sMo_tellCookies_65 {G : zG} {d : Nat} {ad : Nat → Nat} {μ : zMm} {P : Option Value → zMm → Prop} {st : List Value} {o1 : Option Value} {o2 : Option Value} {o3 : Option Value} {P2 : zMm → Prop} (hd : 1 ≤ d) (hl : st.length ≤ 4) (hc : mC G (d - 1) ad M_Mo_send [(.ref (ad 50)), (.int (nI 59))] μ (mPv P2)) (kk : ∀ μ1 : zMm, P2 μ1 → mW G d ad M_Mo_tellCookies 71 [some (.ref (ad 50)), o1, o2, o3] st μ1 P) : mW G d ad M_Mo_tellCookies 65 [some (.ref (ad 50)), o1, o2, o3] st μ P :=
  fun H0 H hM hm hu => zw_aload_n (i := 0) dMo_tellCookies_65 rfl rfl zRf_ref <| zw_bipush (nI 59) dMo_tellCookies_66 zkb_59 <| zw_callV [(.int (nI 59))] _ dMo_tellCookies_68 hd zk_Mo_217 hM.is rfl rfl hl (hc H hM) (mPv_k kk hm hu)
theorem sMo_tellCookies_71 {G : zG} {d : Nat} {ad : Nat → Nat} {μ : zMm} {P : Option Value → zMm → Prop} {st : List Value} {o0 : Option Value} {o1 : Option Value} {o2 : Option Value} {o3 : Option Value} (kk : mW G d ad M_Mo_tellCookies 73 [o0, o1, o2, some (.int (nI 0))] st μ P) : mW G d ad M_Mo_tellCookies 71 [o0, o1, o2, o3] st μ P :=
  fun H0 H hM hm hu => zw_iconst (nI 0) dMo_tellCookies_71 zki_0 <| zw_istore_n (i := 3) dMo_tellCookies_72 rfl (Nat.le_of_ble_eq_true rfl) <| kk H0 H hM hm hu
theorem sMo_tellCookies_73 {G : zG} {d : Nat} {ad : Nat → Nat} {μ : zMm} {P : Option Value → zMm → Prop} {st : List Value} {o1 : Option Value} {x3 : Int32} {x2 : Int32} {i1 : Nat} (hx1 : x2 = nI i1) (hi1 : i1 < mLn 33) (kt : ((μ.2 33 i1) ≤ x3) → mW G d ad M_Mo_tellCookies 107 [some (.ref (ad 50)), o1, some (.int x2), some (.int x3)] st μ P) (kf : (¬ (μ.2 33 i1) ≤ x3) → mW G d ad M_Mo_tellCookies 83 [some (.ref (ad 50)), o1, some (.int x2), some (.int x3)] st μ P) : mW G d ad M_Mo_tellCookies 73 [some (.ref (ad 50)), o1, some (.int x2), some (.int x3)] st μ P :=
  fun H0 H hM hm hu => zw_iload_n (i := 3) dMo_tellCookies_73 rfl rfl <| zw_aload_n (i := 0) dMo_tellCookies_74 rfl rfl zRf_ref <| zw_getf dMo_tellCookies_75 zf_Mo_205 (hM.fa 33 (Nat.le_of_ble_eq_true rfl) mn_33) <| zw_iload_n (i := 2) dMo_tellCookies_78 rfl rfl <| zw_ialdN (g := μ.2 33) dMo_tellCookies_79 (hM.ai mk_33) hx1 hi1 (mLn_le _) <| zw_icmp_ge 107 dMo_tellCookies_80 (by decide) (fun h => kt h H0 H hM hm hu) (fun h => kf h H0 H hM hm hu)
theorem sMo_tellCookies_83 {G : zG} {d : Nat} {ad : Nat → Nat} {μ : zMm} {P : Option Value → zMm → Prop} {st : List Value} {o1 : Option Value} {x2 : Int32} {x3 : Int32} {i1 : Nat} {P2 : zMm → Prop} (hx1 : ((((nI 24) * x2) + (nI 8)) + x3) = nI i1) (hi1 : i1 < mLn 31) (hd : 1 ≤ d) (hl : st.length ≤ 4) (hc : mC G (d - 1) ad M_Mo_send [(.ref (ad 50)), (.int (μ.2 31 i1))] μ (mPv P2)) (kk : ∀ μ1 : zMm, P2 μ1 → mW G d ad M_Mo_tellCookies 101 [some (.ref (ad 50)), o1, some (.int x2), some (.int x3)] st μ1 P) : mW G d ad M_Mo_tellCookies 83 [some (.ref (ad 50)), o1, some (.int x2), some (.int x3)] st μ P :=
  fun H0 H hM hm hu => zw_aload_n (i := 0) dMo_tellCookies_83 rfl rfl zRf_ref <| zw_aload_n (i := 0) dMo_tellCookies_84 rfl rfl zRf_ref <| zw_getf dMo_tellCookies_85 zf_Mo_202 (hM.fa 31 (Nat.le_of_ble_eq_true rfl) mn_31) <| zw_bipush (nI 24) dMo_tellCookies_88 zkb_24 <| zw_iload_n (i := 2) dMo_tellCookies_90 rfl rfl <| zw_imul dMo_tellCookies_91 <| zw_bipush (nI 8) dMo_tellCookies_92 zkb_8 <| zw_iadd dMo_tellCookies_94 <| zw_iload_n (i := 3) dMo_tellCookies_95 rfl rfl <| zw_iadd dMo_tellCookies_96 <| zw_baldN (g := μ.2 31) dMo_tellCookies_97 (hM.ab mk_31) hx1 hi1 (mLn_le _) <| zw_callV [(.int (μ.2 31 i1))] _ dMo_tellCookies_98 hd zk_Mo_217 hM.is rfl rfl hl (hc H hM) (mPv_k kk hm hu)
theorem sMo_tellCookies_101 {G : zG} {d : Nat} {ad : Nat → Nat} {μ : zMm} {P : Option Value → zMm → Prop} {st : List Value} {o0 : Option Value} {o1 : Option Value} {o2 : Option Value} {x3 : Int32} (kk : mW G d ad M_Mo_tellCookies 73 [o0, o1, o2, some (.int (x3 + (nI 1)))] st μ P) : mW G d ad M_Mo_tellCookies 101 [o0, o1, o2, some (.int x3)] st μ P :=
  fun H0 H hM hm hu => zw_iinc (i := 3) (x3 + (nI 1)) dMo_tellCookies_101 rfl (congrArg (fun z => x3 + z) zki_1) <| zw_goto 73 dMo_tellCookies_104 (by decide) <| kk H0 H hM hm hu
theorem sMo_tellCookies_107 {G : zG} {d : Nat} {ad : Nat → Nat} {μ : zMm} {P : Option Value → zMm → Prop} {st : List Value} {o1 : Option Value} {o2 : Option Value} {o3 : Option Value} {P2 : zMm → Prop} (hd : 1 ≤ d) (hl : st.length ≤ 4) (hc : mC G (d - 1) ad M_Mo_send [(.ref (ad 50)), (.int (nI 61))] μ (mPv P2)) (kk : ∀ μ1 : zMm, P2 μ1 → mW G d ad M_Mo_tellCookies 113 [some (.ref (ad 50)), o1, o2, o3] st μ1 P) : mW G d ad M_Mo_tellCookies 107 [some (.ref (ad 50)), o1, o2, o3] st μ P :=
  fun H0 H hM hm hu => zw_aload_n (i := 0) dMo_tellCookies_107 rfl rfl zRf_ref <| zw_bipush (nI 61) dMo_tellCookies_108 zkb_61 <| zw_callV [(.int (nI 61))] _ dMo_tellCookies_110 hd zk_Mo_217 hM.is rfl rfl hl (hc H hM) (mPv_k kk hm hu)
theorem sMo_tellCookies_113 {G : zG} {d : Nat} {ad : Nat → Nat} {μ : zMm} {P : Option Value → zMm → Prop} {st : List Value} {o0 : Option Value} {o1 : Option Value} {o2 : Option Value} {o3 : Option Value} (kk : mW G d ad M_Mo_tellCookies 115 [o0, o1, o2, some (.int (nI 0))] st μ P) : mW G d ad M_Mo_tellCookies 113 [o0, o1, o2, o3] st μ P :=
  fun H0 H hM hm hu => zw_iconst (nI 0) dMo_tellCookies_113 zki_0 <| zw_istore_n (i := 3) dMo_tellCookies_114 rfl (Nat.le_of_ble_eq_true rfl) <| kk H0 H hM hm hu
theorem sMo_tellCookies_115 {G : zG} {d : Nat} {ad : Nat → Nat} {μ : zMm} {P : Option Value → zMm → Prop} {st : List Value} {o1 : Option Value} {x3 : Int32} {x2 : Int32} {i1 : Nat} (hx1 : x2 = nI i1) (hi1 : i1 < mLn 34) (kt : ((μ.2 34 i1) ≤ x3) → mW G d ad M_Mo_tellCookies 149 [some (.ref (ad 50)), o1, some (.int x2), some (.int x3)] st μ P) (kf : (¬ (μ.2 34 i1) ≤ x3) → mW G d ad M_Mo_tellCookies 125 [some (.ref (ad 50)), o1, some (.int x2), some (.int x3)] st μ P) : mW G d ad M_Mo_tellCookies 115 [some (.ref (ad 50)), o1, some (.int x2), some (.int x3)] st μ P :=
  fun H0 H hM hm hu => zw_iload_n (i := 3) dMo_tellCookies_115 rfl rfl <| zw_aload_n (i := 0) dMo_tellCookies_116 rfl rfl zRf_ref <| zw_getf dMo_tellCookies_117 zf_Mo_208 (hM.fa 34 (Nat.le_of_ble_eq_true rfl) mn_34) <| zw_iload_n (i := 2) dMo_tellCookies_120 rfl rfl <| zw_ialdN (g := μ.2 34) dMo_tellCookies_121 (hM.ai mk_34) hx1 hi1 (mLn_le _) <| zw_icmp_ge 149 dMo_tellCookies_122 (by decide) (fun h => kt h H0 H hM hm hu) (fun h => kf h H0 H hM hm hu)
theorem sMo_tellCookies_125 {G : zG} {d : Nat} {ad : Nat → Nat} {μ : zMm} {P : Option Value → zMm → Prop} {st : List Value} {o1 : Option Value} {x2 : Int32} {x3 : Int32} {i1 : Nat} {P2 : zMm → Prop} (hx1 : ((((nI 24) * x2) + (nI 16)) + x3) = nI i1) (hi1 : i1 < mLn 31) (hd : 1 ≤ d) (hl : st.length ≤ 4) (hc : mC G (d - 1) ad M_Mo_send [(.ref (ad 50)), (.int (μ.2 31 i1))] μ (mPv P2)) (kk : ∀ μ1 : zMm, P2 μ1 → mW G d ad M_Mo_tellCookies 143 [some (.ref (ad 50)), o1, some (.int x2), some (.int x3)] st μ1 P) : mW G d ad M_Mo_tellCookies 125 [some (.ref (ad 50)), o1, some (.int x2), some (.int x3)] st μ P :=
  fun H0 H hM hm hu => zw_aload_n (i := 0) dMo_tellCookies_125 rfl rfl zRf_ref <| zw_aload_n (i := 0) dMo_tellCookies_126 rfl rfl zRf_ref <| zw_getf dMo_tellCookies_127 zf_Mo_202 (hM.fa 31 (Nat.le_of_ble_eq_true rfl) mn_31) <| zw_bipush (nI 24) dMo_tellCookies_130 zkb_24 <| zw_iload_n (i := 2) dMo_tellCookies_132 rfl rfl <| zw_imul dMo_tellCookies_133 <| zw_bipush (nI 16) dMo_tellCookies_134 zkb_16 <| zw_iadd dMo_tellCookies_136 <| zw_iload_n (i := 3) dMo_tellCookies_137 rfl rfl <| zw_iadd dMo_tellCookies_138 <| zw_baldN (g := μ.2 31) dMo_tellCookies_139 (hM.ab mk_31) hx1 hi1 (mLn_le _) <| zw_callV [(.int (μ.2 31 i1))] _ dMo_tellCookies_140 hd zk_Mo_217 hM.is rfl rfl hl (hc H hM) (mPv_k kk hm hu)
theorem sMo_tellCookies_143 {G : zG} {d : Nat} {ad : Nat → Nat} {μ : zMm} {P : Option Value → zMm → Prop} {st : List Value} {o0 : Option Value} {o1 : Option Value} {o2 : Option Value} {x3 : Int32} (kk : mW G d ad M_Mo_tellCookies 115 [o0, o1, o2, some (.int (x3 + (nI 1)))] st μ P) : mW G d ad M_Mo_tellCookies 143 [o0, o1, o2, some (.int x3)] st μ P :=
  fun H0 H hM hm hu => zw_iinc (i := 3) (x3 + (nI 1)) dMo_tellCookies_143 rfl (congrArg (fun z => x3 + z) zki_1) <| zw_goto 115 dMo_tellCookies_146 (by decide) <| kk H0 H hM hm hu
theorem sMo_tellCookies_149 {G : zG} {d : Nat} {ad : Nat → Nat} {μ : zMm} {P : Option Value → zMm → Prop} {st : List Value} {o0 : Option Value} {o1 : Option Value} {o3 : Option Value} {x2 : Int32} (kk : mW G d ad M_Mo_tellCookies 15 [o0, o1, some (.int (x2 + (nI 1))), o3] st μ P) : mW G d ad M_Mo_tellCookies 149 [o0, o1, some (.int x2), o3] st μ P :=
  fun H0 H hM hm hu => zw_iinc (i := 2) (x2 + (nI 1)) dMo_tellCookies_149 rfl (congrArg (fun z => x2 + z) zki_1) <| zw_goto 15 dMo_tellCookies_152 (by decide) <| kk H0 H hM hm hu
theorem sMo_tellCookies_155 {G : zG} {d : Nat} {ad : Nat → Nat} {μ : zMm} {P : Option Value → zMm → Prop} {o0 : Option Value} {o1 : Option Value} {o2 : Option Value} {o3 : Option Value} (hq : P none μ) : mW G d ad M_Mo_tellCookies 155 [o0, o1, o2, o3] [] μ P :=
  fun H0 H hM hm hu => zw_vret dMo_tellCookies_155 rfl ⟨μ, hq, hM, hm, hu⟩
theorem sMo_send_0 {G : zG} {d : Nat} {ad : Nat → Nat} {μ : zMm} {P : Option Value → zMm → Prop} {st : List Value} {x1 : Int32} {i : Nat} (hx : (μ.1 37) = nI i) (hi : i < mLn 36) (kk : mW G d ad M_Mo_send 11 [some (.ref (ad 50)), some (.int x1)] st (μ.1, updA μ.2 36 i ((x1).toInt8.toInt32).toInt8.toInt32) P) : mW G d ad M_Mo_send 0 [some (.ref (ad 50)), some (.int x1)] st μ P :=
  fun H0 H hM hm hu => zw_aload_n (i := 0) dMo_send_0 rfl rfl zRf_ref <| zw_getf dMo_send_1 zf_Mo_211 (hM.fa 36 (Nat.le_of_ble_eq_true rfl) mn_36) <| zw_aload_n (i := 0) dMo_send_4 rfl rfl zRf_ref <| zw_getf dMo_send_5 zf_Mo_214 (hM.fi 37 (Nat.le_of_ble_eq_true rfl) mz_37) <| zw_iload_n (i := 1) dMo_send_8 rfl rfl <| zw_i2b dMo_send_9 <| (mw_bast (M := M_Mo_send) (pc := 10) (k := 36) dMo_send_10 mk_36 hx hi kk) H0 H hM hm hu
theorem sMo_send_11 {G : zG} {d : Nat} {ad : Nat → Nat} {μ : zMm} {P : Option Value → zMm → Prop} {st : List Value} {o1 : Option Value} (kk : mW G d ad M_Mo_send 21 [some (.ref (ad 50)), o1] st (upd μ.1 37 ((μ.1 37) + (nI 1)), μ.2) P) : mW G d ad M_Mo_send 11 [some (.ref (ad 50)), o1] st μ P :=
  fun H0 H hM hm hu => zw_aload_n (i := 0) dMo_send_11 rfl rfl zRf_ref <| zw_dup dMo_send_12 rfl <| zw_getf dMo_send_13 zf_Mo_214 (hM.fi 37 (Nat.le_of_ble_eq_true rfl) mz_37) <| zw_iconst (nI 1) dMo_send_16 zki_1 <| zw_iadd dMo_send_17 <| (mw_puti (M := M_Mo_send) (pc := 18) (k := 37) (v := ((μ.1 37) + (nI 1))) dMo_send_18 zp_Mo_send_214 (Nat.le_of_ble_eq_true rfl) mz_37 rfl rfl kk) H0 H hM hm hu
theorem sMo_send_21 {G : zG} {d : Nat} {ad : Nat → Nat} {μ : zMm} {P : Option Value → zMm → Prop} {o0 : Option Value} {o1 : Option Value} (hq : P none μ) : mW G d ad M_Mo_send 21 [o0, o1] [] μ P :=
  fun H0 H hM hm hu => zw_vret dMo_send_21 rfl ⟨μ, hq, hM, hm, hu⟩
theorem sMo_dropCookie_0 {G : zG} {d : Nat} {ad : Nat → Nat} {μ : zMm} {P : Option Value → zMm → Prop} {st : List Value} {o1 : Option Value} {o2 : Option Value} {o3 : Option Value} {o4 : Option Value} {P2 : Int32 → zMm → Prop} (hd : 1 ≤ d) (hl : st.length ≤ 4) (hc : mC G (d - 1) ad M_Mo_siteEnd [(.ref (ad 50)), (.int (nI 4))] μ (mPi P2)) (kk : ∀ (r : Int32) (μ1 : zMm), P2 r μ1 → mW G d ad M_Mo_dropCookie 5 [some (.ref (ad 50)), o1, o2, o3, o4] ((.int r) :: st) μ1 P) : mW G d ad M_Mo_dropCookie 0 [some (.ref (ad 50)), o1, o2, o3, o4] st μ P :=
  fun H0 H hM hm hu => zw_aload_n (i := 0) dMo_dropCookie_0 rfl rfl zRf_ref <| zw_iconst (nI 4) dMo_dropCookie_1 zki_4 <| zw_callV [(.int (nI 4))] _ dMo_dropCookie_2 hd zk_Mo_50 hM.is rfl rfl hl (hc H hM) (mPi_k kk hm hu)
theorem sMo_dropCookie_5 {G : zG} {d : Nat} {ad : Nat → Nat} {μ : zMm} {P : Option Value → zMm → Prop} {st : List Value} {o0 : Option Value} {o1 : Option Value} {o2 : Option Value} {o3 : Option Value} {o4 : Option Value} {xs0 : Int32} (kk : mW G d ad M_Mo_dropCookie 10 [o0, o1, some (.int (xs0 - (nI 2))), some (.int (nI 0)), o4] st μ P) : mW G d ad M_Mo_dropCookie 5 [o0, o1, o2, o3, o4] ((.int xs0) :: st) μ P :=
  fun H0 H hM hm hu => zw_iconst (nI 2) dMo_dropCookie_5 zki_2 <| zw_isub dMo_dropCookie_6 <| zw_istore_n (i := 2) dMo_dropCookie_7 rfl (Nat.le_of_ble_eq_true rfl) <| zw_iconst (nI 0) dMo_dropCookie_8 zki_0 <| zw_istore_n (i := 3) dMo_dropCookie_9 rfl (Nat.le_of_ble_eq_true rfl) <| kk H0 H hM hm hu
theorem sMo_dropCookie_10 {G : zG} {d : Nat} {ad : Nat → Nat} {μ : zMm} {P : Option Value → zMm → Prop} {st : List Value} {o1 : Option Value} {o2 : Option Value} {o4 : Option Value} {x3 : Int32} (kt : ((μ.1 30) ≤ x3) → mW G d ad M_Mo_dropCookie 102 [some (.ref (ad 50)), o1, o2, some (.int x3), o4] st μ P) (kf : (¬ (μ.1 30) ≤ x3) → mW G d ad M_Mo_dropCookie 18 [some (.ref (ad 50)), o1, o2, some (.int x3), o4] st μ P) : mW G d ad M_Mo_dropCookie 10 [some (.ref (ad 50)), o1, o2, some (.int x3), o4] st μ P :=
  fun H0 H hM hm hu => zw_iload_n (i := 3) dMo_dropCookie_10 rfl rfl <| zw_aload_n (i := 0) dMo_dropCookie_11 rfl rfl zRf_ref <| zw_getf dMo_dropCookie_12 zf_Mo_196 (hM.fi 30 (Nat.le_of_ble_eq_true rfl) mz_30) <| zw_icmp_ge 102 dMo_dropCookie_15 (by decide) (fun h => kt h H0 H hM hm hu) (fun h => kf h H0 H hM hm hu)
theorem sMo_dropCookie_18 {G : zG} {d : Nat} {ad : Nat → Nat} {μ : zMm} {P : Option Value → zMm → Prop} {st : List Value} {o1 : Option Value} {o4 : Option Value} {x3 : Int32} {x2 : Int32} {i1 : Nat} (hx1 : x3 = nI i1) (hi1 : i1 < mLn 32) (kt : (¬ (μ.2 32 i1) = x2) → mW G d ad M_Mo_dropCookie 96 [some (.ref (ad 50)), o1, some (.int x2), some (.int x3), o4] st μ P) (kf : ((μ.2 32 i1) = x2) → mW G d ad M_Mo_dropCookie 28 [some (.ref (ad 50)), o1, some (.int x2), some (.int x3), o4] st μ P) : mW G d ad M_Mo_dropCookie 18 [some (.ref (ad 50)), o1, some (.int x2), some (.int x3), o4] st μ P :=
  fun H0 H hM hm hu => zw_aload_n (i := 0) dMo_dropCookie_18 rfl rfl zRf_ref <| zw_getf dMo_dropCookie_19 zf_Mo_199 (hM.fa 32 (Nat.le_of_ble_eq_true rfl) mn_32) <| zw_iload_n (i := 3) dMo_dropCookie_22 rfl rfl <| zw_ialdN (g := μ.2 32) dMo_dropCookie_23 (hM.ai mk_32) hx1 hi1 (mLn_le _) <| zw_iload_n (i := 2) dMo_dropCookie_24 rfl rfl <| zw_icmp_ne 96 dMo_dropCookie_25 (by decide) (fun h => kt h H0 H hM hm hu) (fun h => kf h H0 H hM hm hu)
theorem sMo_dropCookie_28 {G : zG} {d : Nat} {ad : Nat → Nat} {μ : zMm} {P : Option Value → zMm → Prop} {st : List Value} {o1 : Option Value} {o4 : Option Value} {x3 : Int32} {x2 : Int32} {P2 : Int32 → zMm → Prop} (hd : 1 ≤ d) (hl : st.length ≤ 4) (hc : mC G (d - 1) ad M_Mo_same [(.ref (ad 31)), (.int ((nI 24) * x3)), (.ref (ad 6)), (.int (nI 602)), (.int x2)] μ (mPi P2)) (kk : ∀ (r : Int32) (μ1 : zMm), P2 r μ1 → mW G d ad M_Mo_dropCookie 47 [some (.ref (ad 50)), o1, some (.int x2), some (.int x3), o4] ((.int r) :: st) μ1 P) : mW G d ad M_Mo_dropCookie 28 [some (.ref (ad 50)), o1, some (.int x2), some (.int x3), o4] st μ P :=
  fun H0 H hM hm hu => zw_aload_n (i := 0) dMo_dropCookie_28 rfl rfl zRf_ref <| zw_getf dMo_dropCookie_29 zf_Mo_202 (hM.fa 31 (Nat.le_of_ble_eq_true rfl) mn_31) <| zw_bipush (nI 24) dMo_dropCookie_32 zkb_24 <| zw_iload_n (i := 3) dMo_dropCookie_34 rfl rfl <| zw_imul dMo_dropCookie_35 <| zw_aload_n (i := 0) dMo_dropCookie_36 rfl rfl zRf_ref <| zw_getf dMo_dropCookie_37 zf_Mo_36 (hM.fa 6 (Nat.le_of_ble_eq_true rfl) mn_6) <| zw_sipush (nI 602) dMo_dropCookie_40 zks_602 <| zw_iload_n (i := 2) dMo_dropCookie_43 rfl rfl <| zw_callS [(.ref (ad 31)), (.int ((nI 24) * x3)), (.ref (ad 6)), (.int (nI 602)), (.int x2)] _ dMo_dropCookie_44 hd zk_Mo_46 rfl rfl hl (hc H hM) (mPi_k kk hm hu)
theorem sMo_dropCookie_47 {G : zG} {d : Nat} {ad : Nat → Nat} {μ : zMm} {P : Option Value → zMm → Prop} {st : List Value} {o0 : Option Value} {o1 : Option Value} {o2 : Option Value} {o3 : Option Value} {o4 : Option Value} {xs0 : Int32} (kt : (xs0 = 0) → mW G d ad M_Mo_dropCookie 96 [o0, o1, o2, o3, o4] st μ P) (kf : (¬ xs0 = 0) → mW G d ad M_Mo_dropCookie 50 [o0, o1, o2, o3, o4] st μ P) : mW G d ad M_Mo_dropCookie 47 [o0, o1, o2, o3, o4] ((.int xs0) :: st) μ P :=
  fun H0 H hM hm hu => zw_if_eq 96 dMo_dropCookie_47 (by decide) (fun h => kt h H0 H hM hm hu) (fun h => kf h H0 H hM hm hu)
theorem sMo_dropCookie_50 {G : zG} {d : Nat} {ad : Nat → Nat} {μ : zMm} {P : Option Value → zMm → Prop} {st : List Value} {o2 : Option Value} {o4 : Option Value} {x3 : Int32} {x1 : Int32} {i1 : Nat} {i2 : Nat} (hx1 : x3 = nI i1) (hi1 : i1 < mLn 33) (hx2 : x1 = nI i2) (hi2 : i2 < mLn 21) (kt : (¬ (μ.2 33 i1) = (μ.2 21 i2)) → mW G d ad M_Mo_dropCookie 96 [some (.ref (ad 50)), some (.int x1), o2, some (.int x3), o4] st μ P) (kf : ((μ.2 33 i1) = (μ.2 21 i2)) → mW G d ad M_Mo_dropCookie 65 [some (.ref (ad 50)), some (.int x1), o2, some (.int x3), o4] st μ P) : mW G d ad M_Mo_dropCookie 50 [some (.ref (ad 50)), some (.int x1), o2, some (.int x3), o4] st μ P :=
  fun H0 H hM hm hu => zw_aload_n (i := 0) dMo_dropCookie_50 rfl rfl zRf_ref <| zw_getf dMo_dropCookie_51 zf_Mo_205 (hM.fa 33 (Nat.le_of_ble_eq_true rfl) mn_33) <| zw_iload_n (i := 3) dMo_dropCookie_54 rfl rfl <| zw_ialdN (g := μ.2 33) dMo_dropCookie_55 (hM.ai mk_33) hx1 hi1 (mLn_le _) <| zw_aload_n (i := 0) dMo_dropCookie_56 rfl rfl zRf_ref <| zw_getf dMo_dropCookie_57 zf_Mo_180 (hM.fa 21 (Nat.le_of_ble_eq_true rfl) mn_21) <| zw_iload_n (i := 1) dMo_dropCookie_60 rfl rfl <| zw_ialdN (g := μ.2 21) dMo_dropCookie_61 (hM.ai mk_21) hx2 hi2 (mLn_le _) <| zw_icmp_ne 96 dMo_dropCookie_62 (by decide) (fun h => kt h H0 H hM hm hu) (fun h => kf h H0 H hM hm hu)
theorem sMo_dropCookie_65 {G : zG} {d : Nat} {ad : Nat → Nat} {μ : zMm} {P : Option Value → zMm → Prop} {st : List Value} {o2 : Option Value} {o4 : Option Value} {x3 : Int32} {x1 : Int32} {i1 : Nat} {P2 : Int32 → zMm → Prop} (hx1 : x1 = nI i1) (hi1 : i1 < mLn 21) (hd : 1 ≤ d) (hl : st.length ≤ 4) (hc : mC G (d - 1) ad M_Mo_same [(.ref (ad 31)), (.int (((nI 24) * x3) + (nI 8))), (.ref (ad 20)), (.int ((nI 16) * x1)), (.int (μ.2 21 i1))] μ (mPi P2)) (kk : ∀ (r : Int32) (μ1 : zMm), P2 r μ1 → mW G d ad M_Mo_dropCookie 93 [some (.ref (ad 50)), some (.int x1), o2, some (.int x3), o4] ((.int r) :: st) μ1 P) : mW G d ad M_Mo_dropCookie 65 [some (.ref (ad 50)), some (.int x1), o2, some (.int x3), o4] st μ P :=
  fun H0 H hM hm hu => zw_aload_n (i := 0) dMo_dropCookie_65 rfl rfl zRf_ref <| zw_getf dMo_dropCookie_66 zf_Mo_202 (hM.fa 31 (Nat.le_of_ble_eq_true rfl) mn_31) <| zw_bipush (nI 24) dMo_dropCookie_69 zkb_24 <| zw_iload_n (i := 3) dMo_dropCookie_71 rfl rfl <| zw_imul dMo_dropCookie_72 <| zw_bipush (nI 8) dMo_dropCookie_73 zkb_8 <| zw_iadd dMo_dropCookie_75 <| zw_aload_n (i := 0) dMo_dropCookie_76 rfl rfl zRf_ref <| zw_getf dMo_dropCookie_77 zf_Mo_186 (hM.fa 20 (Nat.le_of_ble_eq_true rfl) mn_20) <| zw_bipush (nI 16) dMo_dropCookie_80 zkb_16 <| zw_iload_n (i := 1) dMo_dropCookie_82 rfl rfl <| zw_imul dMo_dropCookie_83 <| zw_aload_n (i := 0) dMo_dropCookie_84 rfl rfl zRf_ref <| zw_getf dMo_dropCookie_85 zf_Mo_180 (hM.fa 21 (Nat.le_of_ble_eq_true rfl) mn_21) <| zw_iload_n (i := 1) dMo_dropCookie_88 rfl rfl <| zw_ialdN (g := μ.2 21) dMo_dropCookie_89 (hM.ai mk_21) hx1 hi1 (mLn_le _) <| zw_callS [(.ref (ad 31)), (.int (((nI 24) * x3) + (nI 8))), (.ref (ad 20)), (.int ((nI 16) * x1)), (.int (μ.2 21 i1))] _ dMo_dropCookie_90 hd zk_Mo_46 rfl rfl hl (hc H hM) (mPi_k kk hm hu)
theorem sMo_dropCookie_93 {G : zG} {d : Nat} {ad : Nat → Nat} {μ : zMm} {P : Option Value → zMm → Prop} {st : List Value} {o0 : Option Value} {o1 : Option Value} {o2 : Option Value} {o3 : Option Value} {o4 : Option Value} {xs0 : Int32} (kt : (¬ xs0 = 0) → mW G d ad M_Mo_dropCookie 102 [o0, o1, o2, o3, o4] st μ P) (kf : (xs0 = 0) → mW G d ad M_Mo_dropCookie 96 [o0, o1, o2, o3, o4] st μ P) : mW G d ad M_Mo_dropCookie 93 [o0, o1, o2, o3, o4] ((.int xs0) :: st) μ P :=
  fun H0 H hM hm hu => zw_if_ne 102 dMo_dropCookie_93 (by decide) (fun h => kt h H0 H hM hm hu) (fun h => kf h H0 H hM hm hu)
theorem sMo_dropCookie_96 {G : zG} {d : Nat} {ad : Nat → Nat} {μ : zMm} {P : Option Value → zMm → Prop} {st : List Value} {o0 : Option Value} {o1 : Option Value} {o2 : Option Value} {o4 : Option Value} {x3 : Int32} (kk : mW G d ad M_Mo_dropCookie 10 [o0, o1, o2, some (.int (x3 + (nI 1))), o4] st μ P) : mW G d ad M_Mo_dropCookie 96 [o0, o1, o2, some (.int x3), o4] st μ P :=
  fun H0 H hM hm hu => zw_iinc (i := 3) (x3 + (nI 1)) dMo_dropCookie_96 rfl (congrArg (fun z => x3 + z) zki_1) <| zw_goto 10 dMo_dropCookie_99 (by decide) <| kk H0 H hM hm hu
theorem sMo_dropCookie_102 {G : zG} {d : Nat} {ad : Nat → Nat} {μ : zMm} {P : Option Value → zMm → Prop} {st : List Value} {o0 : Option Value} {o1 : Option Value} {o2 : Option Value} {o4 : Option Value} {x3 : Int32} (kt : (¬ x3 = (nI 20)) → mW G d ad M_Mo_dropCookie 109 [o0, o1, o2, some (.int x3), o4] st μ P) (kf : (x3 = (nI 20)) → mW G d ad M_Mo_dropCookie 108 [o0, o1, o2, some (.int x3), o4] st μ P) : mW G d ad M_Mo_dropCookie 102 [o0, o1, o2, some (.int x3), o4] st μ P :=
  fun H0 H hM hm hu => zw_iload_n (i := 3) dMo_dropCookie_102 rfl rfl <| zw_bipush (nI 20) dMo_dropCookie_103 zkb_20 <| zw_icmp_ne 109 dMo_dropCookie_105 (by decide) (fun h => kt h H0 H hM hm hu) (fun h => kf h H0 H hM hm hu)
theorem sMo_dropCookie_108 {G : zG} {d : Nat} {ad : Nat → Nat} {μ : zMm} {P : Option Value → zMm → Prop} {o0 : Option Value} {o1 : Option Value} {o2 : Option Value} {o3 : Option Value} {o4 : Option Value} (hq : P none μ) : mW G d ad M_Mo_dropCookie 108 [o0, o1, o2, o3, o4] [] μ P :=
  fun H0 H hM hm hu => zw_vret dMo_dropCookie_108 rfl ⟨μ, hq, hM, hm, hu⟩
theorem sMo_dropCookie_109 {G : zG} {d : Nat} {ad : Nat → Nat} {μ : zMm} {P : Option Value → zMm → Prop} {st : List Value} {o1 : Option Value} {o2 : Option Value} {o4 : Option Value} {x3 : Int32} (kt : (¬ x3 = (μ.1 30)) → mW G d ad M_Mo_dropCookie 127 [some (.ref (ad 50)), o1, o2, some (.int x3), o4] ((.ref (ad 50)) :: st) μ P) (kf : (x3 = (μ.1 30)) → mW G d ad M_Mo_dropCookie 118 [some (.ref (ad 50)), o1, o2, some (.int x3), o4] ((.ref (ad 50)) :: st) μ P) : mW G d ad M_Mo_dropCookie 109 [some (.ref (ad 50)), o1, o2, some (.int x3), o4] st μ P :=
  fun H0 H hM hm hu => zw_aload_n (i := 0) dMo_dropCookie_109 rfl rfl zRf_ref <| zw_iload_n (i := 3) dMo_dropCookie_110 rfl rfl <| zw_aload_n (i := 0) dMo_dropCookie_111 rfl rfl zRf_ref <| zw_getf dMo_dropCookie_112 zf_Mo_196 (hM.fi 30 (Nat.le_of_ble_eq_true rfl) mz_30) <| zw_icmp_ne 127 dMo_dropCookie_115 (by decide) (fun h => kt h H0 H hM hm hu) (fun h => kf h H0 H hM hm hu)
theorem sMo_dropCookie_118 {G : zG} {d : Nat} {ad : Nat → Nat} {μ : zMm} {P : Option Value → zMm → Prop} {st : List Value} {o1 : Option Value} {o2 : Option Value} {o3 : Option Value} {o4 : Option Value} (kk : mW G d ad M_Mo_dropCookie 134 [some (.ref (ad 50)), o1, o2, o3, o4] st (upd μ.1 30 ((μ.1 30) + (nI 1)), μ.2) P) : mW G d ad M_Mo_dropCookie 118 [some (.ref (ad 50)), o1, o2, o3, o4] ((.ref (ad 50)) :: st) μ P :=
  fun H0 H hM hm hu => zw_aload_n (i := 0) dMo_dropCookie_118 rfl rfl zRf_ref <| zw_getf dMo_dropCookie_119 zf_Mo_196 (hM.fi 30 (Nat.le_of_ble_eq_true rfl) mz_30) <| zw_iconst (nI 1) dMo_dropCookie_122 zki_1 <| zw_iadd dMo_dropCookie_123 <| zw_goto 131 dMo_dropCookie_124 (by decide) <| (mw_puti (M := M_Mo_dropCookie) (pc := 131) (k := 30) (v := ((μ.1 30) + (nI 1))) dMo_dropCookie_131 zp_Mo_dropCookie_196 (Nat.le_of_ble_eq_true rfl) mz_30 rfl rfl kk) H0 H hM hm hu
theorem sMo_dropCookie_127 {G : zG} {d : Nat} {ad : Nat → Nat} {μ : zMm} {P : Option Value → zMm → Prop} {st : List Value} {o1 : Option Value} {o2 : Option Value} {o3 : Option Value} {o4 : Option Value} (kk : mW G d ad M_Mo_dropCookie 134 [some (.ref (ad 50)), o1, o2, o3, o4] st (upd μ.1 30 (μ.1 30), μ.2) P) : mW G d ad M_Mo_dropCookie 127 [some (.ref (ad 50)), o1, o2, o3, o4] ((.ref (ad 50)) :: st) μ P :=
  fun H0 H hM hm hu => zw_aload_n (i := 0) dMo_dropCookie_127 rfl rfl zRf_ref <| zw_getf dMo_dropCookie_128 zf_Mo_196 (hM.fi 30 (Nat.le_of_ble_eq_true rfl) mz_30) <| (mw_puti (M := M_Mo_dropCookie) (pc := 131) (k := 30) (v := (μ.1 30)) dMo_dropCookie_131 zp_Mo_dropCookie_196 (Nat.le_of_ble_eq_true rfl) mz_30 rfl rfl kk) H0 H hM hm hu
theorem sMo_dropCookie_131 {G : zG} {d : Nat} {ad : Nat → Nat} {μ : zMm} {P : Option Value → zMm → Prop} {st : List Value} {o0 : Option Value} {o1 : Option Value} {o2 : Option Value} {o3 : Option Value} {o4 : Option Value} {xs0 : Int32} (kk : mW G d ad M_Mo_dropCookie 134 [o0, o1, o2, o3, o4] st (upd μ.1 30 xs0, μ.2) P) : mW G d ad M_Mo_dropCookie 131 [o0, o1, o2, o3, o4] ((.int xs0) :: (.ref (ad 50)) :: st) μ P :=
  fun H0 H hM hm hu => (mw_puti (M := M_Mo_dropCookie) (pc := 131) (k := 30) (v := xs0) dMo_dropCookie_131 zp_Mo_dropCookie_196 (Nat.le_of_ble_eq_true rfl) mz_30 rfl rfl kk) H0 H hM hm hu
theorem sMo_dropCookie_134 {G : zG} {d : Nat} {ad : Nat → Nat} {μ : zMm} {P : Option Value → zMm → Prop} {st : List Value} {o1 : Option Value} {o4 : Option Value} {x3 : Int32} {x2 : Int32} {i : Nat} (hx : x3 = nI i) (hi : i < mLn 32) (kk : mW G d ad M_Mo_dropCookie 141 [some (.ref (ad 50)), o1, some (.int x2), some (.int x3), o4] st (μ.1, updA μ.2 32 i x2) P) : mW G d ad M_Mo_dropCookie 134 [some (.ref (ad 50)), o1, some (.int x2), some (.int x3), o4] st μ P :=
  fun H0 H hM hm hu => zw_aload_n (i := 0) dMo_dropCookie_134 rfl rfl zRf_ref <| zw_getf dMo_dropCookie_135 zf_Mo_199 (hM.fa 32 (Nat.le_of_ble_eq_true rfl) mn_32) <| zw_iload_n (i := 3) dMo_dropCookie_138 rfl rfl <| zw_iload_n (i := 2) dMo_dropCookie_139 rfl rfl <| (mw_iast (M := M_Mo_dropCookie) (pc := 140) (k := 32) dMo_dropCookie_140 mk_32 hx hi kk) H0 H hM hm hu
theorem sMo_dropCookie_141 {G : zG} {d : Nat} {ad : Nat → Nat} {μ : zMm} {P : Option Value → zMm → Prop} {st : List Value} {o2 : Option Value} {o4 : Option Value} {x3 : Int32} {x1 : Int32} {i1 : Nat} {i : Nat} (hx1 : x1 = nI i1) (hi1 : i1 < mLn 21) (hx : x3 = nI i) (hi : i < mLn 33) (kk : mW G d ad M_Mo_dropCookie 153 [some (.ref (ad 50)), some (.int x1), o2, some (.int x3), o4] st (μ.1, updA μ.2 33 i (μ.2 21 i1)) P) : mW G d ad M_Mo_dropCookie 141 [some (.ref (ad 50)), some (.int x1), o2, some (.int x3), o4] st μ P :=
  fun H0 H hM hm hu => zw_aload_n (i := 0) dMo_dropCookie_141 rfl rfl zRf_ref <| zw_getf dMo_dropCookie_142 zf_Mo_205 (hM.fa 33 (Nat.le_of_ble_eq_true rfl) mn_33) <| zw_iload_n (i := 3) dMo_dropCookie_145 rfl rfl <| zw_aload_n (i := 0) dMo_dropCookie_146 rfl rfl zRf_ref <| zw_getf dMo_dropCookie_147 zf_Mo_180 (hM.fa 21 (Nat.le_of_ble_eq_true rfl) mn_21) <| zw_iload_n (i := 1) dMo_dropCookie_150 rfl rfl <| zw_ialdN (g := μ.2 21) dMo_dropCookie_151 (hM.ai mk_21) hx1 hi1 (mLn_le _) <| (mw_iast (M := M_Mo_dropCookie) (pc := 152) (k := 33) dMo_dropCookie_152 mk_33 hx hi kk) H0 H hM hm hu
theorem sMo_dropCookie_153 {G : zG} {d : Nat} {ad : Nat → Nat} {μ : zMm} {P : Option Value → zMm → Prop} {st : List Value} {o2 : Option Value} {o4 : Option Value} {x3 : Int32} {x1 : Int32} {i1 : Nat} {i : Nat} (hx1 : x1 = nI i1) (hi1 : i1 < mLn 22) (hx : x3 = nI i) (hi : i < mLn 34) (kk : mW G d ad M_Mo_dropCookie 165 [some (.ref (ad 50)), some (.int x1), o2, some (.int x3), o4] st (μ.1, updA μ.2 34 i (μ.2 22 i1)) P) : mW G d ad M_Mo_dropCookie 153 [some (.ref (ad 50)), some (.int x1), o2, some (.int x3), o4] st μ P :=
  fun H0 H hM hm hu => zw_aload_n (i := 0) dMo_dropCookie_153 rfl rfl zRf_ref <| zw_getf dMo_dropCookie_154 zf_Mo_208 (hM.fa 34 (Nat.le_of_ble_eq_true rfl) mn_34) <| zw_iload_n (i := 3) dMo_dropCookie_157 rfl rfl <| zw_aload_n (i := 0) dMo_dropCookie_158 rfl rfl zRf_ref <| zw_getf dMo_dropCookie_159 zf_Mo_183 (hM.fa 22 (Nat.le_of_ble_eq_true rfl) mn_22) <| zw_iload_n (i := 1) dMo_dropCookie_162 rfl rfl <| zw_ialdN (g := μ.2 22) dMo_dropCookie_163 (hM.ai mk_22) hx1 hi1 (mLn_le _) <| (mw_iast (M := M_Mo_dropCookie) (pc := 164) (k := 34) dMo_dropCookie_164 mk_34 hx hi kk) H0 H hM hm hu
theorem sMo_dropCookie_165 {G : zG} {d : Nat} {ad : Nat → Nat} {μ : zMm} {P : Option Value → zMm → Prop} {st : List Value} {o0 : Option Value} {o1 : Option Value} {o2 : Option Value} {o3 : Option Value} {o4 : Option Value} (kk : mW G d ad M_Mo_dropCookie 168 [o0, o1, o2, o3, some (.int (nI 0))] st μ P) : mW G d ad M_Mo_dropCookie 165 [o0, o1, o2, o3, o4] st μ P :=
  fun H0 H hM hm hu => zw_iconst (nI 0) dMo_dropCookie_165 zki_0 <| zw_istore (i := 4) dMo_dropCookie_166 (Nat.le_of_ble_eq_true rfl) <| kk H0 H hM hm hu
theorem sMo_dropCookie_168 {G : zG} {d : Nat} {ad : Nat → Nat} {μ : zMm} {P : Option Value → zMm → Prop} {st : List Value} {o0 : Option Value} {o1 : Option Value} {o3 : Option Value} {x4 : Int32} {x2 : Int32} (kt : (x2 ≤ x4) → mW G d ad M_Mo_dropCookie 203 [o0, o1, some (.int x2), o3, some (.int x4)] st μ P) (kf : (¬ x2 ≤ x4) → mW G d ad M_Mo_dropCookie 174 [o0, o1, some (.int x2), o3, some (.int x4)] st μ P) : mW G d ad M_Mo_dropCookie 168 [o0, o1, some (.int x2), o3, some (.int x4)] st μ P :=
  fun H0 H hM hm hu => zw_iload (i := 4) dMo_dropCookie_168 rfl <| zw_iload_n (i := 2) dMo_dropCookie_170 rfl rfl <| zw_icmp_ge 203 dMo_dropCookie_171 (by decide) (fun h => kt h H0 H hM hm hu) (fun h => kf h H0 H hM hm hu)
theorem sMo_dropCookie_174 {G : zG} {d : Nat} {ad : Nat → Nat} {μ : zMm} {P : Option Value → zMm → Prop} {st : List Value} {o1 : Option Value} {o2 : Option Value} {x3 : Int32} {x4 : Int32} {i1 : Nat} {i : Nat} (hx1 : ((nI 602) + x4) = nI i1) (hi1 : i1 < mLn 6) (hx : (((nI 24) * x3) + x4) = nI i) (hi : i < mLn 31) (kk : mW G d ad M_Mo_dropCookie 197 [some (.ref (ad 50)), o1, o2, some (.int x3), some (.int x4)] st (μ.1, updA μ.2 31 i ((μ.2 6 i1)).toInt8.toInt32) P) : mW G d ad M_Mo_dropCookie 174 [some (.ref (ad 50)), o1, o2, some (.int x3), some (.int x4)] st μ P :=
  fun H0 H hM hm hu => zw_aload_n (i := 0) dMo_dropCookie_174 rfl rfl zRf_ref <| zw_getf dMo_dropCookie_175 zf_Mo_202 (hM.fa 31 (Nat.le_of_ble_eq_true rfl) mn_31) <| zw_bipush (nI 24) dMo_dropCookie_178 zkb_24 <| zw_iload_n (i := 3) dMo_dropCookie_180 rfl rfl <| zw_imul dMo_dropCookie_181 <| zw_iload (i := 4) dMo_dropCookie_182 rfl <| zw_iadd dMo_dropCookie_184 <| zw_aload_n (i := 0) dMo_dropCookie_185 rfl rfl zRf_ref <| zw_getf dMo_dropCookie_186 zf_Mo_36 (hM.fa 6 (Nat.le_of_ble_eq_true rfl) mn_6) <| zw_sipush (nI 602) dMo_dropCookie_189 zks_602 <| zw_iload (i := 4) dMo_dropCookie_192 rfl <| zw_iadd dMo_dropCookie_194 <| zw_baldN (g := μ.2 6) dMo_dropCookie_195 (hM.ab mk_6) hx1 hi1 (mLn_le _) <| (mw_bast (M := M_Mo_dropCookie) (pc := 196) (k := 31) dMo_dropCookie_196 mk_31 hx hi kk) H0 H hM hm hu
theorem sMo_dropCookie_197 {G : zG} {d : Nat} {ad : Nat → Nat} {μ : zMm} {P : Option Value → zMm → Prop} {st : List Value} {o0 : Option Value} {o1 : Option Value} {o2 : Option Value} {o3 : Option Value} {x4 : Int32} (kk : mW G d ad M_Mo_dropCookie 168 [o0, o1, o2, o3, some (.int (x4 + (nI 1)))] st μ P) : mW G d ad M_Mo_dropCookie 197 [o0, o1, o2, o3, some (.int x4)] st μ P :=
  fun H0 H hM hm hu => zw_iinc (i := 4) (x4 + (nI 1)) dMo_dropCookie_197 rfl (congrArg (fun z => x4 + z) zki_1) <| zw_goto 168 dMo_dropCookie_200 (by decide) <| kk H0 H hM hm hu
theorem sMo_dropCookie_203 {G : zG} {d : Nat} {ad : Nat → Nat} {μ : zMm} {P : Option Value → zMm → Prop} {st : List Value} {o0 : Option Value} {o1 : Option Value} {o2 : Option Value} {o3 : Option Value} {o4 : Option Value} (kk : mW G d ad M_Mo_dropCookie 206 [o0, o1, o2, o3, some (.int (nI 0))] st μ P) : mW G d ad M_Mo_dropCookie 203 [o0, o1, o2, o3, o4] st μ P :=
  fun H0 H hM hm hu => zw_iconst (nI 0) dMo_dropCookie_203 zki_0 <| zw_istore (i := 4) dMo_dropCookie_204 (Nat.le_of_ble_eq_true rfl) <| kk H0 H hM hm hu
theorem sMo_dropCookie_206 {G : zG} {d : Nat} {ad : Nat → Nat} {μ : zMm} {P : Option Value → zMm → Prop} {st : List Value} {o0 : Option Value} {o1 : Option Value} {o2 : Option Value} {o3 : Option Value} {x4 : Int32} (kt : ((nI 8) ≤ x4) → mW G d ad M_Mo_dropCookie 276 [o0, o1, o2, o3, some (.int x4)] st μ P) (kf : (¬ (nI 8) ≤ x4) → mW G d ad M_Mo_dropCookie 213 [o0, o1, o2, o3, some (.int x4)] st μ P) : mW G d ad M_Mo_dropCookie 206 [o0, o1, o2, o3, some (.int x4)] st μ P :=
  fun H0 H hM hm hu => zw_iload (i := 4) dMo_dropCookie_206 rfl <| zw_bipush (nI 8) dMo_dropCookie_208 zkb_8 <| zw_icmp_ge 276 dMo_dropCookie_210 (by decide) (fun h => kt h H0 H hM hm hu) (fun h => kf h H0 H hM hm hu)
theorem sMo_dropCookie_213 {G : zG} {d : Nat} {ad : Nat → Nat} {μ : zMm} {P : Option Value → zMm → Prop} {st : List Value} {o2 : Option Value} {x3 : Int32} {x4 : Int32} {x1 : Int32} {i1 : Nat} {i : Nat} (hx1 : (((nI 16) * x1) + x4) = nI i1) (hi1 : i1 < mLn 20) (hx : ((((nI 24) * x3) + (nI 8)) + x4) = nI i) (hi : i < mLn 31) (kk : mW G d ad M_Mo_dropCookie 240 [some (.ref (ad 50)), some (.int x1), o2, some (.int x3), some (.int x4)] st (μ.1, updA μ.2 31 i ((μ.2 20 i1)).toInt8.toInt32) P) : mW G d ad M_Mo_dropCookie 213 [some (.ref (ad 50)), some (.int x1), o2, some (.int x3), some (.int x4)] st μ P :=
  fun H0 H hM hm hu => zw_aload_n (i := 0) dMo_dropCookie_213 rfl rfl zRf_ref <| zw_getf dMo_dropCookie_214 zf_Mo_202 (hM.fa 31 (Nat.le_of_ble_eq_true rfl) mn_31) <| zw_bipush (nI 24) dMo_dropCookie_217 zkb_24 <| zw_iload_n (i := 3) dMo_dropCookie_219 rfl rfl <| zw_imul dMo_dropCookie_220 <| zw_bipush (nI 8) dMo_dropCookie_221 zkb_8 <| zw_iadd dMo_dropCookie_223 <| zw_iload (i := 4) dMo_dropCookie_224 rfl <| zw_iadd dMo_dropCookie_226 <| zw_aload_n (i := 0) dMo_dropCookie_227 rfl rfl zRf_ref <| zw_getf dMo_dropCookie_228 zf_Mo_186 (hM.fa 20 (Nat.le_of_ble_eq_true rfl) mn_20) <| zw_bipush (nI 16) dMo_dropCookie_231 zkb_16 <| zw_iload_n (i := 1) dMo_dropCookie_233 rfl rfl <| zw_imul dMo_dropCookie_234 <| zw_iload (i := 4) dMo_dropCookie_235 rfl <| zw_iadd dMo_dropCookie_237 <| zw_baldN (g := μ.2 20) dMo_dropCookie_238 (hM.ab mk_20) hx1 hi1 (mLn_le _) <| (mw_bast (M := M_Mo_dropCookie) (pc := 239) (k := 31) dMo_dropCookie_239 mk_31 hx hi kk) H0 H hM hm hu
theorem sMo_dropCookie_240 {G : zG} {d : Nat} {ad : Nat → Nat} {μ : zMm} {P : Option Value → zMm → Prop} {st : List Value} {o2 : Option Value} {x3 : Int32} {x4 : Int32} {x1 : Int32} {i1 : Nat} {i : Nat} (hx1 : ((((nI 16) * x1) + (nI 8)) + x4) = nI i1) (hi1 : i1 < mLn 20) (hx : ((((nI 24) * x3) + (nI 16)) + x4) = nI i) (hi : i < mLn 31) (kk : mW G d ad M_Mo_dropCookie 270 [some (.ref (ad 50)), some (.int x1), o2, some (.int x3), some (.int x4)] st (μ.1, updA μ.2 31 i ((μ.2 20 i1)).toInt8.toInt32) P) : mW G d ad M_Mo_dropCookie 240 [some (.ref (ad 50)), some (.int x1), o2, some (.int x3), some (.int x4)] st μ P :=
  fun H0 H hM hm hu => zw_aload_n (i := 0) dMo_dropCookie_240 rfl rfl zRf_ref <| zw_getf dMo_dropCookie_241 zf_Mo_202 (hM.fa 31 (Nat.le_of_ble_eq_true rfl) mn_31) <| zw_bipush (nI 24) dMo_dropCookie_244 zkb_24 <| zw_iload_n (i := 3) dMo_dropCookie_246 rfl rfl <| zw_imul dMo_dropCookie_247 <| zw_bipush (nI 16) dMo_dropCookie_248 zkb_16 <| zw_iadd dMo_dropCookie_250 <| zw_iload (i := 4) dMo_dropCookie_251 rfl <| zw_iadd dMo_dropCookie_253 <| zw_aload_n (i := 0) dMo_dropCookie_254 rfl rfl zRf_ref <| zw_getf dMo_dropCookie_255 zf_Mo_186 (hM.fa 20 (Nat.le_of_ble_eq_true rfl) mn_20) <| zw_bipush (nI 16) dMo_dropCookie_258 zkb_16 <| zw_iload_n (i := 1) dMo_dropCookie_260 rfl rfl <| zw_imul dMo_dropCookie_261 <| zw_bipush (nI 8) dMo_dropCookie_262 zkb_8 <| zw_iadd dMo_dropCookie_264 <| zw_iload (i := 4) dMo_dropCookie_265 rfl <| zw_iadd dMo_dropCookie_267 <| zw_baldN (g := μ.2 20) dMo_dropCookie_268 (hM.ab mk_20) hx1 hi1 (mLn_le _) <| (mw_bast (M := M_Mo_dropCookie) (pc := 269) (k := 31) dMo_dropCookie_269 mk_31 hx hi kk) H0 H hM hm hu
theorem sMo_dropCookie_270 {G : zG} {d : Nat} {ad : Nat → Nat} {μ : zMm} {P : Option Value → zMm → Prop} {st : List Value} {o0 : Option Value} {o1 : Option Value} {o2 : Option Value} {o3 : Option Value} {x4 : Int32} (kk : mW G d ad M_Mo_dropCookie 206 [o0, o1, o2, o3, some (.int (x4 + (nI 1)))] st μ P) : mW G d ad M_Mo_dropCookie 270 [o0, o1, o2, o3, some (.int x4)] st μ P :=
  fun H0 H hM hm hu => zw_iinc (i := 4) (x4 + (nI 1)) dMo_dropCookie_270 rfl (congrArg (fun z => x4 + z) zki_1) <| zw_goto 206 dMo_dropCookie_273 (by decide) <| kk H0 H hM hm hu
theorem sMo_dropCookie_276 {G : zG} {d : Nat} {ad : Nat → Nat} {μ : zMm} {P : Option Value → zMm → Prop} {o0 : Option Value} {o1 : Option Value} {o2 : Option Value} {o3 : Option Value} {o4 : Option Value} (hq : P none μ) : mW G d ad M_Mo_dropCookie 276 [o0, o1, o2, o3, o4] [] μ P :=
  fun H0 H hM hm hu => zw_vret dMo_dropCookie_276 rfl ⟨μ, hq, hM, hm, hu⟩
theorem sMo_keep_0 {G : zG} {d : Nat} {ad : Nat → Nat} {μ : zMm} {P : Option Value → zMm → Prop} {st : List Value} {o0 : Option Value} {o1 : Option Value} {o2 : Option Value} {o3 : Option Value} {o4 : Option Value} (kk : mW G d ad M_Mo_keep 2 [o0, o1, some (.int (nI 0)), o3, o4] st μ P) : mW G d ad M_Mo_keep 0 [o0, o1, o2, o3, o4] st μ P :=
  fun H0 H hM hm hu => zw_iconst (nI 0) dMo_keep_0 zki_0 <| zw_istore_n (i := 2) dMo_keep_1 rfl (Nat.le_of_ble_eq_true rfl) <| kk H0 H hM hm hu
theorem sMo_keep_2 {G : zG} {d : Nat} {ad : Nat → Nat} {μ : zMm} {P : Option Value → zMm → Prop} {st : List Value} {o1 : Option Value} {o3 : Option Value} {o4 : Option Value} {x2 : Int32} (kt : ((μ.1 26) ≤ x2) → mW G d ad M_Mo_keep 28 [some (.ref (ad 50)), o1, some (.int x2), o3, o4] st μ P) (kf : (¬ (μ.1 26) ≤ x2) → mW G d ad M_Mo_keep 10 [some (.ref (ad 50)), o1, some (.int x2), o3, o4] st μ P) : mW G d ad M_Mo_keep 2 [some (.ref (ad 50)), o1, some (.int x2), o3, o4] st μ P :=
  fun H0 H hM hm hu => zw_iload_n (i := 2) dMo_keep_2 rfl rfl <| zw_aload_n (i := 0) dMo_keep_3 rfl rfl zRf_ref <| zw_getf dMo_keep_4 zf_Mo_220 (hM.fi 26 (Nat.le_of_ble_eq_true rfl) mz_26) <| zw_icmp_ge 28 dMo_keep_7 (by decide) (fun h => kt h H0 H hM hm hu) (fun h => kf h H0 H hM hm hu)
theorem sMo_keep_10 {G : zG} {d : Nat} {ad : Nat → Nat} {μ : zMm} {P : Option Value → zMm → Prop} {st : List Value} {o1 : Option Value} {o3 : Option Value} {o4 : Option Value} {x2 : Int32} {P2 : Int32 → zMm → Prop} (hd : 1 ≤ d) (hl : st.length ≤ 4) (hc : mC G (d - 1) ad M_Mo_alike [(.ref (ad 50)), (.int ((nI 18) + x2)), (.int (nI 4))] μ (mPi P2)) (kk : ∀ (r : Int32) (μ1 : zMm), P2 r μ1 → mW G d ad M_Mo_keep 19 [some (.ref (ad 50)), o1, some (.int x2), o3, o4] ((.int r) :: st) μ1 P) : mW G d ad M_Mo_keep 10 [some (.ref (ad 50)), o1, some (.int x2), o3, o4] st μ P :=
  fun H0 H hM hm hu => zw_aload_n (i := 0) dMo_keep_10 rfl rfl zRf_ref <| zw_bipush (nI 18) dMo_keep_11 zkb_18 <| zw_iload_n (i := 2) dMo_keep_13 rfl rfl <| zw_iadd dMo_keep_14 <| zw_iconst (nI 4) dMo_keep_15 zki_4 <| zw_callV [(.int ((nI 18) + x2)), (.int (nI 4))] _ dMo_keep_16 hd zk_Mo_168 hM.is rfl rfl hl (hc H hM) (mPi_k kk hm hu)
theorem sMo_keep_19 {G : zG} {d : Nat} {ad : Nat → Nat} {μ : zMm} {P : Option Value → zMm → Prop} {st : List Value} {o0 : Option Value} {o1 : Option Value} {o2 : Option Value} {o3 : Option Value} {o4 : Option Value} {xs0 : Int32} (kt : (¬ xs0 = 0) → mW G d ad M_Mo_keep 28 [o0, o1, o2, o3, o4] st μ P) (kf : (xs0 = 0) → mW G d ad M_Mo_keep 22 [o0, o1, o2, o3, o4] st μ P) : mW G d ad M_Mo_keep 19 [o0, o1, o2, o3, o4] ((.int xs0) :: st) μ P :=
  fun H0 H hM hm hu => zw_if_ne 28 dMo_keep_19 (by decide) (fun h => kt h H0 H hM hm hu) (fun h => kf h H0 H hM hm hu)
theorem sMo_keep_22 {G : zG} {d : Nat} {ad : Nat → Nat} {μ : zMm} {P : Option Value → zMm → Prop} {st : List Value} {o0 : Option Value} {o1 : Option Value} {o3 : Option Value} {o4 : Option Value} {x2 : Int32} (kk : mW G d ad M_Mo_keep 2 [o0, o1, some (.int (x2 + (nI 1))), o3, o4] st μ P) : mW G d ad M_Mo_keep 22 [o0, o1, some (.int x2), o3, o4] st μ P :=
  fun H0 H hM hm hu => zw_iinc (i := 2) (x2 + (nI 1)) dMo_keep_22 rfl (congrArg (fun z => x2 + z) zki_1) <| zw_goto 2 dMo_keep_25 (by decide) <| kk H0 H hM hm hu
theorem sMo_keep_28 {G : zG} {d : Nat} {ad : Nat → Nat} {μ : zMm} {P : Option Value → zMm → Prop} {st : List Value} {o0 : Option Value} {o1 : Option Value} {o3 : Option Value} {o4 : Option Value} {x2 : Int32} (kt : (¬ x2 = (nI 8)) → mW G d ad M_Mo_keep 71 [o0, o1, some (.int x2), o3, o4] st μ P) (kf : (x2 = (nI 8)) → mW G d ad M_Mo_keep 34 [o0, o1, some (.int x2), o3, o4] st μ P) : mW G d ad M_Mo_keep 28 [o0, o1, some (.int x2), o3, o4] st μ P :=
  fun H0 H hM hm hu => zw_iload_n (i := 2) dMo_keep_28 rfl rfl <| zw_bipush (nI 8) dMo_keep_29 zkb_8 <| zw_icmp_ne 71 dMo_keep_31 (by decide) (fun h => kt h H0 H hM hm hu) (fun h => kf h H0 H hM hm hu)
theorem sMo_keep_34 {G : zG} {d : Nat} {ad : Nat → Nat} {μ : zMm} {P : Option Value → zMm → Prop} {st : List Value} {o0 : Option Value} {o1 : Option Value} {o2 : Option Value} {o3 : Option Value} {o4 : Option Value} (kk : mW G d ad M_Mo_keep 38 [o0, o1, some (.int (nI 0)), some (.int (nI 1)), o4] st μ P) : mW G d ad M_Mo_keep 34 [o0, o1, o2, o3, o4] st μ P :=
  fun H0 H hM hm hu => zw_iconst (nI 0) dMo_keep_34 zki_0 <| zw_istore_n (i := 2) dMo_keep_35 rfl (Nat.le_of_ble_eq_true rfl) <| zw_iconst (nI 1) dMo_keep_36 zki_1 <| zw_istore_n (i := 3) dMo_keep_37 rfl (Nat.le_of_ble_eq_true rfl) <| kk H0 H hM hm hu
theorem sMo_keep_38 {G : zG} {d : Nat} {ad : Nat → Nat} {μ : zMm} {P : Option Value → zMm → Prop} {st : List Value} {o0 : Option Value} {o1 : Option Value} {o2 : Option Value} {o4 : Option Value} {x3 : Int32} (kt : ((nI 8) ≤ x3) → mW G d ad M_Mo_keep 71 [o0, o1, o2, some (.int x3), o4] st μ P) (kf : (¬ (nI 8) ≤ x3) → mW G d ad M_Mo_keep 44 [o0, o1, o2, some (.int x3), o4] st μ P) : mW G d ad M_Mo_keep 38 [o0, o1, o2, some (.int x3), o4] st μ P :=
  fun H0 H hM hm hu => zw_iload_n (i := 3) dMo_keep_38 rfl rfl <| zw_bipush (nI 8) dMo_keep_39 zkb_8 <| zw_icmp_ge 71 dMo_keep_41 (by decide) (fun h => kt h H0 H hM hm hu) (fun h => kf h H0 H hM hm hu)
theorem sMo_keep_44 {G : zG} {d : Nat} {ad : Nat → Nat} {μ : zMm} {P : Option Value → zMm → Prop} {st : List Value} {o1 : Option Value} {o4 : Option Value} {x3 : Int32} {x2 : Int32} {i1 : Nat} {i2 : Nat} (hx1 : x3 = nI i1) (hi1 : i1 < mLn 29) (hx2 : x2 = nI i2) (hi2 : i2 < mLn 29) (kt : ((μ.2 29 i2) ≤ (μ.2 29 i1)) → mW G d ad M_Mo_keep 63 [some (.ref (ad 50)), o1, some (.int x2), some (.int x3), o4] st μ P) (kf : (¬ (μ.2 29 i2) ≤ (μ.2 29 i1)) → mW G d ad M_Mo_keep 59 [some (.ref (ad 50)), o1, some (.int x2), some (.int x3), o4] st μ P) : mW G d ad M_Mo_keep 44 [some (.ref (ad 50)), o1, some (.int x2), some (.int x3), o4] st μ P :=
  fun H0 H hM hm hu => zw_aload_n (i := 0) dMo_keep_44 rfl rfl zRf_ref <| zw_getf dMo_keep_45 zf_Mo_223 (hM.fa 29 (Nat.le_of_ble_eq_true rfl) mn_29) <| zw_iload_n (i := 3) dMo_keep_48 rfl rfl <| zw_ialdN (g := μ.2 29) dMo_keep_49 (hM.ai mk_29) hx1 hi1 (mLn_le _) <| zw_aload_n (i := 0) dMo_keep_50 rfl rfl zRf_ref <| zw_getf dMo_keep_51 zf_Mo_223 (hM.fa 29 (Nat.le_of_ble_eq_true rfl) mn_29) <| zw_iload_n (i := 2) dMo_keep_54 rfl rfl <| zw_ialdN (g := μ.2 29) dMo_keep_55 (hM.ai mk_29) hx2 hi2 (mLn_le _) <| zw_icmp_ge 63 dMo_keep_56 (by decide) (fun h => kt h H0 H hM hm hu) (fun h => kf h H0 H hM hm hu)
theorem sMo_keep_59 {G : zG} {d : Nat} {ad : Nat → Nat} {μ : zMm} {P : Option Value → zMm → Prop} {st : List Value} {o0 : Option Value} {o1 : Option Value} {o2 : Option Value} {o4 : Option Value} {x3 : Int32} (kk : mW G d ad M_Mo_keep 38 [o0, o1, some (.int x3), some (.int (x3 + (nI 1))), o4] st μ P) : mW G d ad M_Mo_keep 59 [o0, o1, o2, some (.int x3), o4] st μ P :=
  fun H0 H hM hm hu => zw_iload_n (i := 3) dMo_keep_59 rfl rfl <| zw_goto 64 dMo_keep_60 (by decide) <| zw_istore_n (i := 2) dMo_keep_64 rfl (Nat.le_of_ble_eq_true rfl) <| zw_iinc (i := 3) (x3 + (nI 1)) dMo_keep_65 rfl (congrArg (fun z => x3 + z) zki_1) <| zw_goto 38 dMo_keep_68 (by decide) <| kk H0 H hM hm hu
theorem sMo_keep_63 {G : zG} {d : Nat} {ad : Nat → Nat} {μ : zMm} {P : Option Value → zMm → Prop} {st : List Value} {o0 : Option Value} {o1 : Option Value} {o4 : Option Value} {x2 : Int32} {x3 : Int32} (kk : mW G d ad M_Mo_keep 38 [o0, o1, some (.int x2), some (.int (x3 + (nI 1))), o4] st μ P) : mW G d ad M_Mo_keep 63 [o0, o1, some (.int x2), some (.int x3), o4] st μ P :=
  fun H0 H hM hm hu => zw_iload_n (i := 2) dMo_keep_63 rfl rfl <| zw_istore_n (i := 2) dMo_keep_64 rfl (Nat.le_of_ble_eq_true rfl) <| zw_iinc (i := 3) (x3 + (nI 1)) dMo_keep_65 rfl (congrArg (fun z => x3 + z) zki_1) <| zw_goto 38 dMo_keep_68 (by decide) <| kk H0 H hM hm hu
theorem sMo_keep_64 {G : zG} {d : Nat} {ad : Nat → Nat} {μ : zMm} {P : Option Value → zMm → Prop} {st : List Value} {o0 : Option Value} {o1 : Option Value} {o2 : Option Value} {o4 : Option Value} {xs0 : Int32} {x3 : Int32} (kk : mW G d ad M_Mo_keep 38 [o0, o1, some (.int xs0), some (.int (x3 + (nI 1))), o4] st μ P) : mW G d ad M_Mo_keep 64 [o0, o1, o2, some (.int x3), o4] ((.int xs0) :: st) μ P :=
  fun H0 H hM hm hu => zw_istore_n (i := 2) dMo_keep_64 rfl (Nat.le_of_ble_eq_true rfl) <| zw_iinc (i := 3) (x3 + (nI 1)) dMo_keep_65 rfl (congrArg (fun z => x3 + z) zki_1) <| zw_goto 38 dMo_keep_68 (by decide) <| kk H0 H hM hm hu
theorem sMo_keep_71 {G : zG} {d : Nat} {ad : Nat → Nat} {μ : zMm} {P : Option Value → zMm → Prop} {st : List Value} {o1 : Option Value} {o3 : Option Value} {o4 : Option Value} {x2 : Int32} (kt : (¬ x2 = (μ.1 26)) → mW G d ad M_Mo_keep 89 [some (.ref (ad 50)), o1, some (.int x2), o3, o4] ((.ref (ad 50)) :: st) μ P) (kf : (x2 = (μ.1 26)) → mW G d ad M_Mo_keep 80 [some (.ref (ad 50)), o1, some (.int x2), o3, o4] ((.ref (ad 50)) :: st) μ P) : mW G d ad M_Mo_keep 71 [some (.ref (ad 50)), o1, some (.int x2), o3, o4] st μ P :=
  fun H0 H hM hm hu => zw_aload_n (i := 0) dMo_keep_71 rfl rfl zRf_ref <| zw_iload_n (i := 2) dMo_keep_72 rfl rfl <| zw_aload_n (i := 0) dMo_keep_73 rfl rfl zRf_ref <| zw_getf dMo_keep_74 zf_Mo_220 (hM.fi 26 (Nat.le_of_ble_eq_true rfl) mz_26) <| zw_icmp_ne 89 dMo_keep_77 (by decide) (fun h => kt h H0 H hM hm hu) (fun h => kf h H0 H hM hm hu)
theorem sMo_keep_80 {G : zG} {d : Nat} {ad : Nat → Nat} {μ : zMm} {P : Option Value → zMm → Prop} {st : List Value} {o1 : Option Value} {o2 : Option Value} {o3 : Option Value} {o4 : Option Value} (kk : mW G d ad M_Mo_keep 96 [some (.ref (ad 50)), o1, o2, o3, o4] st (upd μ.1 26 ((μ.1 26) + (nI 1)), μ.2) P) : mW G d ad M_Mo_keep 80 [some (.ref (ad 50)), o1, o2, o3, o4] ((.ref (ad 50)) :: st) μ P :=
  fun H0 H hM hm hu => zw_aload_n (i := 0) dMo_keep_80 rfl rfl zRf_ref <| zw_getf dMo_keep_81 zf_Mo_220 (hM.fi 26 (Nat.le_of_ble_eq_true rfl) mz_26) <| zw_iconst (nI 1) dMo_keep_84 zki_1 <| zw_iadd dMo_keep_85 <| zw_goto 93 dMo_keep_86 (by decide) <| (mw_puti (M := M_Mo_keep) (pc := 93) (k := 26) (v := ((μ.1 26) + (nI 1))) dMo_keep_93 zp_Mo_keep_220 (Nat.le_of_ble_eq_true rfl) mz_26 rfl rfl kk) H0 H hM hm hu
theorem sMo_keep_89 {G : zG} {d : Nat} {ad : Nat → Nat} {μ : zMm} {P : Option Value → zMm → Prop} {st : List Value} {o1 : Option Value} {o2 : Option Value} {o3 : Option Value} {o4 : Option Value} (kk : mW G d ad M_Mo_keep 96 [some (.ref (ad 50)), o1, o2, o3, o4] st (upd μ.1 26 (μ.1 26), μ.2) P) : mW G d ad M_Mo_keep 89 [some (.ref (ad 50)), o1, o2, o3, o4] ((.ref (ad 50)) :: st) μ P :=
  fun H0 H hM hm hu => zw_aload_n (i := 0) dMo_keep_89 rfl rfl zRf_ref <| zw_getf dMo_keep_90 zf_Mo_220 (hM.fi 26 (Nat.le_of_ble_eq_true rfl) mz_26) <| (mw_puti (M := M_Mo_keep) (pc := 93) (k := 26) (v := (μ.1 26)) dMo_keep_93 zp_Mo_keep_220 (Nat.le_of_ble_eq_true rfl) mz_26 rfl rfl kk) H0 H hM hm hu
theorem sMo_keep_93 {G : zG} {d : Nat} {ad : Nat → Nat} {μ : zMm} {P : Option Value → zMm → Prop} {st : List Value} {o0 : Option Value} {o1 : Option Value} {o2 : Option Value} {o3 : Option Value} {o4 : Option Value} {xs0 : Int32} (kk : mW G d ad M_Mo_keep 96 [o0, o1, o2, o3, o4] st (upd μ.1 26 xs0, μ.2) P) : mW G d ad M_Mo_keep 93 [o0, o1, o2, o3, o4] ((.int xs0) :: (.ref (ad 50)) :: st) μ P :=
  fun H0 H hM hm hu => (mw_puti (M := M_Mo_keep) (pc := 93) (k := 26) (v := xs0) dMo_keep_93 zp_Mo_keep_220 (Nat.le_of_ble_eq_true rfl) mz_26 rfl rfl kk) H0 H hM hm hu
theorem sMo_keep_96 {G : zG} {d : Nat} {ad : Nat → Nat} {μ : zMm} {P : Option Value → zMm → Prop} {st : List Value} {o1 : Option Value} {o3 : Option Value} {o4 : Option Value} {x2 : Int32} {P2 : zMm → Prop} (hd : 1 ≤ d) (hl : st.length ≤ 4) (hc : mC G (d - 1) ad M_Mo_copyRow [(.ref (ad 50)), (.int ((nI 18) + x2)), (.int (nI 4))] μ (mPv P2)) (kk : ∀ μ1 : zMm, P2 μ1 → mW G d ad M_Mo_keep 105 [some (.ref (ad 50)), o1, some (.int x2), o3, o4] st μ1 P) : mW G d ad M_Mo_keep 96 [some (.ref (ad 50)), o1, some (.int x2), o3, o4] st μ P :=
  fun H0 H hM hm hu => zw_aload_n (i := 0) dMo_keep_96 rfl rfl zRf_ref <| zw_bipush (nI 18) dMo_keep_97 zkb_18 <| zw_iload_n (i := 2) dMo_keep_99 rfl rfl <| zw_iadd dMo_keep_100 <| zw_iconst (nI 4) dMo_keep_101 zki_4 <| zw_callV [(.int ((nI 18) + x2)), (.int (nI 4))] _ dMo_keep_102 hd zk_Mo_148 hM.is rfl rfl hl (hc H hM) (mPv_k kk hm hu)
theorem sMo_keep_105 {G : zG} {d : Nat} {ad : Nat → Nat} {μ : zMm} {P : Option Value → zMm → Prop} {st : List Value} {o3 : Option Value} {o4 : Option Value} {x2 : Int32} {x1 : Int32} {i1 : Nat} {i : Nat} (hx1 : x1 = nI i1) (hi1 : i1 < mLn 19) (hx : x2 = nI i) (hi : i < mLn 28) (kk : mW G d ad M_Mo_keep 122 [some (.ref (ad 50)), some (.int x1), some (.int x2), o3, o4] st (μ.1, updA μ.2 28 i ((μ.1 25) + (μ.2 19 i1))) P) : mW G d ad M_Mo_keep 105 [some (.ref (ad 50)), some (.int x1), some (.int x2), o3, o4] st μ P :=
  fun H0 H hM hm hu => zw_aload_n (i := 0) dMo_keep_105 rfl rfl zRf_ref <| zw_getf dMo_keep_106 zf_Mo_226 (hM.fa 28 (Nat.le_of_ble_eq_true rfl) mn_28) <| zw_iload_n (i := 2) dMo_keep_109 rfl rfl <| zw_aload_n (i := 0) dMo_keep_110 rfl rfl zRf_ref <| zw_getf dMo_keep_111 zf_Mo_229 (hM.fi 25 (Nat.le_of_ble_eq_true rfl) mz_25) <| zw_aload_n (i := 0) dMo_keep_114 rfl rfl zRf_ref <| zw_getf dMo_keep_115 zf_Mo_177 (hM.fa 19 (Nat.le_of_ble_eq_true rfl) mn_19) <| zw_iload_n (i := 1) dMo_keep_118 rfl rfl <| zw_ialdN (g := μ.2 19) dMo_keep_119 (hM.ai mk_19) hx1 hi1 (mLn_le _) <| zw_iadd dMo_keep_120 <| (mw_iast (M := M_Mo_keep) (pc := 121) (k := 28) dMo_keep_121 mk_28 hx hi kk) H0 H hM hm hu
theorem sMo_keep_122 {G : zG} {d : Nat} {ad : Nat → Nat} {μ : zMm} {P : Option Value → zMm → Prop} {st : List Value} {o1 : Option Value} {o3 : Option Value} {o4 : Option Value} {x2 : Int32} {i : Nat} (hx : x2 = nI i) (hi : i < mLn 29) (kk : mW G d ad M_Mo_keep 132 [some (.ref (ad 50)), o1, some (.int x2), o3, o4] st (μ.1, updA μ.2 29 i (μ.1 27)) P) : mW G d ad M_Mo_keep 122 [some (.ref (ad 50)), o1, some (.int x2), o3, o4] st μ P :=
  fun H0 H hM hm hu => zw_aload_n (i := 0) dMo_keep_122 rfl rfl zRf_ref <| zw_getf dMo_keep_123 zf_Mo_223 (hM.fa 29 (Nat.le_of_ble_eq_true rfl) mn_29) <| zw_iload_n (i := 2) dMo_keep_126 rfl rfl <| zw_aload_n (i := 0) dMo_keep_127 rfl rfl zRf_ref <| zw_getf dMo_keep_128 zf_Mo_232 (hM.fi 27 (Nat.le_of_ble_eq_true rfl) mz_27) <| (mw_iast (M := M_Mo_keep) (pc := 131) (k := 29) dMo_keep_131 mk_29 hx hi kk) H0 H hM hm hu
theorem sMo_keep_132 {G : zG} {d : Nat} {ad : Nat → Nat} {μ : zMm} {P : Option Value → zMm → Prop} {st : List Value} {o1 : Option Value} {o2 : Option Value} {o3 : Option Value} {o4 : Option Value} (kk : mW G d ad M_Mo_keep 142 [some (.ref (ad 50)), o1, o2, o3, o4] st (upd μ.1 27 ((μ.1 27) + (nI 1)), μ.2) P) : mW G d ad M_Mo_keep 132 [some (.ref (ad 50)), o1, o2, o3, o4] st μ P :=
  fun H0 H hM hm hu => zw_aload_n (i := 0) dMo_keep_132 rfl rfl zRf_ref <| zw_dup dMo_keep_133 rfl <| zw_getf dMo_keep_134 zf_Mo_232 (hM.fi 27 (Nat.le_of_ble_eq_true rfl) mz_27) <| zw_iconst (nI 1) dMo_keep_137 zki_1 <| zw_iadd dMo_keep_138 <| (mw_puti (M := M_Mo_keep) (pc := 139) (k := 27) (v := ((μ.1 27) + (nI 1))) dMo_keep_139 zp_Mo_keep_232 (Nat.le_of_ble_eq_true rfl) mz_27 rfl rfl kk) H0 H hM hm hu
theorem sMo_keep_142 {G : zG} {d : Nat} {ad : Nat → Nat} {μ : zMm} {P : Option Value → zMm → Prop} {st : List Value} {o3 : Option Value} {o4 : Option Value} {x2 : Int32} {x1 : Int32} {i1 : Nat} {i : Nat} (hx1 : x1 = nI i1) (hi1 : i1 < mLn 18) (hx : ((nI 12) + x2) = nI i) (hi : i < mLn 18) (kk : mW G d ad M_Mo_keep 159 [some (.ref (ad 50)), some (.int x1), some (.int x2), some (.int ((nI 12) + x2)), o4] st (μ.1, updA μ.2 18 i (μ.2 18 i1)) P) : mW G d ad M_Mo_keep 142 [some (.ref (ad 50)), some (.int x1), some (.int x2), o3, o4] st μ P :=
  fun H0 H hM hm hu => zw_bipush (nI 12) dMo_keep_142 zkb_12 <| zw_iload_n (i := 2) dMo_keep_144 rfl rfl <| zw_iadd dMo_keep_145 <| zw_istore_n (i := 3) dMo_keep_146 rfl (Nat.le_of_ble_eq_true rfl) <| zw_aload_n (i := 0) dMo_keep_147 rfl rfl zRf_ref <| zw_getf dMo_keep_148 zf_Mo_171 (hM.fa 18 (Nat.le_of_ble_eq_true rfl) mn_18) <| zw_iload_n (i := 3) dMo_keep_151 rfl rfl <| zw_aload_n (i := 0) dMo_keep_152 rfl rfl zRf_ref <| zw_getf dMo_keep_153 zf_Mo_171 (hM.fa 18 (Nat.le_of_ble_eq_true rfl) mn_18) <| zw_iload_n (i := 1) dMo_keep_156 rfl rfl <| zw_ialdN (g := μ.2 18) dMo_keep_157 (hM.ai mk_18) hx1 hi1 (mLn_le _) <| (mw_iast (M := M_Mo_keep) (pc := 158) (k := 18) dMo_keep_158 mk_18 hx hi kk) H0 H hM hm hu
theorem sMo_keep_159 {G : zG} {d : Nat} {ad : Nat → Nat} {μ : zMm} {P : Option Value → zMm → Prop} {st : List Value} {o0 : Option Value} {o1 : Option Value} {o2 : Option Value} {o3 : Option Value} {o4 : Option Value} (kk : mW G d ad M_Mo_keep 162 [o0, o1, o2, o3, some (.int (nI 0))] st μ P) : mW G d ad M_Mo_keep 159 [o0, o1, o2, o3, o4] st μ P :=
  fun H0 H hM hm hu => zw_iconst (nI 0) dMo_keep_159 zki_0 <| zw_istore (i := 4) dMo_keep_160 (Nat.le_of_ble_eq_true rfl) <| kk H0 H hM hm hu
theorem sMo_keep_162 {G : zG} {d : Nat} {ad : Nat → Nat} {μ : zMm} {P : Option Value → zMm → Prop} {st : List Value} {o2 : Option Value} {o3 : Option Value} {x4 : Int32} {x1 : Int32} {i1 : Nat} (hx1 : x1 = nI i1) (hi1 : i1 < mLn 18) (kt : ((μ.2 18 i1) ≤ x4) → mW G d ad M_Mo_keep 205 [some (.ref (ad 50)), some (.int x1), o2, o3, some (.int x4)] st μ P) (kf : (¬ (μ.2 18 i1) ≤ x4) → mW G d ad M_Mo_keep 173 [some (.ref (ad 50)), some (.int x1), o2, o3, some (.int x4)] st μ P) : mW G d ad M_Mo_keep 162 [some (.ref (ad 50)), some (.int x1), o2, o3, some (.int x4)] st μ P :=
  fun H0 H hM hm hu => zw_iload (i := 4) dMo_keep_162 rfl <| zw_aload_n (i := 0) dMo_keep_164 rfl rfl zRf_ref <| zw_getf dMo_keep_165 zf_Mo_171 (hM.fa 18 (Nat.le_of_ble_eq_true rfl) mn_18) <| zw_iload_n (i := 1) dMo_keep_168 rfl rfl <| zw_ialdN (g := μ.2 18) dMo_keep_169 (hM.ai mk_18) hx1 hi1 (mLn_le _) <| zw_icmp_ge 205 dMo_keep_170 (by decide) (fun h => kt h H0 H hM hm hu) (fun h => kf h H0 H hM hm hu)
theorem sMo_keep_173 {G : zG} {d : Nat} {ad : Nat → Nat} {μ : zMm} {P : Option Value → zMm → Prop} {st : List Value} {o2 : Option Value} {x3 : Int32} {x4 : Int32} {x1 : Int32} {i1 : Nat} {i : Nat} (hx1 : ((x1 * (nI 1500)) + x4) = nI i1) (hi1 : i1 < mLn 17) (hx : ((x3 * (nI 1500)) + x4) = nI i) (hi : i < mLn 17) (kk : mW G d ad M_Mo_keep 199 [some (.ref (ad 50)), some (.int x1), o2, some (.int x3), some (.int x4)] st (μ.1, updA μ.2 17 i ((μ.2 17 i1)).toInt8.toInt32) P) : mW G d ad M_Mo_keep 173 [some (.ref (ad 50)), some (.int x1), o2, some (.int x3), some (.int x4)] st μ P :=
  fun H0 H hM hm hu => zw_aload_n (i := 0) dMo_keep_173 rfl rfl zRf_ref <| zw_getf dMo_keep_174 zf_Mo_174 (hM.fa 17 (Nat.le_of_ble_eq_true rfl) mn_17) <| zw_iload_n (i := 3) dMo_keep_177 rfl rfl <| zw_sipush (nI 1500) dMo_keep_178 zks_1500 <| zw_imul dMo_keep_181 <| zw_iload (i := 4) dMo_keep_182 rfl <| zw_iadd dMo_keep_184 <| zw_aload_n (i := 0) dMo_keep_185 rfl rfl zRf_ref <| zw_getf dMo_keep_186 zf_Mo_174 (hM.fa 17 (Nat.le_of_ble_eq_true rfl) mn_17) <| zw_iload_n (i := 1) dMo_keep_189 rfl rfl <| zw_sipush (nI 1500) dMo_keep_190 zks_1500 <| zw_imul dMo_keep_193 <| zw_iload (i := 4) dMo_keep_194 rfl <| zw_iadd dMo_keep_196 <| zw_baldN (g := μ.2 17) dMo_keep_197 (hM.ab mk_17) hx1 hi1 (mLn_le _) <| (mw_bast (M := M_Mo_keep) (pc := 198) (k := 17) dMo_keep_198 mk_17 hx hi kk) H0 H hM hm hu
theorem sMo_keep_199 {G : zG} {d : Nat} {ad : Nat → Nat} {μ : zMm} {P : Option Value → zMm → Prop} {st : List Value} {o0 : Option Value} {o1 : Option Value} {o2 : Option Value} {o3 : Option Value} {x4 : Int32} (kk : mW G d ad M_Mo_keep 162 [o0, o1, o2, o3, some (.int (x4 + (nI 1)))] st μ P) : mW G d ad M_Mo_keep 199 [o0, o1, o2, o3, some (.int x4)] st μ P :=
  fun H0 H hM hm hu => zw_iinc (i := 4) (x4 + (nI 1)) dMo_keep_199 rfl (congrArg (fun z => x4 + z) zki_1) <| zw_goto 162 dMo_keep_202 (by decide) <| kk H0 H hM hm hu
theorem sMo_keep_205 {G : zG} {d : Nat} {ad : Nat → Nat} {μ : zMm} {P : Option Value → zMm → Prop} {st : List Value} {o2 : Option Value} {o4 : Option Value} {x3 : Int32} {x1 : Int32} {i1 : Nat} {i : Nat} (hx1 : x1 = nI i1) (hi1 : i1 < mLn 23) (hx : x3 = nI i) (hi : i < mLn 23) (hn : narrow .boolean (.int (μ.2 23 i1)) = .int (μ.2 23 i1)) (kk : mW G d ad M_Mo_keep 217 [some (.ref (ad 50)), some (.int x1), o2, some (.int x3), o4] st (μ.1, updA μ.2 23 i (μ.2 23 i1)) P) : mW G d ad M_Mo_keep 205 [some (.ref (ad 50)), some (.int x1), o2, some (.int x3), o4] st μ P :=
  fun H0 H hM hm hu => zw_aload_n (i := 0) dMo_keep_205 rfl rfl zRf_ref <| zw_getf dMo_keep_206 zf_Mo_189 (hM.fa 23 (Nat.le_of_ble_eq_true rfl) mn_23) <| zw_iload_n (i := 3) dMo_keep_209 rfl rfl <| zw_aload_n (i := 0) dMo_keep_210 rfl rfl zRf_ref <| zw_getf dMo_keep_211 zf_Mo_189 (hM.fa 23 (Nat.le_of_ble_eq_true rfl) mn_23) <| zw_iload_n (i := 1) dMo_keep_214 rfl rfl <| zw_zaldN (g := μ.2 23) dMo_keep_215 (hM.az mk_23) hx1 hi1 (mLn_le _) <| (mw_zast (M := M_Mo_keep) (pc := 216) (k := 23) dMo_keep_216 mk_23 hx hi hn kk) H0 H hM hm hu
theorem sMo_keep_217 {G : zG} {d : Nat} {ad : Nat → Nat} {μ : zMm} {P : Option Value → zMm → Prop} {st : List Value} {o2 : Option Value} {o3 : Option Value} {o4 : Option Value} {x1 : Int32} {i1 : Nat} (hx1 : x1 = nI i1) (hi1 : i1 < mLn 23) (kt : ((μ.2 23 i1) = 0) → mW G d ad M_Mo_keep 238 [some (.ref (ad 50)), some (.int x1), o2, o3, o4] st μ P) (kf : (¬ (μ.2 23 i1) = 0) → mW G d ad M_Mo_keep 226 [some (.ref (ad 50)), some (.int x1), o2, o3, o4] st μ P) : mW G d ad M_Mo_keep 217 [some (.ref (ad 50)), some (.int x1), o2, o3, o4] st μ P :=
  fun H0 H hM hm hu => zw_aload_n (i := 0) dMo_keep_217 rfl rfl zRf_ref <| zw_getf dMo_keep_218 zf_Mo_189 (hM.fa 23 (Nat.le_of_ble_eq_true rfl) mn_23) <| zw_iload_n (i := 1) dMo_keep_221 rfl rfl <| zw_zaldN (g := μ.2 23) dMo_keep_222 (hM.az mk_23) hx1 hi1 (mLn_le _) <| zw_if_eq 238 dMo_keep_223 (by decide) (fun h => kt h H0 H hM hm hu) (fun h => kf h H0 H hM hm hu)
theorem sMo_keep_226 {G : zG} {d : Nat} {ad : Nat → Nat} {μ : zMm} {P : Option Value → zMm → Prop} {st : List Value} {o3 : Option Value} {o4 : Option Value} {x2 : Int32} {x1 : Int32} {P2 : zMm → Prop} (hd : 1 ≤ d) (hl : st.length ≤ 4) (hc : mC G (d - 1) ad M_Mo_copyRow [(.ref (ad 50)), (.int ((nI 58) + x2)), (.int ((nI 46) + x1))] μ (mPv P2)) (kk : ∀ μ1 : zMm, P2 μ1 → mW G d ad M_Mo_keep 238 [some (.ref (ad 50)), some (.int x1), some (.int x2), o3, o4] st μ1 P) : mW G d ad M_Mo_keep 226 [some (.ref (ad 50)), some (.int x1), some (.int x2), o3, o4] st μ P :=
  fun H0 H hM hm hu => zw_aload_n (i := 0) dMo_keep_226 rfl rfl zRf_ref <| zw_bipush (nI 58) dMo_keep_227 zkb_58 <| zw_iload_n (i := 2) dMo_keep_229 rfl rfl <| zw_iadd dMo_keep_230 <| zw_bipush (nI 46) dMo_keep_231 zkb_46 <| zw_iload_n (i := 1) dMo_keep_233 rfl rfl <| zw_iadd dMo_keep_234 <| zw_callV [(.int ((nI 58) + x2)), (.int ((nI 46) + x1))] _ dMo_keep_235 hd zk_Mo_148 hM.is rfl rfl hl (hc H hM) (mPv_k kk hm hu)
theorem sMo_keep_238 {G : zG} {d : Nat} {ad : Nat → Nat} {μ : zMm} {P : Option Value → zMm → Prop} {st : List Value} {o2 : Option Value} {o4 : Option Value} {x3 : Int32} {x1 : Int32} {i1 : Nat} {i : Nat} (hx1 : x1 = nI i1) (hi1 : i1 < mLn 24) (hx : x3 = nI i) (hi : i < mLn 24) (hn : narrow .boolean (.int (μ.2 24 i1)) = .int (μ.2 24 i1)) (kk : mW G d ad M_Mo_keep 250 [some (.ref (ad 50)), some (.int x1), o2, some (.int x3), o4] st (μ.1, updA μ.2 24 i (μ.2 24 i1)) P) : mW G d ad M_Mo_keep 238 [some (.ref (ad 50)), some (.int x1), o2, some (.int x3), o4] st μ P :=
  fun H0 H hM hm hu => zw_aload_n (i := 0) dMo_keep_238 rfl rfl zRf_ref <| zw_getf dMo_keep_239 zf_Mo_193 (hM.fa 24 (Nat.le_of_ble_eq_true rfl) mn_24) <| zw_iload_n (i := 3) dMo_keep_242 rfl rfl <| zw_aload_n (i := 0) dMo_keep_243 rfl rfl zRf_ref <| zw_getf dMo_keep_244 zf_Mo_193 (hM.fa 24 (Nat.le_of_ble_eq_true rfl) mn_24) <| zw_iload_n (i := 1) dMo_keep_247 rfl rfl <| zw_zaldN (g := μ.2 24) dMo_keep_248 (hM.az mk_24) hx1 hi1 (mLn_le _) <| (mw_zast (M := M_Mo_keep) (pc := 249) (k := 24) dMo_keep_249 mk_24 hx hi hn kk) H0 H hM hm hu
theorem sMo_keep_250 {G : zG} {d : Nat} {ad : Nat → Nat} {μ : zMm} {P : Option Value → zMm → Prop} {o0 : Option Value} {o1 : Option Value} {o2 : Option Value} {o3 : Option Value} {o4 : Option Value} (hq : P none μ) : mW G d ad M_Mo_keep 250 [o0, o1, o2, o3, o4] [] μ P :=
  fun H0 H hM hm hu => zw_vret dMo_keep_250 rfl ⟨μ, hq, hM, hm, hu⟩
theorem sMo_body_0 {G : zG} {d : Nat} {ad : Nat → Nat} {μ : zMm} {P : Option Value → zMm → Prop} {st : List Value} {o0 : Option Value} {x1 : Int32} (kt : (x1 < 0) → mW G d ad M_Mo_body 12 [o0, some (.int x1)] st μ P) (kf : (¬ x1 < 0) → mW G d ad M_Mo_body 4 [o0, some (.int x1)] st μ P) : mW G d ad M_Mo_body 0 [o0, some (.int x1)] st μ P :=
  fun H0 H hM hm hu => zw_iload_n (i := 1) dMo_body_0 rfl rfl <| zw_if_lt 12 dMo_body_1 (by decide) (fun h => kt h H0 H hM hm hu) (fun h => kf h H0 H hM hm hu)
theorem sMo_body_4 {G : zG} {d : Nat} {ad : Nat → Nat} {μ : zMm} {P : Option Value → zMm → Prop} {st : List Value} {x1 : Int32} (kt : (x1 < (μ.1 48)) → mW G d ad M_Mo_body 16 [some (.ref (ad 50)), some (.int x1)] st μ P) (kf : (¬ x1 < (μ.1 48)) → mW G d ad M_Mo_body 12 [some (.ref (ad 50)), some (.int x1)] st μ P) : mW G d ad M_Mo_body 4 [some (.ref (ad 50)), some (.int x1)] st μ P :=
  fun H0 H hM hm hu => zw_iload_n (i := 1) dMo_body_4 rfl rfl <| zw_aload_n (i := 0) dMo_body_5 rfl rfl zRf_ref <| zw_getf dMo_body_6 zf_Mo_280 (hM.fi 48 (Nat.le_of_ble_eq_true rfl) mz_48) <| zw_icmp_lt 16 dMo_body_9 (by decide) (fun h => kt h H0 H hM hm hu) (fun h => kf h H0 H hM hm hu)
theorem sMo_body_12 {G : zG} {d : Nat} {ad : Nat → Nat} {μ : zMm} {P : Option Value → zMm → Prop} {o0 : Option Value} {o1 : Option Value} (hq : P (some (.int (-1 : Int32))) μ) : mW G d ad M_Mo_body 12 [o0, o1] [] μ P :=
  fun H0 H hM hm hu => zw_iconst (-1 : Int32) dMo_body_12 zki_m1 <| zw_goto 26 dMo_body_13 (by decide) <| zw_iret dMo_body_26 .int rfl rfl ⟨μ, hq, hM, hm, hu⟩
theorem sMo_body_16 {G : zG} {d : Nat} {ad : Nat → Nat} {μ : zMm} {P : Option Value → zMm → Prop} {x1 : Int32} {i1 : Nat} (hx1 : x1 = nI i1) (hi1 : i1 < mLn 47) (hq : P (some (.int ((μ.2 47 i1) &&& (nI 255)))) μ) : mW G d ad M_Mo_body 16 [some (.ref (ad 50)), some (.int x1)] [] μ P :=
  fun H0 H hM hm hu => zw_aload_n (i := 0) dMo_body_16 rfl rfl zRf_ref <| zw_getf dMo_body_17 zf_Mo_265 (hM.fa 47 (Nat.le_of_ble_eq_true rfl) mn_47) <| zw_iload_n (i := 1) dMo_body_20 rfl rfl <| zw_baldN (g := μ.2 47) dMo_body_21 (hM.ab mk_47) hx1 hi1 (mLn_le _) <| zw_sipush (nI 255) dMo_body_22 zks_255 <| zw_iand dMo_body_25 <| zw_iret dMo_body_26 .int rfl rfl ⟨μ, hq, hM, hm, hu⟩
theorem sMo_body_26 {G : zG} {d : Nat} {ad : Nat → Nat} {μ : zMm} {P : Option Value → zMm → Prop} {o0 : Option Value} {o1 : Option Value} {xs0 : Int32} (hq : P (some (.int xs0)) μ) : mW G d ad M_Mo_body 26 [o0, o1] ((.int xs0) :: []) μ P :=
  fun H0 H hM hm hu => zw_iret dMo_body_26 .int rfl rfl ⟨μ, hq, hM, hm, hu⟩
theorem sMo_tick_0 {G : zG} {d : Nat} {ad : Nat → Nat} {μ : zMm} {P : Option Value → zMm → Prop} {st : List Value} {o0 : Option Value} {x1 : Int32} (kt : (x1 < 0) → mW G d ad M_Mo_tick 11 [o0, some (.int x1)] st μ P) (kf : (¬ x1 < 0) → mW G d ad M_Mo_tick 4 [o0, some (.int x1)] st μ P) : mW G d ad M_Mo_tick 0 [o0, some (.int x1)] st μ P :=
  fun H0 H hM hm hu => zw_iload_n (i := 1) dMo_tick_0 rfl rfl <| zw_if_lt 11 dMo_tick_1 (by decide) (fun h => kt h H0 H hM hm hu) (fun h => kf h H0 H hM hm hu)
theorem sMo_tick_4 {G : zG} {d : Nat} {ad : Nat → Nat} {μ : zMm} {P : Option Value → zMm → Prop} {st : List Value} {o0 : Option Value} {x1 : Int32} (kt : (x1 ≤ (nI 1000)) → mW G d ad M_Mo_tick 13 [o0, some (.int x1)] st μ P) (kf : (¬ x1 ≤ (nI 1000)) → mW G d ad M_Mo_tick 11 [o0, some (.int x1)] st μ P) : mW G d ad M_Mo_tick 4 [o0, some (.int x1)] st μ P :=
  fun H0 H hM hm hu => zw_iload_n (i := 1) dMo_tick_4 rfl rfl <| zw_sipush (nI 1000) dMo_tick_5 zks_1000 <| zw_icmp_le 13 dMo_tick_8 (by decide) (fun h => kt h H0 H hM hm hu) (fun h => kf h H0 H hM hm hu)
theorem sMo_tick_11 {G : zG} {d : Nat} {ad : Nat → Nat} {μ : zMm} {P : Option Value → zMm → Prop} {o0 : Option Value} {o1 : Option Value} (hq : P (some (.int (-1 : Int32))) μ) : mW G d ad M_Mo_tick 11 [o0, o1] [] μ P :=
  fun H0 H hM hm hu => zw_iconst (-1 : Int32) dMo_tick_11 zki_m1 <| zw_iret dMo_tick_12 .int rfl rfl ⟨μ, hq, hM, hm, hu⟩
theorem sMo_tick_13 {G : zG} {d : Nat} {ad : Nat → Nat} {μ : zMm} {P : Option Value → zMm → Prop} {st : List Value} {x1 : Int32} (kk : mW G d ad M_Mo_tick 23 [some (.ref (ad 50)), some (.int x1)] st (upd μ.1 25 ((μ.1 25) + x1), μ.2) P) : mW G d ad M_Mo_tick 13 [some (.ref (ad 50)), some (.int x1)] st μ P :=
  fun H0 H hM hm hu => zw_aload_n (i := 0) dMo_tick_13 rfl rfl zRf_ref <| zw_dup dMo_tick_14 rfl <| zw_getf dMo_tick_15 zf_Mo_229 (hM.fi 25 (Nat.le_of_ble_eq_true rfl) mz_25) <| zw_iload_n (i := 1) dMo_tick_18 rfl rfl <| zw_iadd dMo_tick_19 <| (mw_puti (M := M_Mo_tick) (pc := 20) (k := 25) (v := ((μ.1 25) + x1)) dMo_tick_20 zp_Mo_tick_229 (Nat.le_of_ble_eq_true rfl) mz_25 rfl rfl kk) H0 H hM hm hu
theorem sMo_tick_23 {G : zG} {d : Nat} {ad : Nat → Nat} {μ : zMm} {P : Option Value → zMm → Prop} {o1 : Option Value} (hq : P (some (.int (μ.1 25))) μ) : mW G d ad M_Mo_tick 23 [some (.ref (ad 50)), o1] [] μ P :=
  fun H0 H hM hm hu => zw_aload_n (i := 0) dMo_tick_23 rfl rfl zRf_ref <| zw_getf dMo_tick_24 zf_Mo_229 (hM.fi 25 (Nat.le_of_ble_eq_true rfl) mz_25) <| zw_iret dMo_tick_27 .int rfl rfl ⟨μ, hq, hM, hm, hu⟩
theorem sMo_forget_0 {G : zG} {d : Nat} {ad : Nat → Nat} {μ : zMm} {P : Option Value → zMm → Prop} {st : List Value} {o1 : Option Value} {o2 : Option Value} {o3 : Option Value} {o4 : Option Value} {o5 : Option Value} {o6 : Option Value} {P2 : Int32 → zMm → Prop} (hd : 1 ≤ d) (hl : st.length ≤ 4) (hc : mC G (d - 1) ad M_Mo_take [(.ref (ad 50))] μ (mPi P2)) (kk : ∀ (r : Int32) (μ1 : zMm), P2 r μ1 → mW G d ad M_Mo_forget 4 [some (.ref (ad 50)), o1, o2, o3, o4, o5, o6] ((.int r) :: st) μ1 P) : mW G d ad M_Mo_forget 0 [some (.ref (ad 50)), o1, o2, o3, o4, o5, o6] st μ P :=
  fun H0 H hM hm hu => zw_aload_n (i := 0) dMo_forget_0 rfl rfl zRf_ref <| zw_callV [] _ dMo_forget_1 hd zk_Mo_151 hM.is rfl rfl hl (hc H hM) (mPi_k kk hm hu)
theorem sMo_forget_4 {G : zG} {d : Nat} {ad : Nat → Nat} {μ : zMm} {P : Option Value → zMm → Prop} {st : List Value} {o0 : Option Value} {o1 : Option Value} {o2 : Option Value} {o3 : Option Value} {o4 : Option Value} {o5 : Option Value} {o6 : Option Value} {xs0 : Int32} (kt : (xs0 < 0) → mW G d ad M_Mo_forget 14 [o0, some (.int xs0), o2, o3, o4, o5, o6] st μ P) (kf : (¬ xs0 < 0) → mW G d ad M_Mo_forget 9 [o0, some (.int xs0), o2, o3, o4, o5, o6] st μ P) : mW G d ad M_Mo_forget 4 [o0, o1, o2, o3, o4, o5, o6] ((.int xs0) :: st) μ P :=
  fun H0 H hM hm hu => zw_istore_n (i := 1) dMo_forget_4 rfl (Nat.le_of_ble_eq_true rfl) <| zw_iload_n (i := 1) dMo_forget_5 rfl rfl <| zw_if_lt 14 dMo_forget_6 (by decide) (fun h => kt h H0 H hM hm hu) (fun h => kf h H0 H hM hm hu)
theorem sMo_forget_9 {G : zG} {d : Nat} {ad : Nat → Nat} {μ : zMm} {P : Option Value → zMm → Prop} {st : List Value} {o0 : Option Value} {o2 : Option Value} {o3 : Option Value} {o4 : Option Value} {o5 : Option Value} {o6 : Option Value} {x1 : Int32} {P2 : Int32 → zMm → Prop} (hd : 1 ≤ d) (hl : st.length ≤ 4) (hc : mC G (d - 1) ad M_Mo_wrong [(.int x1)] μ (mPi P2)) (kk : ∀ (r : Int32) (μ1 : zMm), P2 r μ1 → mW G d ad M_Mo_forget 13 [o0, some (.int x1), o2, o3, o4, o5, o6] ((.int r) :: st) μ1 P) : mW G d ad M_Mo_forget 9 [o0, some (.int x1), o2, o3, o4, o5, o6] st μ P :=
  fun H0 H hM hm hu => zw_iload_n (i := 1) dMo_forget_9 rfl rfl <| zw_callS [(.int x1)] _ dMo_forget_10 hd zk_Mo_155 rfl rfl hl (hc H hM) (mPi_k kk hm hu)
theorem sMo_forget_13 {G : zG} {d : Nat} {ad : Nat → Nat} {μ : zMm} {P : Option Value → zMm → Prop} {o0 : Option Value} {o1 : Option Value} {o2 : Option Value} {o3 : Option Value} {o4 : Option Value} {o5 : Option Value} {o6 : Option Value} {xs0 : Int32} (hq : P (some (.int xs0)) μ) : mW G d ad M_Mo_forget 13 [o0, o1, o2, o3, o4, o5, o6] ((.int xs0) :: []) μ P :=
  fun H0 H hM hm hu => zw_iret dMo_forget_13 .int rfl rfl ⟨μ, hq, hM, hm, hu⟩
theorem sMo_forget_14 {G : zG} {d : Nat} {ad : Nat → Nat} {μ : zMm} {P : Option Value → zMm → Prop} {st : List Value} {o0 : Option Value} {o1 : Option Value} {o2 : Option Value} {o3 : Option Value} {o4 : Option Value} {o5 : Option Value} {o6 : Option Value} (kk : mW G d ad M_Mo_forget 16 [o0, o1, some (.int (nI 0)), o3, o4, o5, o6] st μ P) : mW G d ad M_Mo_forget 14 [o0, o1, o2, o3, o4, o5, o6] st μ P :=
  fun H0 H hM hm hu => zw_iconst (nI 0) dMo_forget_14 zki_0 <| zw_istore_n (i := 2) dMo_forget_15 rfl (Nat.le_of_ble_eq_true rfl) <| kk H0 H hM hm hu
theorem sMo_forget_16 {G : zG} {d : Nat} {ad : Nat → Nat} {μ : zMm} {P : Option Value → zMm → Prop} {st : List Value} {o1 : Option Value} {o3 : Option Value} {o4 : Option Value} {o5 : Option Value} {o6 : Option Value} {x2 : Int32} (kt : ((μ.1 3) ≤ x2) → mW G d ad M_Mo_forget 64 [some (.ref (ad 50)), o1, some (.int x2), o3, o4, o5, o6] st μ P) (kf : (¬ (μ.1 3) ≤ x2) → mW G d ad M_Mo_forget 24 [some (.ref (ad 50)), o1, some (.int x2), o3, o4, o5, o6] st μ P) : mW G d ad M_Mo_forget 16 [some (.ref (ad 50)), o1, some (.int x2), o3, o4, o5, o6] st μ P :=
  fun H0 H hM hm hu => zw_iload_n (i := 2) dMo_forget_16 rfl rfl <| zw_aload_n (i := 0) dMo_forget_17 rfl rfl zRf_ref <| zw_getf dMo_forget_18 zf_Mo_18 (hM.fi 3 (Nat.le_of_ble_eq_true rfl) mz_3) <| zw_icmp_ge 64 dMo_forget_21 (by decide) (fun h => kt h H0 H hM hm hu) (fun h => kf h H0 H hM hm hu)
theorem sMo_forget_24 {G : zG} {d : Nat} {ad : Nat → Nat} {μ : zMm} {P : Option Value → zMm → Prop} {st : List Value} {o0 : Option Value} {o1 : Option Value} {o3 : Option Value} {o4 : Option Value} {o5 : Option Value} {o6 : Option Value} {x2 : Int32} (kt : ((nI 8) ≤ x2) → mW G d ad M_Mo_forget 64 [o0, o1, some (.int x2), o3, o4, o5, o6] st μ P) (kf : (¬ (nI 8) ≤ x2) → mW G d ad M_Mo_forget 30 [o0, o1, some (.int x2), o3, o4, o5, o6] st μ P) : mW G d ad M_Mo_forget 24 [o0, o1, some (.int x2), o3, o4, o5, o6] st μ P :=
  fun H0 H hM hm hu => zw_iload_n (i := 2) dMo_forget_24 rfl rfl <| zw_bipush (nI 8) dMo_forget_25 zkb_8 <| zw_icmp_ge 64 dMo_forget_27 (by decide) (fun h => kt h H0 H hM hm hu) (fun h => kf h H0 H hM hm hu)
theorem sMo_forget_30 {G : zG} {d : Nat} {ad : Nat → Nat} {μ : zMm} {P : Option Value → zMm → Prop} {st : List Value} {o1 : Option Value} {o3 : Option Value} {o4 : Option Value} {o5 : Option Value} {o6 : Option Value} {x2 : Int32} {i1 : Nat} {P2 : Int32 → zMm → Prop} (hx1 : x2 = nI i1) (hi1 : i1 < mLn 2) (hd : 1 ≤ d) (hl : st.length ≤ 4) (hc : mC G (d - 1) ad M_Mo_isSmall [(.int (μ.2 2 i1))] μ (mPi P2)) (kk : ∀ (r : Int32) (μ1 : zMm), P2 r μ1 → mW G d ad M_Mo_forget 39 [some (.ref (ad 50)), o1, some (.int x2), o3, o4, o5, o6] ((.int r) :: st) μ1 P) : mW G d ad M_Mo_forget 30 [some (.ref (ad 50)), o1, some (.int x2), o3, o4, o5, o6] st μ P :=
  fun H0 H hM hm hu => zw_aload_n (i := 0) dMo_forget_30 rfl rfl zRf_ref <| zw_getf dMo_forget_31 zf_Mo_21 (hM.fa 2 (Nat.le_of_ble_eq_true rfl) mn_2) <| zw_iload_n (i := 2) dMo_forget_34 rfl rfl <| zw_baldN (g := μ.2 2) dMo_forget_35 (hM.ab mk_2) hx1 hi1 (mLn_le _) <| zw_callS [(.int (μ.2 2 i1))] _ dMo_forget_36 hd zk_Mo_27 rfl rfl hl (hc H hM) (mPi_k kk hm hu)
theorem sMo_forget_39 {G : zG} {d : Nat} {ad : Nat → Nat} {μ : zMm} {P : Option Value → zMm → Prop} {st : List Value} {o0 : Option Value} {o1 : Option Value} {o2 : Option Value} {o3 : Option Value} {o4 : Option Value} {o5 : Option Value} {o6 : Option Value} {xs0 : Int32} (kt : (¬ xs0 = 0) → mW G d ad M_Mo_forget 58 [o0, o1, o2, o3, o4, o5, o6] st μ P) (kf : (xs0 = 0) → mW G d ad M_Mo_forget 42 [o0, o1, o2, o3, o4, o5, o6] st μ P) : mW G d ad M_Mo_forget 39 [o0, o1, o2, o3, o4, o5, o6] ((.int xs0) :: st) μ P :=
  fun H0 H hM hm hu => zw_if_ne 58 dMo_forget_39 (by decide) (fun h => kt h H0 H hM hm hu) (fun h => kf h H0 H hM hm hu)
theorem sMo_forget_42 {G : zG} {d : Nat} {ad : Nat → Nat} {μ : zMm} {P : Option Value → zMm → Prop} {st : List Value} {o0 : Option Value} {o1 : Option Value} {o3 : Option Value} {o4 : Option Value} {o5 : Option Value} {o6 : Option Value} {x2 : Int32} (kt : (x2 ≤ 0) → mW G d ad M_Mo_forget 64 [o0, o1, some (.int x2), o3, o4, o5, o6] st μ P) (kf : (¬ x2 ≤ 0) → mW G d ad M_Mo_forget 46 [o0, o1, some (.int x2), o3, o4, o5, o6] st μ P) : mW G d ad M_Mo_forget 42 [o0, o1, some (.int x2), o3, o4, o5, o6] st μ P :=
  fun H0 H hM hm hu => zw_iload_n (i := 2) dMo_forget_42 rfl rfl <| zw_if_le 64 dMo_forget_43 (by decide) (fun h => kt h H0 H hM hm hu) (fun h => kf h H0 H hM hm hu)
theorem sMo_forget_46 {G : zG} {d : Nat} {ad : Nat → Nat} {μ : zMm} {P : Option Value → zMm → Prop} {st : List Value} {o1 : Option Value} {o3 : Option Value} {o4 : Option Value} {o5 : Option Value} {o6 : Option Value} {x2 : Int32} {i1 : Nat} {P2 : Int32 → zMm → Prop} (hx1 : x2 = nI i1) (hi1 : i1 < mLn 2) (hd : 1 ≤ d) (hl : st.length ≤ 4) (hc : mC G (d - 1) ad M_Mo_isDigit [(.int (μ.2 2 i1))] μ (mPi P2)) (kk : ∀ (r : Int32) (μ1 : zMm), P2 r μ1 → mW G d ad M_Mo_forget 55 [some (.ref (ad 50)), o1, some (.int x2), o3, o4, o5, o6] ((.int r) :: st) μ1 P) : mW G d ad M_Mo_forget 46 [some (.ref (ad 50)), o1, some (.int x2), o3, o4, o5, o6] st μ P :=
  fun H0 H hM hm hu => zw_aload_n (i := 0) dMo_forget_46 rfl rfl zRf_ref <| zw_getf dMo_forget_47 zf_Mo_21 (hM.fa 2 (Nat.le_of_ble_eq_true rfl) mn_2) <| zw_iload_n (i := 2) dMo_forget_50 rfl rfl <| zw_baldN (g := μ.2 2) dMo_forget_51 (hM.ab mk_2) hx1 hi1 (mLn_le _) <| zw_callS [(.int (μ.2 2 i1))] _ dMo_forget_52 hd zk_Mo_31 rfl rfl hl (hc H hM) (mPi_k kk hm hu)
theorem sMo_forget_55 {G : zG} {d : Nat} {ad : Nat → Nat} {μ : zMm} {P : Option Value → zMm → Prop} {st : List Value} {o0 : Option Value} {o1 : Option Value} {o2 : Option Value} {o3 : Option Value} {o4 : Option Value} {o5 : Option Value} {o6 : Option Value} {xs0 : Int32} (kt : (xs0 = 0) → mW G d ad M_Mo_forget 64 [o0, o1, o2, o3, o4, o5, o6] st μ P) (kf : (¬ xs0 = 0) → mW G d ad M_Mo_forget 58 [o0, o1, o2, o3, o4, o5, o6] st μ P) : mW G d ad M_Mo_forget 55 [o0, o1, o2, o3, o4, o5, o6] ((.int xs0) :: st) μ P :=
  fun H0 H hM hm hu => zw_if_eq 64 dMo_forget_55 (by decide) (fun h => kt h H0 H hM hm hu) (fun h => kf h H0 H hM hm hu)
theorem sMo_forget_58 {G : zG} {d : Nat} {ad : Nat → Nat} {μ : zMm} {P : Option Value → zMm → Prop} {st : List Value} {o0 : Option Value} {o1 : Option Value} {o3 : Option Value} {o4 : Option Value} {o5 : Option Value} {o6 : Option Value} {x2 : Int32} (kk : mW G d ad M_Mo_forget 16 [o0, o1, some (.int (x2 + (nI 1))), o3, o4, o5, o6] st μ P) : mW G d ad M_Mo_forget 58 [o0, o1, some (.int x2), o3, o4, o5, o6] st μ P :=
  fun H0 H hM hm hu => zw_iinc (i := 2) (x2 + (nI 1)) dMo_forget_58 rfl (congrArg (fun z => x2 + z) zki_1) <| zw_goto 16 dMo_forget_61 (by decide) <| kk H0 H hM hm hu
theorem sMo_forget_64 {G : zG} {d : Nat} {ad : Nat → Nat} {μ : zMm} {P : Option Value → zMm → Prop} {st : List Value} {o1 : Option Value} {o3 : Option Value} {o4 : Option Value} {o5 : Option Value} {o6 : Option Value} {x2 : Int32} (kt : (x2 < (μ.1 3)) → mW G d ad M_Mo_forget 79 [some (.ref (ad 50)), o1, some (.int x2), o3, o4, o5, o6] st μ P) (kf : (¬ x2 < (μ.1 3)) → mW G d ad M_Mo_forget 72 [some (.ref (ad 50)), o1, some (.int x2), o3, o4, o5, o6] st μ P) : mW G d ad M_Mo_forget 64 [some (.ref (ad 50)), o1, some (.int x2), o3, o4, o5, o6] st μ P :=
  fun H0 H hM hm hu => zw_iload_n (i := 2) dMo_forget_64 rfl rfl <| zw_aload_n (i := 0) dMo_forget_65 rfl rfl zRf_ref <| zw_getf dMo_forget_66 zf_Mo_18 (hM.fi 3 (Nat.le_of_ble_eq_true rfl) mz_3) <| zw_icmp_lt 79 dMo_forget_69 (by decide) (fun h => kt h H0 H hM hm hu) (fun h => kf h H0 H hM hm hu)
theorem sMo_forget_72 {G : zG} {d : Nat} {ad : Nat → Nat} {μ : zMm} {P : Option Value → zMm → Prop} {st : List Value} {o1 : Option Value} {o2 : Option Value} {o3 : Option Value} {o4 : Option Value} {o5 : Option Value} {o6 : Option Value} (kt : (¬ (μ.1 3) = 0) → mW G d ad M_Mo_forget 84 [some (.ref (ad 50)), o1, o2, o3, o4, o5, o6] st μ P) (kf : ((μ.1 3) = 0) → mW G d ad M_Mo_forget 79 [some (.ref (ad 50)), o1, o2, o3, o4, o5, o6] st μ P) : mW G d ad M_Mo_forget 72 [some (.ref (ad 50)), o1, o2, o3, o4, o5, o6] st μ P :=
  fun H0 H hM hm hu => zw_aload_n (i := 0) dMo_forget_72 rfl rfl zRf_ref <| zw_getf dMo_forget_73 zf_Mo_18 (hM.fi 3 (Nat.le_of_ble_eq_true rfl) mz_3) <| zw_if_ne 84 dMo_forget_76 (by decide) (fun h => kt h H0 H hM hm hu) (fun h => kf h H0 H hM hm hu)
theorem sMo_forget_79 {G : zG} {d : Nat} {ad : Nat → Nat} {μ : zMm} {P : Option Value → zMm → Prop} {st : List Value} {o0 : Option Value} {o1 : Option Value} {o3 : Option Value} {o4 : Option Value} {o5 : Option Value} {o6 : Option Value} {x2 : Int32} {P2 : Int32 → zMm → Prop} (hd : 1 ≤ d) (hl : st.length ≤ 4) (hc : mC G (d - 1) ad M_Mo_wrong [(.int x2)] μ (mPi P2)) (kk : ∀ (r : Int32) (μ1 : zMm), P2 r μ1 → mW G d ad M_Mo_forget 83 [o0, o1, some (.int x2), o3, o4, o5, o6] ((.int r) :: st) μ1 P) : mW G d ad M_Mo_forget 79 [o0, o1, some (.int x2), o3, o4, o5, o6] st μ P :=
  fun H0 H hM hm hu => zw_iload_n (i := 2) dMo_forget_79 rfl rfl <| zw_callS [(.int x2)] _ dMo_forget_80 hd zk_Mo_155 rfl rfl hl (hc H hM) (mPi_k kk hm hu)
theorem sMo_forget_83 {G : zG} {d : Nat} {ad : Nat → Nat} {μ : zMm} {P : Option Value → zMm → Prop} {o0 : Option Value} {o1 : Option Value} {o2 : Option Value} {o3 : Option Value} {o4 : Option Value} {o5 : Option Value} {o6 : Option Value} {xs0 : Int32} (hq : P (some (.int xs0)) μ) : mW G d ad M_Mo_forget 83 [o0, o1, o2, o3, o4, o5, o6] ((.int xs0) :: []) μ P :=
  fun H0 H hM hm hu => zw_iret dMo_forget_83 .int rfl rfl ⟨μ, hq, hM, hm, hu⟩
theorem sMo_forget_84 {G : zG} {d : Nat} {ad : Nat → Nat} {μ : zMm} {P : Option Value → zMm → Prop} {st : List Value} {o0 : Option Value} {o1 : Option Value} {o2 : Option Value} {o3 : Option Value} {o4 : Option Value} {o5 : Option Value} {o6 : Option Value} (kk : mW G d ad M_Mo_forget 92 [o0, o1, o2, some (.int (-1 : Int32)), some (.int (nI 0)), some (.int (nI 0)), o6] st μ P) : mW G d ad M_Mo_forget 84 [o0, o1, o2, o3, o4, o5, o6] st μ P :=
  fun H0 H hM hm hu => zw_iconst (-1 : Int32) dMo_forget_84 zki_m1 <| zw_istore_n (i := 3) dMo_forget_85 rfl (Nat.le_of_ble_eq_true rfl) <| zw_iconst (nI 0) dMo_forget_86 zki_0 <| zw_istore (i := 4) dMo_forget_87 (Nat.le_of_ble_eq_true rfl) <| zw_iconst (nI 0) dMo_forget_89 zki_0 <| zw_istore (i := 5) dMo_forget_90 (Nat.le_of_ble_eq_true rfl) <| kk H0 H hM hm hu
theorem sMo_forget_92 {G : zG} {d : Nat} {ad : Nat → Nat} {μ : zMm} {P : Option Value → zMm → Prop} {st : List Value} {o1 : Option Value} {o2 : Option Value} {o3 : Option Value} {o4 : Option Value} {o6 : Option Value} {x5 : Int32} (kt : ((μ.1 30) ≤ x5) → mW G d ad M_Mo_forget 154 [some (.ref (ad 50)), o1, o2, o3, o4, some (.int x5), o6] st μ P) (kf : (¬ (μ.1 30) ≤ x5) → mW G d ad M_Mo_forget 101 [some (.ref (ad 50)), o1, o2, o3, o4, some (.int x5), o6] st μ P) : mW G d ad M_Mo_forget 92 [some (.ref (ad 50)), o1, o2, o3, o4, some (.int x5), o6] st μ P :=
  fun H0 H hM hm hu => zw_iload (i := 5) dMo_forget_92 rfl <| zw_aload_n (i := 0) dMo_forget_94 rfl rfl zRf_ref <| zw_getf dMo_forget_95 zf_Mo_196 (hM.fi 30 (Nat.le_of_ble_eq_true rfl) mz_30) <| zw_icmp_ge 154 dMo_forget_98 (by decide) (fun h => kt h H0 H hM hm hu) (fun h => kf h H0 H hM hm hu)
theorem sMo_forget_101 {G : zG} {d : Nat} {ad : Nat → Nat} {μ : zMm} {P : Option Value → zMm → Prop} {st : List Value} {o1 : Option Value} {o2 : Option Value} {o3 : Option Value} {o4 : Option Value} {o6 : Option Value} {x5 : Int32} {i1 : Nat} (hx1 : x5 = nI i1) (hi1 : i1 < mLn 32) (kt : (¬ (μ.2 32 i1) = (μ.1 3)) → mW G d ad M_Mo_forget 148 [some (.ref (ad 50)), o1, o2, o3, o4, some (.int x5), o6] st μ P) (kf : ((μ.2 32 i1) = (μ.1 3)) → mW G d ad M_Mo_forget 115 [some (.ref (ad 50)), o1, o2, o3, o4, some (.int x5), o6] st μ P) : mW G d ad M_Mo_forget 101 [some (.ref (ad 50)), o1, o2, o3, o4, some (.int x5), o6] st μ P :=
  fun H0 H hM hm hu => zw_aload_n (i := 0) dMo_forget_101 rfl rfl zRf_ref <| zw_getf dMo_forget_102 zf_Mo_199 (hM.fa 32 (Nat.le_of_ble_eq_true rfl) mn_32) <| zw_iload (i := 5) dMo_forget_105 rfl <| zw_ialdN (g := μ.2 32) dMo_forget_107 (hM.ai mk_32) hx1 hi1 (mLn_le _) <| zw_aload_n (i := 0) dMo_forget_108 rfl rfl zRf_ref <| zw_getf dMo_forget_109 zf_Mo_18 (hM.fi 3 (Nat.le_of_ble_eq_true rfl) mz_3) <| zw_icmp_ne 148 dMo_forget_112 (by decide) (fun h => kt h H0 H hM hm hu) (fun h => kf h H0 H hM hm hu)
theorem sMo_forget_115 {G : zG} {d : Nat} {ad : Nat → Nat} {μ : zMm} {P : Option Value → zMm → Prop} {st : List Value} {o1 : Option Value} {o2 : Option Value} {o3 : Option Value} {o4 : Option Value} {o6 : Option Value} {x5 : Int32} {P2 : Int32 → zMm → Prop} (hd : 1 ≤ d) (hl : st.length ≤ 4) (hc : mC G (d - 1) ad M_Mo_same [(.ref (ad 31)), (.int ((nI 24) * x5)), (.ref (ad 2)), (.int (nI 0)), (.int (μ.1 3))] μ (mPi P2)) (kk : ∀ (r : Int32) (μ1 : zMm), P2 r μ1 → mW G d ad M_Mo_forget 136 [some (.ref (ad 50)), o1, o2, o3, o4, some (.int x5), o6] ((.int r) :: st) μ1 P) : mW G d ad M_Mo_forget 115 [some (.ref (ad 50)), o1, o2, o3, o4, some (.int x5), o6] st μ P :=
  fun H0 H hM hm hu => zw_aload_n (i := 0) dMo_forget_115 rfl rfl zRf_ref <| zw_getf dMo_forget_116 zf_Mo_202 (hM.fa 31 (Nat.le_of_ble_eq_true rfl) mn_31) <| zw_bipush (nI 24) dMo_forget_119 zkb_24 <| zw_iload (i := 5) dMo_forget_121 rfl <| zw_imul dMo_forget_123 <| zw_aload_n (i := 0) dMo_forget_124 rfl rfl zRf_ref <| zw_getf dMo_forget_125 zf_Mo_21 (hM.fa 2 (Nat.le_of_ble_eq_true rfl) mn_2) <| zw_iconst (nI 0) dMo_forget_128 zki_0 <| zw_aload_n (i := 0) dMo_forget_129 rfl rfl zRf_ref <| zw_getf dMo_forget_130 zf_Mo_18 (hM.fi 3 (Nat.le_of_ble_eq_true rfl) mz_3) <| zw_callS [(.ref (ad 31)), (.int ((nI 24) * x5)), (.ref (ad 2)), (.int (nI 0)), (.int (μ.1 3))] _ dMo_forget_133 hd zk_Mo_46 rfl rfl hl (hc H hM) (mPi_k kk hm hu)
theorem sMo_forget_136 {G : zG} {d : Nat} {ad : Nat → Nat} {μ : zMm} {P : Option Value → zMm → Prop} {st : List Value} {o0 : Option Value} {o1 : Option Value} {o2 : Option Value} {o3 : Option Value} {o4 : Option Value} {o5 : Option Value} {o6 : Option Value} {xs0 : Int32} (kt : (¬ xs0 = 0) → mW G d ad M_Mo_forget 142 [o0, o1, o2, o3, o4, o5, o6] st μ P) (kf : (xs0 = 0) → mW G d ad M_Mo_forget 139 [o0, o1, o2, o3, o4, o5, o6] st μ P) : mW G d ad M_Mo_forget 136 [o0, o1, o2, o3, o4, o5, o6] ((.int xs0) :: st) μ P :=
  fun H0 H hM hm hu => zw_if_ne 142 dMo_forget_136 (by decide) (fun h => kt h H0 H hM hm hu) (fun h => kf h H0 H hM hm hu)
theorem sMo_forget_139 {G : zG} {d : Nat} {ad : Nat → Nat} {μ : zMm} {P : Option Value → zMm → Prop} {st : List Value} {o0 : Option Value} {o1 : Option Value} {o2 : Option Value} {o3 : Option Value} {o4 : Option Value} {o6 : Option Value} {x5 : Int32} (kk : mW G d ad M_Mo_forget 92 [o0, o1, o2, o3, o4, some (.int (x5 + (nI 1))), o6] st μ P) : mW G d ad M_Mo_forget 139 [o0, o1, o2, o3, o4, some (.int x5), o6] st μ P :=
  fun H0 H hM hm hu => zw_goto 148 dMo_forget_139 (by decide) <| zw_iinc (i := 5) (x5 + (nI 1)) dMo_forget_148 rfl (congrArg (fun z => x5 + z) zki_1) <| zw_goto 92 dMo_forget_151 (by decide) <| kk H0 H hM hm hu
theorem sMo_forget_142 {G : zG} {d : Nat} {ad : Nat → Nat} {μ : zMm} {P : Option Value → zMm → Prop} {st : List Value} {o0 : Option Value} {o1 : Option Value} {o2 : Option Value} {o3 : Option Value} {o6 : Option Value} {x5 : Int32} {x4 : Int32} (kk : mW G d ad M_Mo_forget 92 [o0, o1, o2, some (.int x5), some (.int (x4 + (nI 1))), some (.int (x5 + (nI 1))), o6] st μ P) : mW G d ad M_Mo_forget 142 [o0, o1, o2, o3, some (.int x4), some (.int x5), o6] st μ P :=
  fun H0 H hM hm hu => zw_iload (i := 5) dMo_forget_142 rfl <| zw_istore_n (i := 3) dMo_forget_144 rfl (Nat.le_of_ble_eq_true rfl) <| zw_iinc (i := 4) (x4 + (nI 1)) dMo_forget_145 rfl (congrArg (fun z => x4 + z) zki_1) <| zw_iinc (i := 5) (x5 + (nI 1)) dMo_forget_148 rfl (congrArg (fun z => x5 + z) zki_1) <| zw_goto 92 dMo_forget_151 (by decide) <| kk H0 H hM hm hu
theorem sMo_forget_148 {G : zG} {d : Nat} {ad : Nat → Nat} {μ : zMm} {P : Option Value → zMm → Prop} {st : List Value} {o0 : Option Value} {o1 : Option Value} {o2 : Option Value} {o3 : Option Value} {o4 : Option Value} {o6 : Option Value} {x5 : Int32} (kk : mW G d ad M_Mo_forget 92 [o0, o1, o2, o3, o4, some (.int (x5 + (nI 1))), o6] st μ P) : mW G d ad M_Mo_forget 148 [o0, o1, o2, o3, o4, some (.int x5), o6] st μ P :=
  fun H0 H hM hm hu => zw_iinc (i := 5) (x5 + (nI 1)) dMo_forget_148 rfl (congrArg (fun z => x5 + z) zki_1) <| zw_goto 92 dMo_forget_151 (by decide) <| kk H0 H hM hm hu
theorem sMo_forget_154 {G : zG} {d : Nat} {ad : Nat → Nat} {μ : zMm} {P : Option Value → zMm → Prop} {st : List Value} {o0 : Option Value} {o1 : Option Value} {o2 : Option Value} {o4 : Option Value} {o5 : Option Value} {o6 : Option Value} {x3 : Int32} (kt : (¬ x3 = (-1 : Int32)) → mW G d ad M_Mo_forget 161 [o0, o1, o2, some (.int x3), o4, o5, o6] st μ P) (kf : (x3 = (-1 : Int32)) → mW G d ad M_Mo_forget 159 [o0, o1, o2, some (.int x3), o4, o5, o6] st μ P) : mW G d ad M_Mo_forget 154 [o0, o1, o2, some (.int x3), o4, o5, o6] st μ P :=
  fun H0 H hM hm hu => zw_iload_n (i := 3) dMo_forget_154 rfl rfl <| zw_iconst (-1 : Int32) dMo_forget_155 zki_m1 <| zw_icmp_ne 161 dMo_forget_156 (by decide) (fun h => kt h H0 H hM hm hu) (fun h => kf h H0 H hM hm hu)
theorem sMo_forget_159 {G : zG} {d : Nat} {ad : Nat → Nat} {μ : zMm} {P : Option Value → zMm → Prop} {o0 : Option Value} {o1 : Option Value} {o2 : Option Value} {o3 : Option Value} {o4 : Option Value} {o5 : Option Value} {o6 : Option Value} (hq : P (some (.int (-1 : Int32))) μ) : mW G d ad M_Mo_forget 159 [o0, o1, o2, o3, o4, o5, o6] [] μ P :=
  fun H0 H hM hm hu => zw_iconst (-1 : Int32) dMo_forget_159 zki_m1 <| zw_iret dMo_forget_160 .int rfl rfl ⟨μ, hq, hM, hm, hu⟩
theorem sMo_forget_161 {G : zG} {d : Nat} {ad : Nat → Nat} {μ : zMm} {P : Option Value → zMm → Prop} {st : List Value} {o1 : Option Value} {o2 : Option Value} {o3 : Option Value} {o4 : Option Value} {o5 : Option Value} {o6 : Option Value} (kk : mW G d ad M_Mo_forget 171 [some (.ref (ad 50)), o1, o2, o3, o4, o5, o6] st (upd μ.1 30 ((μ.1 30) - (nI 1)), μ.2) P) : mW G d ad M_Mo_forget 161 [some (.ref (ad 50)), o1, o2, o3, o4, o5, o6] st μ P :=
  fun H0 H hM hm hu => zw_aload_n (i := 0) dMo_forget_161 rfl rfl zRf_ref <| zw_dup dMo_forget_162 rfl <| zw_getf dMo_forget_163 zf_Mo_196 (hM.fi 30 (Nat.le_of_ble_eq_true rfl) mz_30) <| zw_iconst (nI 1) dMo_forget_166 zki_1 <| zw_isub dMo_forget_167 <| (mw_puti (M := M_Mo_forget) (pc := 168) (k := 30) (v := ((μ.1 30) - (nI 1))) dMo_forget_168 zp_Mo_forget_196 (Nat.le_of_ble_eq_true rfl) mz_30 rfl rfl kk) H0 H hM hm hu
theorem sMo_forget_171 {G : zG} {d : Nat} {ad : Nat → Nat} {μ : zMm} {P : Option Value → zMm → Prop} {st : List Value} {o0 : Option Value} {o1 : Option Value} {o2 : Option Value} {o4 : Option Value} {o5 : Option Value} {o6 : Option Value} {x3 : Int32} (kk : mW G d ad M_Mo_forget 174 [o0, o1, o2, some (.int x3), o4, some (.int x3), o6] st μ P) : mW G d ad M_Mo_forget 171 [o0, o1, o2, some (.int x3), o4, o5, o6] st μ P :=
  fun H0 H hM hm hu => zw_iload_n (i := 3) dMo_forget_171 rfl rfl <| zw_istore (i := 5) dMo_forget_172 (Nat.le_of_ble_eq_true rfl) <| kk H0 H hM hm hu
theorem sMo_forget_174 {G : zG} {d : Nat} {ad : Nat → Nat} {μ : zMm} {P : Option Value → zMm → Prop} {st : List Value} {o1 : Option Value} {o2 : Option Value} {o3 : Option Value} {o4 : Option Value} {o6 : Option Value} {x5 : Int32} (kt : ((μ.1 30) ≤ x5) → mW G d ad M_Mo_forget 281 [some (.ref (ad 50)), o1, o2, o3, o4, some (.int x5), o6] st μ P) (kf : (¬ (μ.1 30) ≤ x5) → mW G d ad M_Mo_forget 183 [some (.ref (ad 50)), o1, o2, o3, o4, some (.int x5), o6] st μ P) : mW G d ad M_Mo_forget 174 [some (.ref (ad 50)), o1, o2, o3, o4, some (.int x5), o6] st μ P :=
  fun H0 H hM hm hu => zw_iload (i := 5) dMo_forget_174 rfl <| zw_aload_n (i := 0) dMo_forget_176 rfl rfl zRf_ref <| zw_getf dMo_forget_177 zf_Mo_196 (hM.fi 30 (Nat.le_of_ble_eq_true rfl) mz_30) <| zw_icmp_ge 281 dMo_forget_180 (by decide) (fun h => kt h H0 H hM hm hu) (fun h => kf h H0 H hM hm hu)
theorem sMo_forget_183 {G : zG} {d : Nat} {ad : Nat → Nat} {μ : zMm} {P : Option Value → zMm → Prop} {st : List Value} {o1 : Option Value} {o2 : Option Value} {o3 : Option Value} {o4 : Option Value} {o6 : Option Value} {x5 : Int32} {i1 : Nat} {i : Nat} (hx1 : (x5 + (nI 1)) = nI i1) (hi1 : i1 < mLn 32) (hx : x5 = nI i) (hi : i < mLn 32) (kk : mW G d ad M_Mo_forget 199 [some (.ref (ad 50)), o1, o2, o3, o4, some (.int x5), o6] st (μ.1, updA μ.2 32 i (μ.2 32 i1)) P) : mW G d ad M_Mo_forget 183 [some (.ref (ad 50)), o1, o2, o3, o4, some (.int x5), o6] st μ P :=
  fun H0 H hM hm hu => zw_aload_n (i := 0) dMo_forget_183 rfl rfl zRf_ref <| zw_getf dMo_forget_184 zf_Mo_199 (hM.fa 32 (Nat.le_of_ble_eq_true rfl) mn_32) <| zw_iload (i := 5) dMo_forget_187 rfl <| zw_aload_n (i := 0) dMo_forget_189 rfl rfl zRf_ref <| zw_getf dMo_forget_190 zf_Mo_199 (hM.fa 32 (Nat.le_of_ble_eq_true rfl) mn_32) <| zw_iload (i := 5) dMo_forget_193 rfl <| zw_iconst (nI 1) dMo_forget_195 zki_1 <| zw_iadd dMo_forget_196 <| zw_ialdN (g := μ.2 32) dMo_forget_197 (hM.ai mk_32) hx1 hi1 (mLn_le _) <| (mw_iast (M := M_Mo_forget) (pc := 198) (k := 32) dMo_forget_198 mk_32 hx hi kk) H0 H hM hm hu
theorem sMo_forget_199 {G : zG} {d : Nat} {ad : Nat → Nat} {μ : zMm} {P : Option Value → zMm → Prop} {st : List Value} {o1 : Option Value} {o2 : Option Value} {o3 : Option Value} {o4 : Option Value} {o6 : Option Value} {x5 : Int32} {i1 : Nat} {i : Nat} (hx1 : (x5 + (nI 1)) = nI i1) (hi1 : i1 < mLn 33) (hx : x5 = nI i) (hi : i < mLn 33) (kk : mW G d ad M_Mo_forget 215 [some (.ref (ad 50)), o1, o2, o3, o4, some (.int x5), o6] st (μ.1, updA μ.2 33 i (μ.2 33 i1)) P) : mW G d ad M_Mo_forget 199 [some (.ref (ad 50)), o1, o2, o3, o4, some (.int x5), o6] st μ P :=
  fun H0 H hM hm hu => zw_aload_n (i := 0) dMo_forget_199 rfl rfl zRf_ref <| zw_getf dMo_forget_200 zf_Mo_205 (hM.fa 33 (Nat.le_of_ble_eq_true rfl) mn_33) <| zw_iload (i := 5) dMo_forget_203 rfl <| zw_aload_n (i := 0) dMo_forget_205 rfl rfl zRf_ref <| zw_getf dMo_forget_206 zf_Mo_205 (hM.fa 33 (Nat.le_of_ble_eq_true rfl) mn_33) <| zw_iload (i := 5) dMo_forget_209 rfl <| zw_iconst (nI 1) dMo_forget_211 zki_1 <| zw_iadd dMo_forget_212 <| zw_ialdN (g := μ.2 33) dMo_forget_213 (hM.ai mk_33) hx1 hi1 (mLn_le _) <| (mw_iast (M := M_Mo_forget) (pc := 214) (k := 33) dMo_forget_214 mk_33 hx hi kk) H0 H hM hm hu
theorem sMo_forget_215 {G : zG} {d : Nat} {ad : Nat → Nat} {μ : zMm} {P : Option Value → zMm → Prop} {st : List Value} {o1 : Option Value} {o2 : Option Value} {o3 : Option Value} {o4 : Option Value} {o6 : Option Value} {x5 : Int32} {i1 : Nat} {i : Nat} (hx1 : (x5 + (nI 1)) = nI i1) (hi1 : i1 < mLn 34) (hx : x5 = nI i) (hi : i < mLn 34) (kk : mW G d ad M_Mo_forget 231 [some (.ref (ad 50)), o1, o2, o3, o4, some (.int x5), o6] st (μ.1, updA μ.2 34 i (μ.2 34 i1)) P) : mW G d ad M_Mo_forget 215 [some (.ref (ad 50)), o1, o2, o3, o4, some (.int x5), o6] st μ P :=
  fun H0 H hM hm hu => zw_aload_n (i := 0) dMo_forget_215 rfl rfl zRf_ref <| zw_getf dMo_forget_216 zf_Mo_208 (hM.fa 34 (Nat.le_of_ble_eq_true rfl) mn_34) <| zw_iload (i := 5) dMo_forget_219 rfl <| zw_aload_n (i := 0) dMo_forget_221 rfl rfl zRf_ref <| zw_getf dMo_forget_222 zf_Mo_208 (hM.fa 34 (Nat.le_of_ble_eq_true rfl) mn_34) <| zw_iload (i := 5) dMo_forget_225 rfl <| zw_iconst (nI 1) dMo_forget_227 zki_1 <| zw_iadd dMo_forget_228 <| zw_ialdN (g := μ.2 34) dMo_forget_229 (hM.ai mk_34) hx1 hi1 (mLn_le _) <| (mw_iast (M := M_Mo_forget) (pc := 230) (k := 34) dMo_forget_230 mk_34 hx hi kk) H0 H hM hm hu
theorem sMo_forget_231 {G : zG} {d : Nat} {ad : Nat → Nat} {μ : zMm} {P : Option Value → zMm → Prop} {st : List Value} {o0 : Option Value} {o1 : Option Value} {o2 : Option Value} {o3 : Option Value} {o4 : Option Value} {o5 : Option Value} {o6 : Option Value} (kk : mW G d ad M_Mo_forget 234 [o0, o1, o2, o3, o4, o5, some (.int (nI 0))] st μ P) : mW G d ad M_Mo_forget 231 [o0, o1, o2, o3, o4, o5, o6] st μ P :=
  fun H0 H hM hm hu => zw_iconst (nI 0) dMo_forget_231 zki_0 <| zw_istore (i := 6) dMo_forget_232 (Nat.le_of_ble_eq_true rfl) <| kk H0 H hM hm hu
theorem sMo_forget_234 {G : zG} {d : Nat} {ad : Nat → Nat} {μ : zMm} {P : Option Value → zMm → Prop} {st : List Value} {o0 : Option Value} {o1 : Option Value} {o2 : Option Value} {o3 : Option Value} {o4 : Option Value} {o5 : Option Value} {x6 : Int32} (kt : ((nI 24) ≤ x6) → mW G d ad M_Mo_forget 275 [o0, o1, o2, o3, o4, o5, some (.int x6)] st μ P) (kf : (¬ (nI 24) ≤ x6) → mW G d ad M_Mo_forget 241 [o0, o1, o2, o3, o4, o5, some (.int x6)] st μ P) : mW G d ad M_Mo_forget 234 [o0, o1, o2, o3, o4, o5, some (.int x6)] st μ P :=
  fun H0 H hM hm hu => zw_iload (i := 6) dMo_forget_234 rfl <| zw_bipush (nI 24) dMo_forget_236 zkb_24 <| zw_icmp_ge 275 dMo_forget_238 (by decide) (fun h => kt h H0 H hM hm hu) (fun h => kf h H0 H hM hm hu)
theorem sMo_forget_241 {G : zG} {d : Nat} {ad : Nat → Nat} {μ : zMm} {P : Option Value → zMm → Prop} {st : List Value} {o1 : Option Value} {o2 : Option Value} {o3 : Option Value} {o4 : Option Value} {x5 : Int32} {x6 : Int32} {i1 : Nat} {i : Nat} (hx1 : (((nI 24) * (x5 + (nI 1))) + x6) = nI i1) (hi1 : i1 < mLn 31) (hx : (((nI 24) * x5) + x6) = nI i) (hi : i < mLn 31) (kk : mW G d ad M_Mo_forget 269 [some (.ref (ad 50)), o1, o2, o3, o4, some (.int x5), some (.int x6)] st (μ.1, updA μ.2 31 i ((μ.2 31 i1)).toInt8.toInt32) P) : mW G d ad M_Mo_forget 241 [some (.ref (ad 50)), o1, o2, o3, o4, some (.int x5), some (.int x6)] st μ P :=
  fun H0 H hM hm hu => zw_aload_n (i := 0) dMo_forget_241 rfl rfl zRf_ref <| zw_getf dMo_forget_242 zf_Mo_202 (hM.fa 31 (Nat.le_of_ble_eq_true rfl) mn_31) <| zw_bipush (nI 24) dMo_forget_245 zkb_24 <| zw_iload (i := 5) dMo_forget_247 rfl <| zw_imul dMo_forget_249 <| zw_iload (i := 6) dMo_forget_250 rfl <| zw_iadd dMo_forget_252 <| zw_aload_n (i := 0) dMo_forget_253 rfl rfl zRf_ref <| zw_getf dMo_forget_254 zf_Mo_202 (hM.fa 31 (Nat.le_of_ble_eq_true rfl) mn_31) <| zw_bipush (nI 24) dMo_forget_257 zkb_24 <| zw_iload (i := 5) dMo_forget_259 rfl <| zw_iconst (nI 1) dMo_forget_261 zki_1 <| zw_iadd dMo_forget_262 <| zw_imul dMo_forget_263 <| zw_iload (i := 6) dMo_forget_264 rfl <| zw_iadd dMo_forget_266 <| zw_baldN (g := μ.2 31) dMo_forget_267 (hM.ab mk_31) hx1 hi1 (mLn_le _) <| (mw_bast (M := M_Mo_forget) (pc := 268) (k := 31) dMo_forget_268 mk_31 hx hi kk) H0 H hM hm hu
theorem sMo_forget_269 {G : zG} {d : Nat} {ad : Nat → Nat} {μ : zMm} {P : Option Value → zMm → Prop} {st : List Value} {o0 : Option Value} {o1 : Option Value} {o2 : Option Value} {o3 : Option Value} {o4 : Option Value} {o5 : Option Value} {x6 : Int32} (kk : mW G d ad M_Mo_forget 234 [o0, o1, o2, o3, o4, o5, some (.int (x6 + (nI 1)))] st μ P) : mW G d ad M_Mo_forget 269 [o0, o1, o2, o3, o4, o5, some (.int x6)] st μ P :=
  fun H0 H hM hm hu => zw_iinc (i := 6) (x6 + (nI 1)) dMo_forget_269 rfl (congrArg (fun z => x6 + z) zki_1) <| zw_goto 234 dMo_forget_272 (by decide) <| kk H0 H hM hm hu
theorem sMo_forget_275 {G : zG} {d : Nat} {ad : Nat → Nat} {μ : zMm} {P : Option Value → zMm → Prop} {st : List Value} {o0 : Option Value} {o1 : Option Value} {o2 : Option Value} {o3 : Option Value} {o4 : Option Value} {o6 : Option Value} {x5 : Int32} (kk : mW G d ad M_Mo_forget 174 [o0, o1, o2, o3, o4, some (.int (x5 + (nI 1))), o6] st μ P) : mW G d ad M_Mo_forget 275 [o0, o1, o2, o3, o4, some (.int x5), o6] st μ P :=
  fun H0 H hM hm hu => zw_iinc (i := 5) (x5 + (nI 1)) dMo_forget_275 rfl (congrArg (fun z => x5 + z) zki_1) <| zw_goto 174 dMo_forget_278 (by decide) <| kk H0 H hM hm hu
theorem sMo_forget_281 {G : zG} {d : Nat} {ad : Nat → Nat} {μ : zMm} {P : Option Value → zMm → Prop} {o0 : Option Value} {o1 : Option Value} {o2 : Option Value} {o3 : Option Value} {o5 : Option Value} {o6 : Option Value} {x4 : Int32} (hq : P (some (.int (x4 - (nI 1)))) μ) : mW G d ad M_Mo_forget 281 [o0, o1, o2, o3, some (.int x4), o5, o6] [] μ P :=
  fun H0 H hM hm hu => zw_iload (i := 4) dMo_forget_281 rfl <| zw_iconst (nI 1) dMo_forget_283 zki_1 <| zw_isub dMo_forget_284 <| zw_iret dMo_forget_285 .int rfl rfl ⟨μ, hq, hM, hm, hu⟩
theorem sMo_write_0 {G : zG} {d : Nat} {ad : Nat → Nat} {μ : zMm} {P : Option Value → zMm → Prop} {st : List Value} {o0 : Option Value} {x1 : Int32} (kt : (x1 < 0) → mW G d ad M_Mo_write 9 [o0, some (.int x1)] st μ P) (kf : (¬ x1 < 0) → mW G d ad M_Mo_write 4 [o0, some (.int x1)] st μ P) : mW G d ad M_Mo_write 0 [o0, some (.int x1)] st μ P :=
  fun H0 H hM hm hu => zw_iload_n (i := 1) dMo_write_0 rfl rfl <| zw_if_lt 9 dMo_write_1 (by decide) (fun h => kt h H0 H hM hm hu) (fun h => kf h H0 H hM hm hu)
theorem sMo_write_4 {G : zG} {d : Nat} {ad : Nat → Nat} {μ : zMm} {P : Option Value → zMm → Prop} {st : List Value} {o0 : Option Value} {x1 : Int32} (kt : (x1 ≤ (nI 3)) → mW G d ad M_Mo_write 11 [o0, some (.int x1)] st μ P) (kf : (¬ x1 ≤ (nI 3)) → mW G d ad M_Mo_write 9 [o0, some (.int x1)] st μ P) : mW G d ad M_Mo_write 4 [o0, some (.int x1)] st μ P :=
  fun H0 H hM hm hu => zw_iload_n (i := 1) dMo_write_4 rfl rfl <| zw_iconst (nI 3) dMo_write_5 zki_3 <| zw_icmp_le 11 dMo_write_6 (by decide) (fun h => kt h H0 H hM hm hu) (fun h => kf h H0 H hM hm hu)
theorem sMo_write_9 {G : zG} {d : Nat} {ad : Nat → Nat} {μ : zMm} {P : Option Value → zMm → Prop} {o0 : Option Value} {o1 : Option Value} (hq : P (some (.int (-1 : Int32))) μ) : mW G d ad M_Mo_write 9 [o0, o1] [] μ P :=
  fun H0 H hM hm hu => zw_iconst (-1 : Int32) dMo_write_9 zki_m1 <| zw_iret dMo_write_10 .int rfl rfl ⟨μ, hq, hM, hm, hu⟩
theorem sMo_write_11 {G : zG} {d : Nat} {ad : Nat → Nat} {μ : zMm} {P : Option Value → zMm → Prop} {st : List Value} {o1 : Option Value} (kk : mW G d ad M_Mo_write 16 [some (.ref (ad 50)), o1] st (upd μ.1 5 (nI 0), μ.2) P) : mW G d ad M_Mo_write 11 [some (.ref (ad 50)), o1] st μ P :=
  fun H0 H hM hm hu => zw_aload_n (i := 0) dMo_write_11 rfl rfl zRf_ref <| zw_iconst (nI 0) dMo_write_12 zki_0 <| (mw_puti (M := M_Mo_write) (pc := 13) (k := 5) (v := (nI 0)) dMo_write_13 zp_Mo_write_1 (Nat.le_of_ble_eq_true rfl) mz_5 rfl rfl kk) H0 H hM hm hu
theorem sMo_write_16 {G : zG} {d : Nat} {ad : Nat → Nat} {μ : zMm} {P : Option Value → zMm → Prop} {st : List Value} {o0 : Option Value} {x1 : Int32} (kt : (¬ x1 = (nI 2)) → mW G d ad M_Mo_write 37 [o0, some (.int x1)] st μ P) (kf : (x1 = (nI 2)) → mW G d ad M_Mo_write 21 [o0, some (.int x1)] st μ P) : mW G d ad M_Mo_write 16 [o0, some (.int x1)] st μ P :=
  fun H0 H hM hm hu => zw_iload_n (i := 1) dMo_write_16 rfl rfl <| zw_iconst (nI 2) dMo_write_17 zki_2 <| zw_icmp_ne 37 dMo_write_18 (by decide) (fun h => kt h H0 H hM hm hu) (fun h => kf h H0 H hM hm hu)
theorem sMo_write_21 {G : zG} {d : Nat} {ad : Nat → Nat} {μ : zMm} {P : Option Value → zMm → Prop} {st : List Value} {o1 : Option Value} {P2 : zMm → Prop} (hd : 1 ≤ d) (hl : st.length ≤ 4) (hc : mC G (d - 1) ad M_Mo_sayAll [(.ref (ad 50)), (.ref (ad 36)), (.int (nI 0)), (.int (μ.1 37))] μ (mPv P2)) (kk : ∀ μ1 : zMm, P2 μ1 → mW G d ad M_Mo_write 34 [some (.ref (ad 50)), o1] st μ1 P) : mW G d ad M_Mo_write 21 [some (.ref (ad 50)), o1] st μ P :=
  fun H0 H hM hm hu => zw_aload_n (i := 0) dMo_write_21 rfl rfl zRf_ref <| zw_aload_n (i := 0) dMo_write_22 rfl rfl zRf_ref <| zw_getf dMo_write_23 zf_Mo_211 (hM.fa 36 (Nat.le_of_ble_eq_true rfl) mn_36) <| zw_iconst (nI 0) dMo_write_26 zki_0 <| zw_aload_n (i := 0) dMo_write_27 rfl rfl zRf_ref <| zw_getf dMo_write_28 zf_Mo_214 (hM.fi 37 (Nat.le_of_ble_eq_true rfl) mz_37) <| zw_callV [(.ref (ad 36)), (.int (nI 0)), (.int (μ.1 37))] _ dMo_write_31 hd zk_Mo_108 hM.is rfl rfl hl (hc H hM) (mPv_k kk hm hu)
theorem sMo_write_34 {G : zG} {d : Nat} {ad : Nat → Nat} {μ : zMm} {P : Option Value → zMm → Prop} {o1 : Option Value} (hq : P (some (.int (μ.1 5))) μ) : mW G d ad M_Mo_write 34 [some (.ref (ad 50)), o1] [] μ P :=
  fun H0 H hM hm hu => zw_goto 87 dMo_write_34 (by decide) <| zw_aload_n (i := 0) dMo_write_87 rfl rfl zRf_ref <| zw_getf dMo_write_88 zf_Mo_1 (hM.fi 5 (Nat.le_of_ble_eq_true rfl) mz_5) <| zw_iret dMo_write_91 .int rfl rfl ⟨μ, hq, hM, hm, hu⟩
theorem sMo_write_37 {G : zG} {d : Nat} {ad : Nat → Nat} {μ : zMm} {P : Option Value → zMm → Prop} {st : List Value} {o0 : Option Value} {x1 : Int32} (kt : (¬ x1 = 0) → mW G d ad M_Mo_write 49 [o0, some (.int x1)] st μ P) (kf : (x1 = 0) → mW G d ad M_Mo_write 41 [o0, some (.int x1)] st μ P) : mW G d ad M_Mo_write 37 [o0, some (.int x1)] st μ P :=
  fun H0 H hM hm hu => zw_iload_n (i := 1) dMo_write_37 rfl rfl <| zw_if_ne 49 dMo_write_38 (by decide) (fun h => kt h H0 H hM hm hu) (fun h => kf h H0 H hM hm hu)
theorem sMo_write_41 {G : zG} {d : Nat} {ad : Nat → Nat} {μ : zMm} {P : Option Value → zMm → Prop} {st : List Value} {o1 : Option Value} {P2 : zMm → Prop} (hd : 1 ≤ d) (hl : st.length ≤ 4) (hc : mC G (d - 1) ad M_Mo_sayRow [(.ref (ad 50)), (.int (nI 1))] μ (mPv P2)) (kk : ∀ μ1 : zMm, P2 μ1 → mW G d ad M_Mo_write 46 [some (.ref (ad 50)), o1] st μ1 P) : mW G d ad M_Mo_write 41 [some (.ref (ad 50)), o1] st μ P :=
  fun H0 H hM hm hu => zw_aload_n (i := 0) dMo_write_41 rfl rfl zRf_ref <| zw_iconst (nI 1) dMo_write_42 zki_1 <| zw_callV [(.int (nI 1))] _ dMo_write_43 hd zk_Mo_271 hM.is rfl rfl hl (hc H hM) (mPv_k kk hm hu)
theorem sMo_write_46 {G : zG} {d : Nat} {ad : Nat → Nat} {μ : zMm} {P : Option Value → zMm → Prop} {o1 : Option Value} (hq : P (some (.int (μ.1 5))) μ) : mW G d ad M_Mo_write 46 [some (.ref (ad 50)), o1] [] μ P :=
  fun H0 H hM hm hu => zw_goto 87 dMo_write_46 (by decide) <| zw_aload_n (i := 0) dMo_write_87 rfl rfl zRf_ref <| zw_getf dMo_write_88 zf_Mo_1 (hM.fi 5 (Nat.le_of_ble_eq_true rfl) mz_5) <| zw_iret dMo_write_91 .int rfl rfl ⟨μ, hq, hM, hm, hu⟩
theorem sMo_write_49 {G : zG} {d : Nat} {ad : Nat → Nat} {μ : zMm} {P : Option Value → zMm → Prop} {st : List Value} {o0 : Option Value} {x1 : Int32} (kt : (¬ x1 = (nI 1)) → mW G d ad M_Mo_write 69 [o0, some (.int x1)] st μ P) (kf : (x1 = (nI 1)) → mW G d ad M_Mo_write 54 [o0, some (.int x1)] st μ P) : mW G d ad M_Mo_write 49 [o0, some (.int x1)] st μ P :=
  fun H0 H hM hm hu => zw_iload_n (i := 1) dMo_write_49 rfl rfl <| zw_iconst (nI 1) dMo_write_50 zki_1 <| zw_icmp_ne 69 dMo_write_51 (by decide) (fun h => kt h H0 H hM hm hu) (fun h => kf h H0 H hM hm hu)
theorem sMo_write_54 {G : zG} {d : Nat} {ad : Nat → Nat} {μ : zMm} {P : Option Value → zMm → Prop} {st : List Value} {o1 : Option Value} (kt : ((μ.1 35) ≤ 0) → mW G d ad M_Mo_write 69 [some (.ref (ad 50)), o1] st μ P) (kf : (¬ (μ.1 35) ≤ 0) → mW G d ad M_Mo_write 61 [some (.ref (ad 50)), o1] st μ P) : mW G d ad M_Mo_write 54 [some (.ref (ad 50)), o1] st μ P :=
  fun H0 H hM hm hu => zw_aload_n (i := 0) dMo_write_54 rfl rfl zRf_ref <| zw_getf dMo_write_55 zf_Mo_248 (hM.fi 35 (Nat.le_of_ble_eq_true rfl) mz_35) <| zw_if_le 69 dMo_write_58 (by decide) (fun h => kt h H0 H hM hm hu) (fun h => kf h H0 H hM hm hu)
theorem sMo_write_61 {G : zG} {d : Nat} {ad : Nat → Nat} {μ : zMm} {P : Option Value → zMm → Prop} {st : List Value} {o1 : Option Value} {P2 : zMm → Prop} (hd : 1 ≤ d) (hl : st.length ≤ 4) (hc : mC G (d - 1) ad M_Mo_sayRow [(.ref (ad 50)), (.int (nI 2))] μ (mPv P2)) (kk : ∀ μ1 : zMm, P2 μ1 → mW G d ad M_Mo_write 66 [some (.ref (ad 50)), o1] st μ1 P) : mW G d ad M_Mo_write 61 [some (.ref (ad 50)), o1] st μ P :=
  fun H0 H hM hm hu => zw_aload_n (i := 0) dMo_write_61 rfl rfl zRf_ref <| zw_iconst (nI 2) dMo_write_62 zki_2 <| zw_callV [(.int (nI 2))] _ dMo_write_63 hd zk_Mo_271 hM.is rfl rfl hl (hc H hM) (mPv_k kk hm hu)
theorem sMo_write_66 {G : zG} {d : Nat} {ad : Nat → Nat} {μ : zMm} {P : Option Value → zMm → Prop} {o1 : Option Value} (hq : P (some (.int (μ.1 5))) μ) : mW G d ad M_Mo_write 66 [some (.ref (ad 50)), o1] [] μ P :=
  fun H0 H hM hm hu => zw_goto 87 dMo_write_66 (by decide) <| zw_aload_n (i := 0) dMo_write_87 rfl rfl zRf_ref <| zw_getf dMo_write_88 zf_Mo_1 (hM.fi 5 (Nat.le_of_ble_eq_true rfl) mz_5) <| zw_iret dMo_write_91 .int rfl rfl ⟨μ, hq, hM, hm, hu⟩
theorem sMo_write_69 {G : zG} {d : Nat} {ad : Nat → Nat} {μ : zMm} {P : Option Value → zMm → Prop} {st : List Value} {o0 : Option Value} {x1 : Int32} (kt : (¬ x1 = (nI 3)) → mW G d ad M_Mo_write 87 [o0, some (.int x1)] st μ P) (kf : (x1 = (nI 3)) → mW G d ad M_Mo_write 74 [o0, some (.int x1)] st μ P) : mW G d ad M_Mo_write 69 [o0, some (.int x1)] st μ P :=
  fun H0 H hM hm hu => zw_iload_n (i := 1) dMo_write_69 rfl rfl <| zw_iconst (nI 3) dMo_write_70 zki_3 <| zw_icmp_ne 87 dMo_write_71 (by decide) (fun h => kt h H0 H hM hm hu) (fun h => kf h H0 H hM hm hu)
theorem sMo_write_74 {G : zG} {d : Nat} {ad : Nat → Nat} {μ : zMm} {P : Option Value → zMm → Prop} {st : List Value} {o1 : Option Value} (kt : ((μ.1 50) = 0) → mW G d ad M_Mo_write 87 [some (.ref (ad 50)), o1] st μ P) (kf : (¬ (μ.1 50) = 0) → mW G d ad M_Mo_write 81 [some (.ref (ad 50)), o1] st μ P) : mW G d ad M_Mo_write 74 [some (.ref (ad 50)), o1] st μ P :=
  fun H0 H hM hm hu => zw_aload_n (i := 0) dMo_write_74 rfl rfl zRf_ref <| zw_getf dMo_write_75 zf_Mo_277 (hM.fi 50 (Nat.le_of_ble_eq_true rfl) mz_50) <| zw_if_eq 87 dMo_write_78 (by decide) (fun h => kt h H0 H hM hm hu) (fun h => kf h H0 H hM hm hu)
theorem sMo_write_81 {G : zG} {d : Nat} {ad : Nat → Nat} {μ : zMm} {P : Option Value → zMm → Prop} {st : List Value} {o1 : Option Value} {P2 : zMm → Prop} (hd : 1 ≤ d) (hl : st.length ≤ 4) (hc : mC G (d - 1) ad M_Mo_sayRow [(.ref (ad 50)), (.int (nI 26))] μ (mPv P2)) (kk : ∀ μ1 : zMm, P2 μ1 → mW G d ad M_Mo_write 87 [some (.ref (ad 50)), o1] st μ1 P) : mW G d ad M_Mo_write 81 [some (.ref (ad 50)), o1] st μ P :=
  fun H0 H hM hm hu => zw_aload_n (i := 0) dMo_write_81 rfl rfl zRf_ref <| zw_bipush (nI 26) dMo_write_82 zkb_26 <| zw_callV [(.int (nI 26))] _ dMo_write_84 hd zk_Mo_271 hM.is rfl rfl hl (hc H hM) (mPv_k kk hm hu)
theorem sMo_write_87 {G : zG} {d : Nat} {ad : Nat → Nat} {μ : zMm} {P : Option Value → zMm → Prop} {o1 : Option Value} (hq : P (some (.int (μ.1 5))) μ) : mW G d ad M_Mo_write 87 [some (.ref (ad 50)), o1] [] μ P :=
  fun H0 H hM hm hu => zw_aload_n (i := 0) dMo_write_87 rfl rfl zRf_ref <| zw_getf dMo_write_88 zf_Mo_1 (hM.fi 5 (Nat.le_of_ble_eq_true rfl) mz_5) <| zw_iret dMo_write_91 .int rfl rfl ⟨μ, hq, hM, hm, hu⟩
theorem sMo_count_0 {G : zG} {d : Nat} {ad : Nat → Nat} {μ : zMm} {P : Option Value → zMm → Prop} {st : List Value} {o0 : Option Value} {x1 : Int32} (k0 : (x1 = 0) → mW G d ad M_Mo_count 48 [o0, some (.int x1)] st μ P) (k1 : (x1 = 1) → mW G d ad M_Mo_count 53 [o0, some (.int x1)] st μ P) (k2 : (x1 = 2) → mW G d ad M_Mo_count 58 [o0, some (.int x1)] st μ P) (k3 : (x1 = 3) → mW G d ad M_Mo_count 63 [o0, some (.int x1)] st μ P) (k4 : (x1 = 4) → mW G d ad M_Mo_count 68 [o0, some (.int x1)] st μ P) (k5 : (x1 = 5) → mW G d ad M_Mo_count 73 [o0, some (.int x1)] st μ P) (k6 : (x1 = 6) → mW G d ad M_Mo_count 89 [o0, some (.int x1)] st μ P) (k7 : (x1 = 7) → mW G d ad M_Mo_count 102 [o0, some (.int x1)] st μ P) (kd : (¬ x1 = 0 ∧ ¬ x1 = 1 ∧ ¬ x1 = 2 ∧ ¬ x1 = 3 ∧ ¬ x1 = 4 ∧ ¬ x1 = 5 ∧ ¬ x1 = 6 ∧ ¬ x1 = 7) → mW G d ad M_Mo_count 122 [o0, some (.int x1)] st μ P) : mW G d ad M_Mo_count 0 [o0, some (.int x1)] st μ P := by
  intro H0 H hM hm hu
  refine zw_iload_n (i := 1) dMo_count_0 rfl rfl <| ?_
  by_cases e0 : x1 = 0
  · exact zw_tableIn (off := 47) 48 dMo_count_1 (by rw [e0]; decide) (by rw [e0]; decide) (by rw [e0]; rfl) (by decide) (k0 e0 H0 H hM hm hu)
  by_cases e1 : x1 = 1
  · exact zw_tableIn (off := 52) 53 dMo_count_1 (by rw [e1]; decide) (by rw [e1]; decide) (by rw [e1]; rfl) (by decide) (k1 e1 H0 H hM hm hu)
  by_cases e2 : x1 = 2
  · exact zw_tableIn (off := 57) 58 dMo_count_1 (by rw [e2]; decide) (by rw [e2]; decide) (by rw [e2]; rfl) (by decide) (k2 e2 H0 H hM hm hu)
  by_cases e3 : x1 = 3
  · exact zw_tableIn (off := 62) 63 dMo_count_1 (by rw [e3]; decide) (by rw [e3]; decide) (by rw [e3]; rfl) (by decide) (k3 e3 H0 H hM hm hu)
  by_cases e4 : x1 = 4
  · exact zw_tableIn (off := 67) 68 dMo_count_1 (by rw [e4]; decide) (by rw [e4]; decide) (by rw [e4]; rfl) (by decide) (k4 e4 H0 H hM hm hu)
  by_cases e5 : x1 = 5
  · exact zw_tableIn (off := 72) 73 dMo_count_1 (by rw [e5]; decide) (by rw [e5]; decide) (by rw [e5]; rfl) (by decide) (k5 e5 H0 H hM hm hu)
  by_cases e6 : x1 = 6
  · exact zw_tableIn (off := 88) 89 dMo_count_1 (by rw [e6]; decide) (by rw [e6]; decide) (by rw [e6]; rfl) (by decide) (k6 e6 H0 H hM hm hu)
  by_cases e7 : x1 = 7
  · exact zw_tableIn (off := 101) 102 dMo_count_1 (by rw [e7]; decide) (by rw [e7]; decide) (by rw [e7]; rfl) (by decide) (k7 e7 H0 H hM hm hu)
  have f0 := zNe e0 (0) (by decide)
  have f1 := zNe e1 (1) (by decide)
  have f2 := zNe e2 (2) (by decide)
  have f3 := zNe e3 (3) (by decide)
  have f4 := zNe e4 (4) (by decide)
  have f5 := zNe e5 (5) (by decide)
  have f6 := zNe e6 (6) (by decide)
  have f7 := zNe e7 (7) (by decide)
  exact zw_tableOut 122 dMo_count_1 (by omega) (by decide) (kd ⟨e0, e1, e2, e3, e4, e5, e6, e7⟩ H0 H hM hm hu)
theorem sMo_count_48 {G : zG} {d : Nat} {ad : Nat → Nat} {μ : zMm} {P : Option Value → zMm → Prop} {o1 : Option Value} (hq : P (some (.int (μ.1 16))) μ) : mW G d ad M_Mo_count 48 [some (.ref (ad 50)), o1] [] μ P :=
  fun H0 H hM hm hu => zw_aload_n (i := 0) dMo_count_48 rfl rfl zRf_ref <| zw_getf dMo_count_49 zf_Mo_165 (hM.fi 16 (Nat.le_of_ble_eq_true rfl) mz_16) <| zw_iret dMo_count_52 .int rfl rfl ⟨μ, hq, hM, hm, hu⟩
theorem sMo_count_53 {G : zG} {d : Nat} {ad : Nat → Nat} {μ : zMm} {P : Option Value → zMm → Prop} {o1 : Option Value} (hq : P (some (.int (μ.1 30))) μ) : mW G d ad M_Mo_count 53 [some (.ref (ad 50)), o1] [] μ P :=
  fun H0 H hM hm hu => zw_aload_n (i := 0) dMo_count_53 rfl rfl zRf_ref <| zw_getf dMo_count_54 zf_Mo_196 (hM.fi 30 (Nat.le_of_ble_eq_true rfl) mz_30) <| zw_iret dMo_count_57 .int rfl rfl ⟨μ, hq, hM, hm, hu⟩
theorem sMo_count_58 {G : zG} {d : Nat} {ad : Nat → Nat} {μ : zMm} {P : Option Value → zMm → Prop} {o1 : Option Value} (hq : P (some (.int (μ.1 26))) μ) : mW G d ad M_Mo_count 58 [some (.ref (ad 50)), o1] [] μ P :=
  fun H0 H hM hm hu => zw_aload_n (i := 0) dMo_count_58 rfl rfl zRf_ref <| zw_getf dMo_count_59 zf_Mo_220 (hM.fi 26 (Nat.le_of_ble_eq_true rfl) mz_26) <| zw_iret dMo_count_62 .int rfl rfl ⟨μ, hq, hM, hm, hu⟩
theorem sMo_count_63 {G : zG} {d : Nat} {ad : Nat → Nat} {μ : zMm} {P : Option Value → zMm → Prop} {o1 : Option Value} (hq : P (some (.int (μ.1 35))) μ) : mW G d ad M_Mo_count 63 [some (.ref (ad 50)), o1] [] μ P :=
  fun H0 H hM hm hu => zw_aload_n (i := 0) dMo_count_63 rfl rfl zRf_ref <| zw_getf dMo_count_64 zf_Mo_248 (hM.fi 35 (Nat.le_of_ble_eq_true rfl) mz_35) <| zw_iret dMo_count_67 .int rfl rfl ⟨μ, hq, hM, hm, hu⟩
theorem sMo_count_68 {G : zG} {d : Nat} {ad : Nat → Nat} {μ : zMm} {P : Option Value → zMm → Prop} {o1 : Option Value} (hq : P (some (.int (μ.1 25))) μ) : mW G d ad M_Mo_count 68 [some (.ref (ad 50)), o1] [] μ P :=
  fun H0 H hM hm hu => zw_aload_n (i := 0) dMo_count_68 rfl rfl zRf_ref <| zw_getf dMo_count_69 zf_Mo_229 (hM.fi 25 (Nat.le_of_ble_eq_true rfl) mz_25) <| zw_iret dMo_count_72 .int rfl rfl ⟨μ, hq, hM, hm, hu⟩
theorem sMo_count_73 {G : zG} {d : Nat} {ad : Nat → Nat} {μ : zMm} {P : Option Value → zMm → Prop} {st : List Value} {o1 : Option Value} (kt : ((μ.1 50) = 0) → mW G d ad M_Mo_count 87 [some (.ref (ad 50)), o1] st μ P) (kf : (¬ (μ.1 50) = 0) → mW G d ad M_Mo_count 80 [some (.ref (ad 50)), o1] st μ P) : mW G d ad M_Mo_count 73 [some (.ref (ad 50)), o1] st μ P :=
  fun H0 H hM hm hu => zw_aload_n (i := 0) dMo_count_73 rfl rfl zRf_ref <| zw_getf dMo_count_74 zf_Mo_277 (hM.fi 50 (Nat.le_of_ble_eq_true rfl) mz_50) <| zw_if_eq 87 dMo_count_77 (by decide) (fun h => kt h H0 H hM hm hu) (fun h => kf h H0 H hM hm hu)
theorem sMo_count_80 {G : zG} {d : Nat} {ad : Nat → Nat} {μ : zMm} {P : Option Value → zMm → Prop} {o1 : Option Value} (hq : P (some (.int (μ.1 45))) μ) : mW G d ad M_Mo_count 80 [some (.ref (ad 50)), o1] [] μ P :=
  fun H0 H hM hm hu => zw_aload_n (i := 0) dMo_count_80 rfl rfl zRf_ref <| zw_getf dMo_count_81 zf_Mo_235 (hM.fi 45 (Nat.le_of_ble_eq_true rfl) mz_45) <| zw_goto 88 dMo_count_84 (by decide) <| zw_iret dMo_count_88 .int rfl rfl ⟨μ, hq, hM, hm, hu⟩
theorem sMo_count_87 {G : zG} {d : Nat} {ad : Nat → Nat} {μ : zMm} {P : Option Value → zMm → Prop} {o0 : Option Value} {o1 : Option Value} (hq : P (some (.int (nI 0))) μ) : mW G d ad M_Mo_count 87 [o0, o1] [] μ P :=
  fun H0 H hM hm hu => zw_iconst (nI 0) dMo_count_87 zki_0 <| zw_iret dMo_count_88 .int rfl rfl ⟨μ, hq, hM, hm, hu⟩
theorem sMo_count_88 {G : zG} {d : Nat} {ad : Nat → Nat} {μ : zMm} {P : Option Value → zMm → Prop} {o0 : Option Value} {o1 : Option Value} {xs0 : Int32} (hq : P (some (.int xs0)) μ) : mW G d ad M_Mo_count 88 [o0, o1] ((.int xs0) :: []) μ P :=
  fun H0 H hM hm hu => zw_iret dMo_count_88 .int rfl rfl ⟨μ, hq, hM, hm, hu⟩
theorem sMo_count_89 {G : zG} {d : Nat} {ad : Nat → Nat} {μ : zMm} {P : Option Value → zMm → Prop} {st : List Value} {o1 : Option Value} (kt : ((μ.1 49) = 0) → mW G d ad M_Mo_count 100 [some (.ref (ad 50)), o1] st μ P) (kf : (¬ (μ.1 49) = 0) → mW G d ad M_Mo_count 96 [some (.ref (ad 50)), o1] st μ P) : mW G d ad M_Mo_count 89 [some (.ref (ad 50)), o1] st μ P :=
  fun H0 H hM hm hu => zw_aload_n (i := 0) dMo_count_89 rfl rfl zRf_ref <| zw_getf dMo_count_90 zf_Mo_283 (hM.fi 49 (Nat.le_of_ble_eq_true rfl) mz_49) <| zw_if_eq 100 dMo_count_93 (by decide) (fun h => kt h H0 H hM hm hu) (fun h => kf h H0 H hM hm hu)
theorem sMo_count_96 {G : zG} {d : Nat} {ad : Nat → Nat} {μ : zMm} {P : Option Value → zMm → Prop} {o0 : Option Value} {o1 : Option Value} (hq : P (some (.int (nI 1))) μ) : mW G d ad M_Mo_count 96 [o0, o1] [] μ P :=
  fun H0 H hM hm hu => zw_iconst (nI 1) dMo_count_96 zki_1 <| zw_goto 101 dMo_count_97 (by decide) <| zw_iret dMo_count_101 .int rfl rfl ⟨μ, hq, hM, hm, hu⟩
theorem sMo_count_100 {G : zG} {d : Nat} {ad : Nat → Nat} {μ : zMm} {P : Option Value → zMm → Prop} {o0 : Option Value} {o1 : Option Value} (hq : P (some (.int (nI 0))) μ) : mW G d ad M_Mo_count 100 [o0, o1] [] μ P :=
  fun H0 H hM hm hu => zw_iconst (nI 0) dMo_count_100 zki_0 <| zw_iret dMo_count_101 .int rfl rfl ⟨μ, hq, hM, hm, hu⟩
theorem sMo_count_101 {G : zG} {d : Nat} {ad : Nat → Nat} {μ : zMm} {P : Option Value → zMm → Prop} {o0 : Option Value} {o1 : Option Value} {xs0 : Int32} (hq : P (some (.int xs0)) μ) : mW G d ad M_Mo_count 101 [o0, o1] ((.int xs0) :: []) μ P :=
  fun H0 H hM hm hu => zw_iret dMo_count_101 .int rfl rfl ⟨μ, hq, hM, hm, hu⟩
theorem sMo_count_102 {G : zG} {d : Nat} {ad : Nat → Nat} {μ : zMm} {P : Option Value → zMm → Prop} {st : List Value} {o1 : Option Value} (kt : ((μ.1 50) = 0) → mW G d ad M_Mo_count 120 [some (.ref (ad 50)), o1] st μ P) (kf : (¬ (μ.1 50) = 0) → mW G d ad M_Mo_count 109 [some (.ref (ad 50)), o1] st μ P) : mW G d ad M_Mo_count 102 [some (.ref (ad 50)), o1] st μ P :=
  fun H0 H hM hm hu => zw_aload_n (i := 0) dMo_count_102 rfl rfl zRf_ref <| zw_getf dMo_count_103 zf_Mo_277 (hM.fi 50 (Nat.le_of_ble_eq_true rfl) mz_50) <| zw_if_eq 120 dMo_count_106 (by decide) (fun h => kt h H0 H hM hm hu) (fun h => kf h H0 H hM hm hu)
theorem sMo_count_109 {G : zG} {d : Nat} {ad : Nat → Nat} {μ : zMm} {P : Option Value → zMm → Prop} {st : List Value} {o1 : Option Value} (kt : ((μ.1 46) = 0) → mW G d ad M_Mo_count 120 [some (.ref (ad 50)), o1] st μ P) (kf : (¬ (μ.1 46) = 0) → mW G d ad M_Mo_count 116 [some (.ref (ad 50)), o1] st μ P) : mW G d ad M_Mo_count 109 [some (.ref (ad 50)), o1] st μ P :=
  fun H0 H hM hm hu => zw_aload_n (i := 0) dMo_count_109 rfl rfl zRf_ref <| zw_getf dMo_count_110 zf_Mo_241 (hM.fi 46 (Nat.le_of_ble_eq_true rfl) mz_46) <| zw_if_eq 120 dMo_count_113 (by decide) (fun h => kt h H0 H hM hm hu) (fun h => kf h H0 H hM hm hu)
theorem sMo_count_116 {G : zG} {d : Nat} {ad : Nat → Nat} {μ : zMm} {P : Option Value → zMm → Prop} {o0 : Option Value} {o1 : Option Value} (hq : P (some (.int (nI 1))) μ) : mW G d ad M_Mo_count 116 [o0, o1] [] μ P :=
  fun H0 H hM hm hu => zw_iconst (nI 1) dMo_count_116 zki_1 <| zw_goto 121 dMo_count_117 (by decide) <| zw_iret dMo_count_121 .int rfl rfl ⟨μ, hq, hM, hm, hu⟩
theorem sMo_count_120 {G : zG} {d : Nat} {ad : Nat → Nat} {μ : zMm} {P : Option Value → zMm → Prop} {o0 : Option Value} {o1 : Option Value} (hq : P (some (.int (nI 0))) μ) : mW G d ad M_Mo_count 120 [o0, o1] [] μ P :=
  fun H0 H hM hm hu => zw_iconst (nI 0) dMo_count_120 zki_0 <| zw_iret dMo_count_121 .int rfl rfl ⟨μ, hq, hM, hm, hu⟩
theorem sMo_count_121 {G : zG} {d : Nat} {ad : Nat → Nat} {μ : zMm} {P : Option Value → zMm → Prop} {o0 : Option Value} {o1 : Option Value} {xs0 : Int32} (hq : P (some (.int xs0)) μ) : mW G d ad M_Mo_count 121 [o0, o1] ((.int xs0) :: []) μ P :=
  fun H0 H hM hm hu => zw_iret dMo_count_121 .int rfl rfl ⟨μ, hq, hM, hm, hu⟩
theorem sMo_count_122 {G : zG} {d : Nat} {ad : Nat → Nat} {μ : zMm} {P : Option Value → zMm → Prop} {o0 : Option Value} {o1 : Option Value} (hq : P (some (.int (-1 : Int32))) μ) : mW G d ad M_Mo_count 122 [o0, o1] [] μ P :=
  fun H0 H hM hm hu => zw_iconst (-1 : Int32) dMo_count_122 zki_m1 <| zw_iret dMo_count_123 .int rfl rfl ⟨μ, hq, hM, hm, hu⟩
