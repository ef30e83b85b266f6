/-! The law's own rows. -/
abbrev M_La (nm : String) : MethodName × ByteArray × Nat × Option FieldType := (⟨"NetDeskLaw", nm, "([I)Z"⟩, code, 4, some .boolean)
theorem zkb_15 : (Int8.ofInt 15).toInt32 = 15 := by decide +kernel
theorem zki_6 : Int32.ofInt 6 = 6 := by decide +kernel
theorem dLa_law_0 : decode code 0 = .ok (.new 7, 3) := by decide +kernel
theorem dLa_law_3 : decode code 3 = .ok (.dup, 1) := by decide +kernel
theorem dLa_law_4 : decode code 4 = .ok (.invokespecial 9, 3) := by decide +kernel
theorem dLa_law_7 : decode code 7 = .ok (.astore_n 1, 1) := by decide +kernel
theorem dLa_law_8 : decode code 8 = .ok (.new 10, 3) := by decide +kernel
theorem dLa_law_11 : decode code 11 = .ok (.dup, 1) := by decide +kernel
theorem dLa_law_12 : decode code 12 = .ok (.invokespecial 12, 3) := by decide +kernel
theorem dLa_law_15 : decode code 15 = .ok (.astore_n 2, 1) := by decide +kernel
theorem dLa_law_16 : decode code 16 = .ok (.iconst 0, 1) := by decide +kernel
theorem dLa_law_17 : decode code 17 = .ok (.istore_n 3, 1) := by decide +kernel
theorem dLa_law_18 : decode code 18 = .ok (.iload_n 3, 1) := by decide +kernel
theorem dLa_law_19 : decode code 19 = .ok (.aload_n 0, 1) := by decide +kernel
theorem dLa_law_20 : decode code 20 = .ok (.arraylength, 1) := by decide +kernel
theorem dLa_law_21 : decode code 21 = .ok (.bipush 6, 2) := by decide +kernel
theorem dLa_law_23 : decode code 23 = .ok (.isub, 1) := by decide +kernel
theorem dLa_law_24 : decode code 24 = .ok (.if_icmp .gt 344, 3) := by decide +kernel
theorem dLa_law_27 : decode code 27 = .ok (.aload_n 0, 1) := by decide +kernel
theorem dLa_law_28 : decode code 28 = .ok (.iload_n 3, 1) := by decide +kernel
theorem dLa_law_29 : decode code 29 = .ok (.iaload, 1) := by decide +kernel
theorem dLa_law_30 : decode code 30 = .ok (.bipush 15, 2) := by decide +kernel
theorem dLa_law_32 : decode code 32 = .ok (.iand, 1) := by decide +kernel
theorem dLa_law_33 : decode code 33 = .ok (.tableswitch 329 0 11 #[63, 126, 149, 172, 185, 198, 211, 224, 247, 270, 283, 306], 63) := by decide +kernel
theorem dLa_law_96 : decode code 96 = .ok (.aload_n 1, 1) := by decide +kernel
theorem dLa_law_97 : decode code 97 = .ok (.aload_n 0, 1) := by decide +kernel
theorem dLa_law_98 : decode code 98 = .ok (.iload_n 3, 1) := by decide +kernel
theorem dLa_law_99 : decode code 99 = .ok (.iconst 1, 1) := by decide +kernel
theorem dLa_law_100 : decode code 100 = .ok (.iadd, 1) := by decide +kernel
theorem dLa_law_101 : decode code 101 = .ok (.iaload, 1) := by decide +kernel
theorem dLa_law_102 : decode code 102 = .ok (.aload_n 0, 1) := by decide +kernel
theorem dLa_law_103 : decode code 103 = .ok (.iload_n 3, 1) := by decide +kernel
theorem dLa_law_104 : decode code 104 = .ok (.iconst 2, 1) := by decide +kernel
theorem dLa_law_105 : decode code 105 = .ok (.iadd, 1) := by decide +kernel
theorem dLa_law_106 : decode code 106 = .ok (.iaload, 1) := by decide +kernel
theorem dLa_law_107 : decode code 107 = .ok (.aload_n 0, 1) := by decide +kernel
theorem dLa_law_108 : decode code 108 = .ok (.iload_n 3, 1) := by decide +kernel
theorem dLa_law_109 : decode code 109 = .ok (.iconst 3, 1) := by decide +kernel
theorem dLa_law_110 : decode code 110 = .ok (.iadd, 1) := by decide +kernel
theorem dLa_law_111 : decode code 111 = .ok (.iaload, 1) := by decide +kernel
theorem dLa_law_112 : decode code 112 = .ok (.aload_n 0, 1) := by decide +kernel
theorem dLa_law_113 : decode code 113 = .ok (.iload_n 3, 1) := by decide +kernel
theorem dLa_law_114 : decode code 114 = .ok (.iconst 4, 1) := by decide +kernel
theorem dLa_law_115 : decode code 115 = .ok (.iadd, 1) := by decide +kernel
theorem dLa_law_116 : decode code 116 = .ok (.iaload, 1) := by decide +kernel
theorem dLa_law_117 : decode code 117 = .ok (.aload_n 0, 1) := by decide +kernel
theorem dLa_law_118 : decode code 118 = .ok (.iload_n 3, 1) := by decide +kernel
theorem dLa_law_119 : decode code 119 = .ok (.iconst 5, 1) := by decide +kernel
theorem dLa_law_120 : decode code 120 = .ok (.iadd, 1) := by decide +kernel
theorem dLa_law_121 : decode code 121 = .ok (.iaload, 1) := by decide +kernel
theorem dLa_law_122 : decode code 122 = .ok (.invokevirtual 13, 3) := by decide +kernel
theorem dLa_law_125 : decode code 125 = .ok (.aload_n 2, 1) := by decide +kernel
theorem dLa_law_126 : decode code 126 = .ok (.aload_n 0, 1) := by decide +kernel
theorem dLa_law_127 : decode code 127 = .ok (.iload_n 3, 1) := by decide +kernel
theorem dLa_law_128 : decode code 128 = .ok (.iconst 1, 1) := by decide +kernel
theorem dLa_law_129 : decode code 129 = .ok (.iadd, 1) := by decide +kernel
theorem dLa_law_130 : decode code 130 = .ok (.iaload, 1) := by decide +kernel
theorem dLa_law_131 : decode code 131 = .ok (.aload_n 0, 1) := by decide +kernel
theorem dLa_law_132 : decode code 132 = .ok (.iload_n 3, 1) := by decide +kernel
theorem dLa_law_133 : decode code 133 = .ok (.iconst 2, 1) := by decide +kernel
theorem dLa_law_134 : decode code 134 = .ok (.iadd, 1) := by decide +kernel
theorem dLa_law_135 : decode code 135 = .ok (.iaload, 1) := by decide +kernel
theorem dLa_law_136 : decode code 136 = .ok (.aload_n 0, 1) := by decide +kernel
theorem dLa_law_137 : decode code 137 = .ok (.iload_n 3, 1) := by decide +kernel
theorem dLa_law_138 : decode code 138 = .ok (.iconst 3, 1) := by decide +kernel
theorem dLa_law_139 : decode code 139 = .ok (.iadd, 1) := by decide +kernel
theorem dLa_law_140 : decode code 140 = .ok (.iaload, 1) := by decide +kernel
theorem dLa_law_141 : decode code 141 = .ok (.aload_n 0, 1) := by decide +kernel
theorem dLa_law_142 : decode code 142 = .ok (.iload_n 3, 1) := by decide +kernel
theorem dLa_law_143 : decode code 143 = .ok (.iconst 4, 1) := by decide +kernel
theorem dLa_law_144 : decode code 144 = .ok (.iadd, 1) := by decide +kernel
theorem dLa_law_145 : decode code 145 = .ok (.iaload, 1) := by decide +kernel
theorem dLa_law_146 : decode code 146 = .ok (.aload_n 0, 1) := by decide +kernel
theorem dLa_law_147 : decode code 147 = .ok (.iload_n 3, 1) := by decide +kernel
theorem dLa_law_148 : decode code 148 = .ok (.iconst 5, 1) := by decide +kernel
theorem dLa_law_149 : decode code 149 = .ok (.iadd, 1) := by decide +kernel
theorem dLa_law_150 : decode code 150 = .ok (.iaload, 1) := by decide +kernel
theorem dLa_law_151 : decode code 151 = .ok (.invokevirtual 17, 3) := by decide +kernel
theorem dLa_law_154 : decode code 154 = .ok (.if_icmp .eq 208, 3) := by decide +kernel
theorem dLa_law_157 : decode code 157 = .ok (.iconst 0, 1) := by decide +kernel
theorem dLa_law_158 : decode code 158 = .ok (.ireturn, 1) := by decide +kernel
theorem dLa_law_159 : decode code 159 = .ok (.aload_n 1, 1) := by decide +kernel
theorem dLa_law_160 : decode code 160 = .ok (.aload_n 0, 1) := by decide +kernel
theorem dLa_law_161 : decode code 161 = .ok (.iload_n 3, 1) := by decide +kernel
theorem dLa_law_162 : decode code 162 = .ok (.iconst 1, 1) := by decide +kernel
theorem dLa_law_163 : decode code 163 = .ok (.iadd, 1) := by decide +kernel
theorem dLa_law_164 : decode code 164 = .ok (.iaload, 1) := by decide +kernel
theorem dLa_law_165 : decode code 165 = .ok (.invokevirtual 18, 3) := by decide +kernel
theorem dLa_law_168 : decode code 168 = .ok (.aload_n 2, 1) := by decide +kernel
theorem dLa_law_169 : decode code 169 = .ok (.aload_n 0, 1) := by decide +kernel
theorem dLa_law_170 : decode code 170 = .ok (.iload_n 3, 1) := by decide +kernel
theorem dLa_law_171 : decode code 171 = .ok (.iconst 1, 1) := by decide +kernel
theorem dLa_law_172 : decode code 172 = .ok (.iadd, 1) := by decide +kernel
theorem dLa_law_173 : decode code 173 = .ok (.iaload, 1) := by decide +kernel
theorem dLa_law_174 : decode code 174 = .ok (.invokevirtual 22, 3) := by decide +kernel
theorem dLa_law_177 : decode code 177 = .ok (.if_icmp .eq 185, 3) := by decide +kernel
theorem dLa_law_180 : decode code 180 = .ok (.iconst 0, 1) := by decide +kernel
theorem dLa_law_181 : decode code 181 = .ok (.ireturn, 1) := by decide +kernel
theorem dLa_law_182 : decode code 182 = .ok (.aload_n 1, 1) := by decide +kernel
theorem dLa_law_183 : decode code 183 = .ok (.aload_n 0, 1) := by decide +kernel
theorem dLa_law_184 : decode code 184 = .ok (.iload_n 3, 1) := by decide +kernel
theorem dLa_law_185 : decode code 185 = .ok (.iconst 1, 1) := by decide +kernel
theorem dLa_law_186 : decode code 186 = .ok (.iadd, 1) := by decide +kernel
theorem dLa_law_187 : decode code 187 = .ok (.iaload, 1) := by decide +kernel
theorem dLa_law_188 : decode code 188 = .ok (.invokevirtual 23, 3) := by decide +kernel
theorem dLa_law_191 : decode code 191 = .ok (.aload_n 2, 1) := by decide +kernel
theorem dLa_law_192 : decode code 192 = .ok (.aload_n 0, 1) := by decide +kernel
theorem dLa_law_193 : decode code 193 = .ok (.iload_n 3, 1) := by decide +kernel
theorem dLa_law_194 : decode code 194 = .ok (.iconst 1, 1) := by decide +kernel
theorem dLa_law_195 : decode code 195 = .ok (.iadd, 1) := by decide +kernel
theorem dLa_law_196 : decode code 196 = .ok (.iaload, 1) := by decide +kernel
theorem dLa_law_197 : decode code 197 = .ok (.invokevirtual 26, 3) := by decide +kernel
theorem dLa_law_200 : decode code 200 = .ok (.if_icmp .eq 162, 3) := by decide +kernel
theorem dLa_law_203 : decode code 203 = .ok (.iconst 0, 1) := by decide +kernel
theorem dLa_law_204 : decode code 204 = .ok (.ireturn, 1) := by decide +kernel
theorem dLa_law_205 : decode code 205 = .ok (.aload_n 1, 1) := by decide +kernel
theorem dLa_law_206 : decode code 206 = .ok (.invokevirtual 27, 3) := by decide +kernel
theorem dLa_law_209 : decode code 209 = .ok (.aload_n 2, 1) := by decide +kernel
theorem dLa_law_210 : decode code 210 = .ok (.invokevirtual 31, 3) := by decide +kernel
theorem dLa_law_213 : decode code 213 = .ok (.if_icmp .eq 149, 3) := by decide +kernel
theorem dLa_law_216 : decode code 216 = .ok (.iconst 0, 1) := by decide +kernel
theorem dLa_law_217 : decode code 217 = .ok (.ireturn, 1) := by decide +kernel
theorem dLa_law_218 : decode code 218 = .ok (.aload_n 1, 1) := by decide +kernel
theorem dLa_law_219 : decode code 219 = .ok (.invokevirtual 32, 3) := by decide +kernel
theorem dLa_law_222 : decode code 222 = .ok (.aload_n 2, 1) := by decide +kernel
theorem dLa_law_223 : decode code 223 = .ok (.invokevirtual 35, 3) := by decide +kernel
theorem dLa_law_226 : decode code 226 = .ok (.if_icmp .eq 136, 3) := by decide +kernel
theorem dLa_law_229 : decode code 229 = .ok (.iconst 0, 1) := by decide +kernel
theorem dLa_law_230 : decode code 230 = .ok (.ireturn, 1) := by decide +kernel
theorem dLa_law_231 : decode code 231 = .ok (.aload_n 1, 1) := by decide +kernel
theorem dLa_law_232 : decode code 232 = .ok (.invokevirtual 36, 3) := by decide +kernel
theorem dLa_law_235 : decode code 235 = .ok (.aload_n 2, 1) := by decide +kernel
theorem dLa_law_236 : decode code 236 = .ok (.invokevirtual 39, 3) := by decide +kernel
theorem dLa_law_239 : decode code 239 = .ok (.if_icmp .eq 123, 3) := by decide +kernel
theorem dLa_law_242 : decode code 242 = .ok (.iconst 0, 1) := by decide +kernel
theorem dLa_law_243 : decode code 243 = .ok (.ireturn, 1) := by decide +kernel
theorem dLa_law_244 : decode code 244 = .ok (.aload_n 1, 1) := by decide +kernel
theorem dLa_law_245 : decode code 245 = .ok (.invokevirtual 40, 3) := by decide +kernel
theorem dLa_law_248 : decode code 248 = .ok (.aload_n 2, 1) := by decide +kernel
theorem dLa_law_249 : decode code 249 = .ok (.invokevirtual 43, 3) := by decide +kernel
theorem dLa_law_252 : decode code 252 = .ok (.if_icmp .eq 110, 3) := by decide +kernel
theorem dLa_law_255 : decode code 255 = .ok (.iconst 0, 1) := by decide +kernel
theorem dLa_law_256 : decode code 256 = .ok (.ireturn, 1) := by decide +kernel
theorem dLa_law_257 : decode code 257 = .ok (.aload_n 1, 1) := by decide +kernel
theorem dLa_law_258 : decode code 258 = .ok (.aload_n 0, 1) := by decide +kernel
theorem dLa_law_259 : decode code 259 = .ok (.iload_n 3, 1) := by decide +kernel
theorem dLa_law_260 : decode code 260 = .ok (.iconst 1, 1) := by decide +kernel
theorem dLa_law_261 : decode code 261 = .ok (.iadd, 1) := by decide +kernel
theorem dLa_law_262 : decode code 262 = .ok (.iaload, 1) := by decide +kernel
theorem dLa_law_263 : decode code 263 = .ok (.invokevirtual 44, 3) := by decide +kernel
theorem dLa_law_266 : decode code 266 = .ok (.aload_n 2, 1) := by decide +kernel
theorem dLa_law_267 : decode code 267 = .ok (.aload_n 0, 1) := by decide +kernel
theorem dLa_law_268 : decode code 268 = .ok (.iload_n 3, 1) := by decide +kernel
theorem dLa_law_269 : decode code 269 = .ok (.iconst 1, 1) := by decide +kernel
theorem dLa_law_270 : decode code 270 = .ok (.iadd, 1) := by decide +kernel
theorem dLa_law_271 : decode code 271 = .ok (.iaload, 1) := by decide +kernel
theorem dLa_law_272 : decode code 272 = .ok (.invokevirtual 47, 3) := by decide +kernel
theorem dLa_law_275 : decode code 275 = .ok (.if_icmp .eq 87, 3) := by decide +kernel
theorem dLa_law_278 : decode code 278 = .ok (.iconst 0, 1) := by decide +kernel
theorem dLa_law_279 : decode code 279 = .ok (.ireturn, 1) := by decide +kernel
theorem dLa_law_280 : decode code 280 = .ok (.aload_n 1, 1) := by decide +kernel
theorem dLa_law_281 : decode code 281 = .ok (.aload_n 0, 1) := by decide +kernel
theorem dLa_law_282 : decode code 282 = .ok (.iload_n 3, 1) := by decide +kernel
theorem dLa_law_283 : decode code 283 = .ok (.iconst 1, 1) := by decide +kernel
theorem dLa_law_284 : decode code 284 = .ok (.iadd, 1) := by decide +kernel
theorem dLa_law_285 : decode code 285 = .ok (.iaload, 1) := by decide +kernel
theorem dLa_law_286 : decode code 286 = .ok (.invokevirtual 48, 3) := by decide +kernel
theorem dLa_law_289 : decode code 289 = .ok (.aload_n 2, 1) := by decide +kernel
theorem dLa_law_290 : decode code 290 = .ok (.aload_n 0, 1) := by decide +kernel
theorem dLa_law_291 : decode code 291 = .ok (.iload_n 3, 1) := by decide +kernel
theorem dLa_law_292 : decode code 292 = .ok (.iconst 1, 1) := by decide +kernel
theorem dLa_law_293 : decode code 293 = .ok (.iadd, 1) := by decide +kernel
theorem dLa_law_294 : decode code 294 = .ok (.iaload, 1) := by decide +kernel
theorem dLa_law_295 : decode code 295 = .ok (.invokevirtual 51, 3) := by decide +kernel
theorem dLa_law_298 : decode code 298 = .ok (.if_icmp .eq 64, 3) := by decide +kernel
theorem dLa_law_301 : decode code 301 = .ok (.iconst 0, 1) := by decide +kernel
theorem dLa_law_302 : decode code 302 = .ok (.ireturn, 1) := by decide +kernel
theorem dLa_law_303 : decode code 303 = .ok (.aload_n 1, 1) := by decide +kernel
theorem dLa_law_304 : decode code 304 = .ok (.invokevirtual 52, 3) := by decide +kernel
theorem dLa_law_307 : decode code 307 = .ok (.aload_n 2, 1) := by decide +kernel
theorem dLa_law_308 : decode code 308 = .ok (.invokevirtual 55, 3) := by decide +kernel
theorem dLa_law_311 : decode code 311 = .ok (.if_icmp .eq 51, 3) := by decide +kernel
theorem dLa_law_314 : decode code 314 = .ok (.iconst 0, 1) := by decide +kernel
theorem dLa_law_315 : decode code 315 = .ok (.ireturn, 1) := by decide +kernel
theorem dLa_law_316 : decode code 316 = .ok (.aload_n 1, 1) := by decide +kernel
theorem dLa_law_317 : decode code 317 = .ok (.aload_n 0, 1) := by decide +kernel
theorem dLa_law_318 : decode code 318 = .ok (.iload_n 3, 1) := by decide +kernel
theorem dLa_law_319 : decode code 319 = .ok (.iconst 1, 1) := by decide +kernel
theorem dLa_law_320 : decode code 320 = .ok (.iadd, 1) := by decide +kernel
theorem dLa_law_321 : decode code 321 = .ok (.iaload, 1) := by decide +kernel
theorem dLa_law_322 : decode code 322 = .ok (.invokevirtual 56, 3) := by decide +kernel
theorem dLa_law_325 : decode code 325 = .ok (.aload_n 2, 1) := by decide +kernel
theorem dLa_law_326 : decode code 326 = .ok (.aload_n 0, 1) := by decide +kernel
theorem dLa_law_327 : decode code 327 = .ok (.iload_n 3, 1) := by decide +kernel
theorem dLa_law_328 : decode code 328 = .ok (.iconst 1, 1) := by decide +kernel
theorem dLa_law_329 : decode code 329 = .ok (.iadd, 1) := by decide +kernel
theorem dLa_law_330 : decode code 330 = .ok (.iaload, 1) := by decide +kernel
theorem dLa_law_331 : decode code 331 = .ok (.invokevirtual 59, 3) := by decide +kernel
theorem dLa_law_334 : decode code 334 = .ok (.if_icmp .eq 28, 3) := by decide +kernel
theorem dLa_law_337 : decode code 337 = .ok (.iconst 0, 1) := by decide +kernel
theorem dLa_law_338 : decode code 338 = .ok (.ireturn, 1) := by decide +kernel
theorem dLa_law_339 : decode code 339 = .ok (.aload_n 1, 1) := by decide +kernel
theorem dLa_law_340 : decode code 340 = .ok (.aload_n 0, 1) := by decide +kernel
theorem dLa_law_341 : decode code 341 = .ok (.iload_n 3, 1) := by decide +kernel
theorem dLa_law_342 : decode code 342 = .ok (.iconst 1, 1) := by decide +kernel
theorem dLa_law_343 : decode code 343 = .ok (.iadd, 1) := by decide +kernel
theorem dLa_law_344 : decode code 344 = .ok (.iaload, 1) := by decide +kernel
theorem dLa_law_345 : decode code 345 = .ok (.invokevirtual 60, 3) := by decide +kernel
theorem dLa_law_348 : decode code 348 = .ok (.aload_n 2, 1) := by decide +kernel
theorem dLa_law_349 : decode code 349 = .ok (.aload_n 0, 1) := by decide +kernel
theorem dLa_law_350 : decode code 350 = .ok (.iload_n 3, 1) := by decide +kernel
theorem dLa_law_351 : decode code 351 = .ok (.iconst 1, 1) := by decide +kernel
theorem dLa_law_352 : decode code 352 = .ok (.iadd, 1) := by decide +kernel
theorem dLa_law_353 : decode code 353 = .ok (.iaload, 1) := by decide +kernel
theorem dLa_law_354 : decode code 354 = .ok (.invokevirtual 63, 3) := by decide +kernel
theorem dLa_law_357 : decode code 357 = .ok (.if_icmp .eq 5, 3) := by decide +kernel
theorem dLa_law_360 : decode code 360 = .ok (.iconst 0, 1) := by decide +kernel
theorem dLa_law_361 : decode code 361 = .ok (.ireturn, 1) := by decide +kernel
theorem dLa_law_362 : decode code 362 = .ok (.iinc 3 6, 3) := by decide +kernel
theorem dLa_law_365 : decode code 365 = .ok (.goto (-347), 3) := by decide +kernel
theorem dLa_law_368 : decode code 368 = .ok (.iconst 1, 1) := by decide +kernel
theorem dLa_law_369 : decode code 369 = .ok (.ireturn, 1) := by decide +kernel
theorem zn_La_law_7 {nm : String} : zNf (M_La nm) 7 0 17 [.null, .null, .null, .null, .null, .null, .null, .null, .null, .int 0, .int 0, .null, .null, .null, .null, .int 0, .int 0] := ⟨_, _, _, ty_N, rfl, in_N, tyok_N, zt1 28 rfl, zt1 29 rfl, zt1 1 rfl, Nat.le_of_ble_eq_true rfl, zDf_N⟩
theorem zk_La_9 : zLkI "NetDeskLaw" 9 M_N_init 0 := ⟨zc_N_init, rfl, rfl, zt1 31 rfl, Or.inl (zt1 30 rfl)⟩
theorem zn_La_law_10 {nm : String} : zNf (M_La nm) 10 13 51 [.null, .int 0, .null, .int 0, .null, .int 0, .null, .null, .null, .null, .null, .null, .int 0, .int 0, .int 0, .int 0, .int 0, .null, .null, .null, .null, .null, .null, .null, .null, .int 0, .int 0, .int 0, .null, .null, .int 0, .null, .null, .null, .null, .int 0, .null, .int 0, .int 0, .int 0, .int 0, .int 0, .int 0, .null, .int 0, .int 0, .int 0, .null, .int 0, .int 0, .int 0] := ⟨_, _, _, ty_Mo, rfl, in_Mo, tyok_Mo, zt5 147 rfl, zt5 61 rfl, zt1 14 rfl, Nat.le_of_ble_eq_true rfl, zDf_Mo⟩
theorem zk_La_12 : zLkI "NetDeskLaw" 12 M_Mo_init 0 := ⟨zc_Mo_init, rfl, rfl, zt5 149 rfl, Or.inl (zt5 148 rfl)⟩
theorem zk_La_13 : zLkV "NetDeskLaw" 13 0 M_N_feed 5 := ⟨zc_N_feed, ⟨_, _, _, rfl, Or.inl (zt2 26 rfl)⟩, zt2 25 rfl, Or.inl (zt2 24 rfl)⟩
theorem zk_La_17 : zLkV "NetDeskLaw" 17 13 M_Mo_feed 5 := ⟨zc_Mo_feed, ⟨_, _, _, rfl, Or.inl (zt6 69 rfl)⟩, zt6 68 rfl, Or.inl (zt6 67 rfl)⟩
theorem zk_La_18 : zLkV "NetDeskLaw" 18 0 M_N_end 1 := ⟨zc_N_end, ⟨_, _, _, rfl, Or.inl (zt2 136 rfl)⟩, zt2 135 rfl, Or.inl (zt2 134 rfl)⟩
theorem zk_La_22 : zLkV "NetDeskLaw" 22 13 M_Mo_end 1 := ⟨zc_Mo_end, ⟨_, _, _, rfl, Or.inl (zt6 77 rfl)⟩, zt6 76 rfl, Or.inl (zt6 75 rfl)⟩
theorem zk_La_23 : zLkV "NetDeskLaw" 23 0 M_N_out 1 := ⟨zc_N_out, ⟨_, _, _, rfl, Or.inl (zt2 160 rfl)⟩, zt2 159 rfl, Or.inl (zt2 158 rfl)⟩
theorem zk_La_26 : zLkV "NetDeskLaw" 26 13 M_Mo_out 1 := ⟨zc_Mo_out, ⟨_, _, _, rfl, Or.inl (zt6 81 rfl)⟩, zt6 80 rfl, Or.inl (zt6 79 rfl)⟩
theorem zk_La_27 : zLkV "NetDeskLaw" 27 0 M_N_resolve 0 := ⟨zc_N_resolve, ⟨_, _, _, rfl, Or.inl (zt2 176 rfl)⟩, zt2 175 rfl, Or.inl (zt2 174 rfl)⟩
theorem zk_La_31 : zLkV "NetDeskLaw" 31 13 M_Mo_resolve 0 := ⟨zc_Mo_resolve, ⟨_, _, _, rfl, Or.inl (zt6 85 rfl)⟩, zt6 84 rfl, Or.inl (zt6 83 rfl)⟩
theorem zk_La_32 : zLkV "NetDeskLaw" 32 0 M_N_base 0 := ⟨zc_N_base, ⟨_, _, _, rfl, Or.inl (zt4 10 rfl)⟩, zt4 9 rfl, Or.inl (zt4 8 rfl)⟩
theorem zk_La_35 : zLkV "NetDeskLaw" 35 13 M_Mo_base 0 := ⟨zc_Mo_base, ⟨_, _, _, rfl, Or.inl (zt6 101 rfl)⟩, zt6 100 rfl, Or.inl (zt6 99 rfl)⟩
theorem zk_La_36 : zLkV "NetDeskLaw" 36 0 M_N_server 0 := ⟨zc_N_server, ⟨_, _, _, rfl, Or.inl (zt4 15 rfl)⟩, zt4 14 rfl, Or.inl (zt4 13 rfl)⟩
theorem zk_La_39 : zLkV "NetDeskLaw" 39 13 M_Mo_server 0 := ⟨zc_Mo_server, ⟨_, _, _, rfl, Or.inl (zt5 56 rfl)⟩, zt5 55 rfl, Or.inl (zt5 54 rfl)⟩
theorem zk_La_40 : zLkV "NetDeskLaw" 40 0 M_N_fetch 0 := ⟨zc_N_fetch, ⟨_, _, _, rfl, Or.inl (zt4 166 rfl)⟩, zt4 165 rfl, Or.inl (zt4 164 rfl)⟩
theorem zk_La_43 : zLkV "NetDeskLaw" 43 13 M_Mo_fetch 0 := ⟨zc_Mo_fetch, ⟨_, _, _, rfl, Or.inl (zt6 105 rfl)⟩, zt6 104 rfl, Or.inl (zt6 103 rfl)⟩
theorem zk_La_44 : zLkV "NetDeskLaw" 44 0 M_N_body 1 := ⟨zc_N_body, ⟨_, _, _, rfl, Or.inl (zt5 21 rfl)⟩, zt5 20 rfl, Or.inl (zt5 19 rfl)⟩
theorem zk_La_47 : zLkV "NetDeskLaw" 47 13 M_Mo_body 1 := ⟨zc_Mo_body, ⟨_, _, _, rfl, Or.inl (zt6 133 rfl)⟩, zt6 132 rfl, Or.inl (zt6 131 rfl)⟩
theorem zk_La_48 : zLkV "NetDeskLaw" 48 0 M_N_tick 1 := ⟨zc_N_tick, ⟨_, _, _, rfl, Or.inl (zt5 26 rfl)⟩, zt5 25 rfl, Or.inl (zt5 24 rfl)⟩
theorem zk_La_51 : zLkV "NetDeskLaw" 51 13 M_Mo_tick 1 := ⟨zc_Mo_tick, ⟨_, _, _, rfl, Or.inl (zt6 137 rfl)⟩, zt6 136 rfl, Or.inl (zt6 135 rfl)⟩
theorem zk_La_52 : zLkV "NetDeskLaw" 52 0 M_N_forget 0 := ⟨zc_N_forget, ⟨_, _, _, rfl, Or.inl (zt5 30 rfl)⟩, zt5 29 rfl, Or.inl (zt5 28 rfl)⟩
theorem zk_La_55 : zLkV "NetDeskLaw" 55 13 M_Mo_forget 0 := ⟨zc_Mo_forget, ⟨_, _, _, rfl, Or.inl (zt6 141 rfl)⟩, zt6 140 rfl, Or.inl (zt6 139 rfl)⟩
theorem zk_La_56 : zLkV "NetDeskLaw" 56 0 M_N_write 1 := ⟨zc_N_write, ⟨_, _, _, rfl, Or.inl (zt5 40 rfl)⟩, zt5 39 rfl, Or.inl (zt5 38 rfl)⟩
theorem zk_La_59 : zLkV "NetDeskLaw" 59 13 M_Mo_write 1 := ⟨zc_Mo_write, ⟨_, _, _, rfl, Or.inl (zt6 145 rfl)⟩, zt6 144 rfl, Or.inl (zt6 143 rfl)⟩
theorem zk_La_60 : zLkV "NetDeskLaw" 60 0 M_N_count 1 := ⟨zc_N_count, ⟨_, _, _, rfl, Or.inl (zt5 44 rfl)⟩, zt5 43 rfl, Or.inl (zt5 42 rfl)⟩
theorem zk_La_63 : zLkV "NetDeskLaw" 63 13 M_Mo_count 1 := ⟨zc_Mo_count, ⟨_, _, _, rfl, Or.inl (zt6 149 rfl)⟩, zt6 148 rfl, Or.inl (zt6 147 rfl)⟩
theorem sLa_law_0 {nm : String} {G : zG} {d : Nat} {Q : Option Value → Heap → Prop} {H : Heap} {st : List Value} {o0 : Option Value} {o1 : Option Value} {o2 : Option Value} {o3 : Option Value} (hc1 : H.size + 1 ≤ zCp G) (hs1 : zT H + 17 ≤ zSp G) (kk : ∀ H1 : Heap, zObj G H1 H.size 0 [.null, .null, .null, .null, .null, .null, .null, .null, .null, .int 0, .int 0, .null, .null, .null, .null, .int 0, .int 0] → zNw 17 H H1 → zW G d (M_La nm) 3 [o0, o1, o2, o3] ((.ref H.size) :: st) H1 Q) : zW G d (M_La nm) 0 [o0, o1, o2, o3] st H Q :=
  zw_new dLa_law_0 zn_La_law_7 hc1 hs1 kk
theorem sLa_law_3 {nm : String} {G : zG} {d : Nat} {Q : Option Value → Heap → Prop} {H : Heap} {st : List Value} {o0 : Option Value} {o1 : Option Value} {o2 : Option Value} {o3 : Option Value} {as0 : Nat} {P : Heap → Prop} (hd : 1 ≤ d) (hl : ((.ref as0) :: st).length ≤ 4) (hc : zC G (d - 1) M_N_init [(.ref as0)] H (zPv P)) (kk : ∀ H1 : Heap, P H1 → zOk G H1 → H.size ≤ H1.size → zT H ≤ zT H1 → zW G d (M_La nm) 7 [o0, o1, o2, o3] ((.ref as0) :: st) H1 Q) : zW G d (M_La nm) 3 [o0, o1, o2, o3] ((.ref as0) :: st) H Q :=
  zw_dup dLa_law_3 rfl <| zw_callI [] _ dLa_law_4 hd zk_La_9 rfl rfl hl hc (zPv_k kk)
theorem sLa_law_7 {nm : String} {G : zG} {d : Nat} {Q : Option Value → Heap → Prop} {H : Heap} {st : List Value} {o0 : Option Value} {o1 : Option Value} {o2 : Option Value} {o3 : Option Value} {vs0 : Value} (hrs0 : zRf vs0 := by first | exact zRf_ref | exact zRf_null | exact zRf_rf _ | assumption) (hc1 : H.size + 1 ≤ zCp G) (hs1 : zT H + 51 ≤ zSp G) (kk : ∀ H1 : Heap, zObj G H1 H.size 13 [.null, .int 0, .null, .int 0, .null, .int 0, .null, .null, .null, .null, .null, .null, .int 0, .int 0, .int 0, .int 0, .int 0, .null, .null, .null, .null, .null, .null, .null, .null, .int 0, .int 0, .int 0, .null, .null, .int 0, .null, .null, .null, .null, .int 0, .null, .int 0, .int 0, .int 0, .int 0, .int 0, .int 0, .null, .int 0, .int 0, .int 0, .null, .int 0, .int 0, .int 0] → zNw 51 H H1 → zW G d (M_La nm) 11 [o0, some vs0, o2, o3] ((.ref H.size) :: st) H1 Q) : zW G d (M_La nm) 7 [o0, o1, o2, o3] (vs0 :: st) H Q :=
  zw_astore_n (i := 1) dLa_law_7 rfl (Nat.le_of_ble_eq_true rfl) hrs0 <| zw_new dLa_law_8 zn_La_law_10 hc1 hs1 kk
theorem sLa_law_11 {nm : String} {G : zG} {d : Nat} {Q : Option Value → Heap → Prop} {H : Heap} {st : List Value} {o0 : Option Value} {o1 : Option Value} {o2 : Option Value} {o3 : Option Value} {as0 : Nat} {P : Heap → Prop} (hd : 1 ≤ d) (hl : ((.ref as0) :: st).length ≤ 4) (hc : zC G (d - 1) M_Mo_init [(.ref as0)] H (zPv P)) (kk : ∀ H1 : Heap, P H1 → zOk G H1 → H.size ≤ H1.size → zT H ≤ zT H1 → zW G d (M_La nm) 15 [o0, o1, o2, o3] ((.ref as0) :: st) H1 Q) : zW G d (M_La nm) 11 [o0, o1, o2, o3] ((.ref as0) :: st) H Q :=
  zw_dup dLa_law_11 rfl <| zw_callI [] _ dLa_law_12 hd zk_La_12 rfl rfl hl hc (zPv_k kk)
theorem sLa_law_15 {nm : String} {G : zG} {d : Nat} {Q : Option Value → Heap → Prop} {H : Heap} {st : List Value} {o0 : Option Value} {o1 : Option Value} {o2 : Option Value} {o3 : Option Value} {vs0 : Value} (hrs0 : zRf vs0 := by first | exact zRf_ref | exact zRf_null | exact zRf_rf _ | assumption) (kk : zW G d (M_La nm) 18 [o0, o1, some vs0, some (.int (0 : Int32))] st H Q) : zW G d (M_La nm) 15 [o0, o1, o2, o3] (vs0 :: st) H Q :=
  zw_astore_n (i := 2) dLa_law_15 rfl (Nat.le_of_ble_eq_true rfl) hrs0 <| zw_iconst (0 : Int32) dLa_law_16 zki_0 <| zw_istore_n (i := 3) dLa_law_17 rfl (Nat.le_of_ble_eq_true rfl) <| kk
theorem sLa_law_18 {nm : String} {G : zG} {d : Nat} {Q : Option Value → Heap → Prop} {H : Heap} {st : List Value} {o1 : Option Value} {o2 : Option Value} {x3 : Int32} {a0 : Nat} {n1 : Nat} {t1 : FieldType} {g1 : Nat → Value} (ha1 : zArr G H a0 t1 n1 g1) (kt : (((nI n1) - (6 : Int32)) < x3) → zW G d (M_La nm) 368 [some (.ref a0), o1, o2, some (.int x3)] st H Q) (kf : (¬ ((nI n1) - (6 : Int32)) < x3) → zW G d (M_La nm) 27 [some (.ref a0), o1, o2, some (.int x3)] st H Q) : zW G d (M_La nm) 18 [some (.ref a0), o1, o2, some (.int x3)] st H Q :=
  zw_iload_n (i := 3) dLa_law_18 rfl rfl <| zw_aload_n (i := 0) dLa_law_19 rfl rfl zRf_ref <| zw_alen dLa_law_20 ha1 <| zw_bipush (6 : Int32) dLa_law_21 zkb_6 <| zw_isub dLa_law_23 <| zw_icmp_gt 368 dLa_law_24 (by decide) kt kf
theorem sLa_law_27 {nm : String} {G : zG} {d : Nat} {Q : Option Value → Heap → Prop} {H : Heap} {st : List Value} {o1 : Option Value} {o2 : Option Value} {a0 : Nat} {x3 : Int32} {n1 : Nat} {g1 : Nat → Int32} (ha1 : zArr G H a0 .int n1 (fun j => .int (g1 j))) (hi1 : vp_in x3 n1) (k0 : (((g1 (x3).toNatClampNeg) &&& (15 : Int32)) = 0) → zW G d (M_La nm) 96 [some (.ref a0), o1, o2, some (.int x3)] st H Q) (k1 : (((g1 (x3).toNatClampNeg) &&& (15 : Int32)) = 1) → zW G d (M_La nm) 159 [some (.ref a0), o1, o2, some (.int x3)] st H Q) (k2 : (((g1 (x3).toNatClampNeg) &&& (15 : Int32)) = 2) → zW G d (M_La nm) 182 [some (.ref a0), o1, o2, some (.int x3)] st H Q) (k3 : (((g1 (x3).toNatClampNeg) &&& (15 : Int32)) = 3) → zW G d (M_La nm) 205 [some (.ref a0), o1, o2, some (.int x3)] st H Q) (k4 : (((g1 (x3).toNatClampNeg) &&& (15 : Int32)) = 4) → zW G d (M_La nm) 218 [some (.ref a0), o1, o2, some (.int x3)] st H Q) (k5 : (((g1 (x3).toNatClampNeg) &&& (15 : Int32)) = 5) → zW G d (M_La nm) 231 [some (.ref a0), o1, o2, some (.int x3)] st H Q) (k6 : (((g1 (x3).toNatClampNeg) &&& (15 : Int32)) = 6) → zW G d (M_La nm) 244 [some (.ref a0), o1, o2, some (.int x3)] st H Q) (k7 : (((g1 (x3).toNatClampNeg) &&& (15 : Int32)) = 7) → zW G d (M_La nm) 257 [some (.ref a0), o1, o2, some (.int x3)] st H Q) (k8 : (((g1 (x3).toNatClampNeg) &&& (15 : Int32)) = 8) → zW G d (M_La nm) 280 [some (.ref a0), o1, o2, some (.int x3)] st H Q) (k9 : (((g1 (x3).toNatClampNeg) &&& (15 : Int32)) = 9) → zW G d (M_La nm) 303 [some (.ref a0), o1, o2, some (.int x3)] st H Q) (k10 : (((g1 (x3).toNatClampNeg) &&& (15 : Int32)) = 10) → zW G d (M_La nm) 316 [some (.ref a0), o1, o2, some (.int x3)] st H Q) (k11 : (((g1 (x3).toNatClampNeg) &&& (15 : Int32)) = 11) → zW G d (M_La nm) 339 [some (.ref a0), o1, o2, some (.int x3)] st H Q) (kd : (¬ ((g1 (x3).toNatClampNeg) &&& (15 : Int32)) = 0 ∧ ¬ ((g1 (x3).toNatClampNeg) &&& (15 : Int32)) = 1 ∧ ¬ ((g1 (x3).toNatClampNeg) &&& (15 : Int32)) = 2 ∧ ¬ ((g1 (x3).toNatClampNeg) &&& (15 : Int32)) = 3 ∧ ¬ ((g1 (x3).toNatClampNeg) &&& (15 : Int32)) = 4 ∧ ¬ ((g1 (x3).toNatClampNeg) &&& (15 : Int32)) = 5 ∧ ¬ ((g1 (x3).toNatClampNeg) &&& (15 : Int32)) = 6 ∧ ¬ ((g1 (x3).toNatClampNeg) &&& (15 : Int32)) = 7 ∧ ¬ ((g1 (x3).toNatClampNeg) &&& (15 : Int32)) = 8 ∧ ¬ ((g1 (x3).toNatClampNeg) &&& (15 : Int32)) = 9 ∧ ¬ ((g1 (x3).toNatClampNeg) &&& (15 : Int32)) = 10 ∧ ¬ ((g1 (x3).toNatClampNeg) &&& (15 : Int32)) = 11) → zW G d (M_La nm) 362 [some (.ref a0), o1, o2, some (.int x3)] st H Q) : zW G d (M_La nm) 27 [some (.ref a0), o1, o2, some (.int x3)] st H Q := by
  refine zw_aload_n (i := 0) dLa_law_27 rfl rfl zRf_ref <| zw_iload_n (i := 3) dLa_law_28 rfl rfl <| zw_iald dLa_law_29 ha1 hi1 <| zw_bipush (15 : Int32) dLa_law_30 zkb_15 <| zw_iand dLa_law_32 <| ?_
  by_cases e0 : ((g1 (x3).toNatClampNeg) &&& (15 : Int32)) = 0
  · exact zw_tableIn (off := 63) 96 dLa_law_33 (by rw [e0]; decide) (by rw [e0]; decide) (by rw [e0]; rfl) (by decide) (k0 e0)
  by_cases e1 : ((g1 (x3).toNatClampNeg) &&& (15 : Int32)) = 1
  · exact zw_tableIn (off := 126) 159 dLa_law_33 (by rw [e1]; decide) (by rw [e1]; decide) (by rw [e1]; rfl) (by decide) (k1 e1)
  by_cases e2 : ((g1 (x3).toNatClampNeg) &&& (15 : Int32)) = 2
  · exact zw_tableIn (off := 149) 182 dLa_law_33 (by rw [e2]; decide) (by rw [e2]; decide) (by rw [e2]; rfl) (by decide) (k2 e2)
  by_cases e3 : ((g1 (x3).toNatClampNeg) &&& (15 : Int32)) = 3
  · exact zw_tableIn (off := 172) 205 dLa_law_33 (by rw [e3]; decide) (by rw [e3]; decide) (by rw [e3]; rfl) (by decide) (k3 e3)
  by_cases e4 : ((g1 (x3).toNatClampNeg) &&& (15 : Int32)) = 4
  · exact zw_tableIn (off := 185) 218 dLa_law_33 (by rw [e4]; decide) (by rw [e4]; decide) (by rw [e4]; rfl) (by decide) (k4 e4)
  by_cases e5 : ((g1 (x3).toNatClampNeg) &&& (15 : Int32)) = 5
  · exact zw_tableIn (off := 198) 231 dLa_law_33 (by rw [e5]; decide) (by rw [e5]; decide) (by rw [e5]; rfl) (by decide) (k5 e5)
  by_cases e6 : ((g1 (x3).toNatClampNeg) &&& (15 : Int32)) = 6
  · exact zw_tableIn (off := 211) 244 dLa_law_33 (by rw [e6]; decide) (by rw [e6]; decide) (by rw [e6]; rfl) (by decide) (k6 e6)
  by_cases e7 : ((g1 (x3).toNatClampNeg) &&& (15 : Int32)) = 7
  · exact zw_tableIn (off := 224) 257 dLa_law_33 (by rw [e7]; decide) (by rw [e7]; decide) (by rw [e7]; rfl) (by decide) (k7 e7)
  by_cases e8 : ((g1 (x3).toNatClampNeg) &&& (15 : Int32)) = 8
  · exact zw_tableIn (off := 247) 280 dLa_law_33 (by rw [e8]; decide) (by rw [e8]; decide) (by rw [e8]; rfl) (by decide) (k8 e8)
  by_cases e9 : ((g1 (x3).toNatClampNeg) &&& (15 : Int32)) = 9
  · exact zw_tableIn (off := 270) 303 dLa_law_33 (by rw [e9]; decide) (by rw [e9]; decide) (by rw [e9]; rfl) (by decide) (k9 e9)
  by_cases e10 : ((g1 (x3).toNatClampNeg) &&& (15 : Int32)) = 10
  · exact zw_tableIn (off := 283) 316 dLa_law_33 (by rw [e10]; decide) (by rw [e10]; decide) (by rw [e10]; rfl) (by decide) (k10 e10)
  by_cases e11 : ((g1 (x3).toNatClampNeg) &&& (15 : Int32)) = 11
  · exact zw_tableIn (off := 306) 339 dLa_law_33 (by rw [e11]; decide) (by rw [e11]; decide) (by rw [e11]; rfl) (by decide) (k11 e11)
  have f0 := zNe e0 (0) (by decide)
  have f1 := zNe e1 (1) (by decide)
  have f2 := zNe e2 (2) (by decide)
  have f3 := zNe e3 (3) (by decide)
  have f4 := zNe e4 (4) (by decide)
  have f5 := zNe e5 (5) (by decide)
  have f6 := zNe e6 (6) (by decide)
  have f7 := zNe e7 (7) (by decide)
  have f8 := zNe e8 (8) (by decide)
  have f9 := zNe e9 (9) (by decide)
  have f10 := zNe e10 (10) (by decide)
  have f11 := zNe e11 (11) (by decide)
  exact zw_tableOut 362 dLa_law_33 (by omega) (by decide) (kd ⟨e0, e1, e2, e3, e4, e5, e6, e7, e8, e9, e10, e11⟩)
theorem sLa_law_96 {nm : String} {G : zG} {d : Nat} {Q : Option Value → Heap → Prop} {H : Heap} {st : List Value} {o2 : Option Value} {a1 : Nat} {a0 : Nat} {x3 : Int32} {n1 : Nat} {g1 : Nat → Int32} {n2 : Nat} {g2 : Nat → Int32} {n3 : Nat} {g3 : Nat → Int32} {n4 : Nat} {g4 : Nat → Int32} {n5 : Nat} {g5 : Nat → Int32} {P : Int32 → Heap → Prop} (ha1 : zArr G H a0 .int n1 (fun j => .int (g1 j))) (hi1 : vp_in (x3 + (1 : Int32)) n1) (ha2 : zArr G H a0 .int n2 (fun j => .int (g2 j))) (hi2 : vp_in (x3 + (2 : Int32)) n2) (ha3 : zArr G H a0 .int n3 (fun j => .int (g3 j))) (hi3 : vp_in (x3 + (3 : Int32)) n3) (ha4 : zArr G H a0 .int n4 (fun j => .int (g4 j))) (hi4 : vp_in (x3 + (4 : Int32)) n4) (ha5 : zArr G H a0 .int n5 (fun j => .int (g5 j))) (hi5 : vp_in (x3 + (5 : Int32)) n5) (hd : 1 ≤ d) (hl : st.length ≤ 4) (ho : zIs G H a1 0) (hc : zC G (d - 1) M_N_feed [(.ref a1), (.int (g1 ((x3 + (1 : Int32))).toNatClampNeg)), (.int (g2 ((x3 + (2 : Int32))).toNatClampNeg)), (.int (g3 ((x3 + (3 : Int32))).toNatClampNeg)), (.int (g4 ((x3 + (4 : Int32))).toNatClampNeg)), (.int (g5 ((x3 + (5 : Int32))).toNatClampNeg))] H (zPi P)) (kk : ∀ (r : Int32) (H1 : Heap), P r H1 → zOk G H1 → H.size ≤ H1.size → zT H ≤ zT H1 → zW G d (M_La nm) 125 [some (.ref a0), some (.ref a1), o2, some (.int x3)] ((.int r) :: st) H1 Q) : zW G d (M_La nm) 96 [some (.ref a0), some (.ref a1), o2, some (.int x3)] st H Q :=
  zw_aload_n (i := 1) dLa_law_96 rfl rfl zRf_ref <| zw_aload_n (i := 0) dLa_law_97 rfl rfl zRf_ref <| zw_iload_n (i := 3) dLa_law_98 rfl rfl <| zw_iconst (1 : Int32) dLa_law_99 zki_1 <| zw_iadd dLa_law_100 <| zw_iald dLa_law_101 ha1 hi1 <| zw_aload_n (i := 0) dLa_law_102 rfl rfl zRf_ref <| zw_iload_n (i := 3) dLa_law_103 rfl rfl <| zw_iconst (2 : Int32) dLa_law_104 zki_2 <| zw_iadd dLa_law_105 <| zw_iald dLa_law_106 ha2 hi2 <| zw_aload_n (i := 0) dLa_law_107 rfl rfl zRf_ref <| zw_iload_n (i := 3) dLa_law_108 rfl rfl <| zw_iconst (3 : Int32) dLa_law_109 zki_3 <| zw_iadd dLa_law_110 <| zw_iald dLa_law_111 ha3 hi3 <| zw_aload_n (i := 0) dLa_law_112 rfl rfl zRf_ref <| zw_iload_n (i := 3) dLa_law_113 rfl rfl <| zw_iconst (4 : Int32) dLa_law_114 zki_4 <| zw_iadd dLa_law_115 <| zw_iald dLa_law_116 ha4 hi4 <| zw_aload_n (i := 0) dLa_law_117 rfl rfl zRf_ref <| zw_iload_n (i := 3) dLa_law_118 rfl rfl <| zw_iconst (5 : Int32) dLa_law_119 zki_5 <| zw_iadd dLa_law_120 <| zw_iald dLa_law_121 ha5 hi5 <| zw_callV [(.int (g1 ((x3 + (1 : Int32))).toNatClampNeg)), (.int (g2 ((x3 + (2 : Int32))).toNatClampNeg)), (.int (g3 ((x3 + (3 : Int32))).toNatClampNeg)), (.int (g4 ((x3 + (4 : Int32))).toNatClampNeg)), (.int (g5 ((x3 + (5 : Int32))).toNatClampNeg))] _ dLa_law_122 hd zk_La_13 ho rfl rfl hl hc (zPi_k kk)
theorem sLa_law_125 {nm : String} {G : zG} {d : Nat} {Q : Option Value → Heap → Prop} {H : Heap} {st : List Value} {o1 : Option Value} {a2 : Nat} {a0 : Nat} {x3 : Int32} {n1 : Nat} {g1 : Nat → Int32} {n2 : Nat} {g2 : Nat → Int32} {n3 : Nat} {g3 : Nat → Int32} {n4 : Nat} {g4 : Nat → Int32} {n5 : Nat} {g5 : Nat → Int32} {P : Int32 → Heap → Prop} (ha1 : zArr G H a0 .int n1 (fun j => .int (g1 j))) (hi1 : vp_in (x3 + (1 : Int32)) n1) (ha2 : zArr G H a0 .int n2 (fun j => .int (g2 j))) (hi2 : vp_in (x3 + (2 : Int32)) n2) (ha3 : zArr G H a0 .int n3 (fun j => .int (g3 j))) (hi3 : vp_in (x3 + (3 : Int32)) n3) (ha4 : zArr G H a0 .int n4 (fun j => .int (g4 j))) (hi4 : vp_in (x3 + (4 : Int32)) n4) (ha5 : zArr G H a0 .int n5 (fun j => .int (g5 j))) (hi5 : vp_in (x3 + (5 : Int32)) n5) (hd : 1 ≤ d) (hl : st.length ≤ 4) (ho : zIs G H a2 13) (hc : zC G (d - 1) M_Mo_feed [(.ref a2), (.int (g1 ((x3 + (1 : Int32))).toNatClampNeg)), (.int (g2 ((x3 + (2 : Int32))).toNatClampNeg)), (.int (g3 ((x3 + (3 : Int32))).toNatClampNeg)), (.int (g4 ((x3 + (4 : Int32))).toNatClampNeg)), (.int (g5 ((x3 + (5 : Int32))).toNatClampNeg))] H (zPi P)) (kk : ∀ (r : Int32) (H1 : Heap), P r H1 → zOk G H1 → H.size ≤ H1.size → zT H ≤ zT H1 → zW G d (M_La nm) 154 [some (.ref a0), o1, some (.ref a2), some (.int x3)] ((.int r) :: st) H1 Q) : zW G d (M_La nm) 125 [some (.ref a0), o1, some (.ref a2), some (.int x3)] st H Q :=
  zw_aload_n (i := 2) dLa_law_125 rfl rfl zRf_ref <| zw_aload_n (i := 0) dLa_law_126 rfl rfl zRf_ref <| zw_iload_n (i := 3) dLa_law_127 rfl rfl <| zw_iconst (1 : Int32) dLa_law_128 zki_1 <| zw_iadd dLa_law_129 <| zw_iald dLa_law_130 ha1 hi1 <| zw_aload_n (i := 0) dLa_law_131 rfl rfl zRf_ref <| zw_iload_n (i := 3) dLa_law_132 rfl rfl <| zw_iconst (2 : Int32) dLa_law_133 zki_2 <| zw_iadd dLa_law_134 <| zw_iald dLa_law_135 ha2 hi2 <| zw_aload_n (i := 0) dLa_law_136 rfl rfl zRf_ref <| zw_iload_n (i := 3) dLa_law_137 rfl rfl <| zw_iconst (3 : Int32) dLa_law_138 zki_3 <| zw_iadd dLa_law_139 <| zw_iald dLa_law_140 ha3 hi3 <| zw_aload_n (i := 0) dLa_law_141 rfl rfl zRf_ref <| zw_iload_n (i := 3) dLa_law_142 rfl rfl <| zw_iconst (4 : Int32) dLa_law_143 zki_4 <| zw_iadd dLa_law_144 <| zw_iald dLa_law_145 ha4 hi4 <| zw_aload_n (i := 0) dLa_law_146 rfl rfl zRf_ref <| zw_iload_n (i := 3) dLa_law_147 rfl rfl <| zw_iconst (5 : Int32) dLa_law_148 zki_5 <| zw_iadd dLa_law_149 <| zw_iald dLa_law_150 ha5 hi5 <| zw_callV [(.int (g1 ((x3 + (1 : Int32))).toNatClampNeg)), (.int (g2 ((x3 + (2 : Int32))).toNatClampNeg)), (.int (g3 ((x3 + (3 : Int32))).toNatClampNeg)), (.int (g4 ((x3 + (4 : Int32))).toNatClampNeg)), (.int (g5 ((x3 + (5 : Int32))).toNatClampNeg))] _ dLa_law_151 hd zk_La_17 ho rfl rfl hl hc (zPi_k kk)
theorem sLa_law_154 {nm : String} {G : zG} {d : Nat} {Q : Option Value → Heap → Prop} {H : Heap} {st : List Value} {o0 : Option Value} {o1 : Option Value} {o2 : Option Value} {o3 : Option Value} {xs0 : Int32} {xs1 : Int32} (kt : (xs1 = xs0) → zW G d (M_La nm) 362 [o0, o1, o2, o3] st H Q) (kf : (¬ xs1 = xs0) → zW G d (M_La nm) 157 [o0, o1, o2, o3] st H Q) : zW G d (M_La nm) 154 [o0, o1, o2, o3] ((.int xs0) :: (.int xs1) :: st) H Q :=
  zw_icmp_eq 362 dLa_law_154 (by decide) kt kf
theorem sLa_law_157 {nm : String} {G : zG} {d : Nat} {Q : Option Value → Heap → Prop} {H : Heap} {o0 : Option Value} {o1 : Option Value} {o2 : Option Value} {o3 : Option Value} (hn : narrow .boolean (.int (0 : Int32)) = .int (0 : Int32)) (hq : Q (some (.int (0 : Int32))) H) : zW G d (M_La nm) 157 [o0, o1, o2, o3] [] H Q :=
  zw_iconst (0 : Int32) dLa_law_157 zki_0 <| zw_iret dLa_law_158 .boolean rfl hn hq
theorem sLa_law_159 {nm : String} {G : zG} {d : Nat} {Q : Option Value → Heap → Prop} {H : Heap} {st : List Value} {o2 : Option Value} {a1 : Nat} {a0 : Nat} {x3 : Int32} {n1 : Nat} {g1 : Nat → Int32} {P : Int32 → Heap → Prop} (ha1 : zArr G H a0 .int n1 (fun j => .int (g1 j))) (hi1 : vp_in (x3 + (1 : Int32)) n1) (hd : 1 ≤ d) (hl : st.length ≤ 4) (ho : zIs G H a1 0) (hc : zC G (d - 1) M_N_end [(.ref a1), (.int (g1 ((x3 + (1 : Int32))).toNatClampNeg))] H (zPi P)) (kk : ∀ (r : Int32) (H1 : Heap), P r H1 → zOk G H1 → H.size ≤ H1.size → zT H ≤ zT H1 → zW G d (M_La nm) 168 [some (.ref a0), some (.ref a1), o2, some (.int x3)] ((.int r) :: st) H1 Q) : zW G d (M_La nm) 159 [some (.ref a0), some (.ref a1), o2, some (.int x3)] st H Q :=
  zw_aload_n (i := 1) dLa_law_159 rfl rfl zRf_ref <| zw_aload_n (i := 0) dLa_law_160 rfl rfl zRf_ref <| zw_iload_n (i := 3) dLa_law_161 rfl rfl <| zw_iconst (1 : Int32) dLa_law_162 zki_1 <| zw_iadd dLa_law_163 <| zw_iald dLa_law_164 ha1 hi1 <| zw_callV [(.int (g1 ((x3 + (1 : Int32))).toNatClampNeg))] _ dLa_law_165 hd zk_La_18 ho rfl rfl hl hc (zPi_k kk)
theorem sLa_law_168 {nm : String} {G : zG} {d : Nat} {Q : Option Value → Heap → Prop} {H : Heap} {st : List Value} {o1 : Option Value} {a2 : Nat} {a0 : Nat} {x3 : Int32} {n1 : Nat} {g1 : Nat → Int32} {P : Int32 → Heap → Prop} (ha1 : zArr G H a0 .int n1 (fun j => .int (g1 j))) (hi1 : vp_in (x3 + (1 : Int32)) n1) (hd : 1 ≤ d) (hl : st.length ≤ 4) (ho : zIs G H a2 13) (hc : zC G (d - 1) M_Mo_end [(.ref a2), (.int (g1 ((x3 + (1 : Int32))).toNatClampNeg))] H (zPi P)) (kk : ∀ (r : Int32) (H1 : Heap), P r H1 → zOk G H1 → H.size ≤ H1.size → zT H ≤ zT H1 → zW G d (M_La nm) 177 [some (.ref a0), o1, some (.ref a2), some (.int x3)] ((.int r) :: st) H1 Q) : zW G d (M_La nm) 168 [some (.ref a0), o1, some (.ref a2), some (.int x3)] st H Q :=
  zw_aload_n (i := 2) dLa_law_168 rfl rfl zRf_ref <| zw_aload_n (i := 0) dLa_law_169 rfl rfl zRf_ref <| zw_iload_n (i := 3) dLa_law_170 rfl rfl <| zw_iconst (1 : Int32) dLa_law_171 zki_1 <| zw_iadd dLa_law_172 <| zw_iald dLa_law_173 ha1 hi1 <| zw_callV [(.int (g1 ((x3 + (1 : Int32))).toNatClampNeg))] _ dLa_law_174 hd zk_La_22 ho rfl rfl hl hc (zPi_k kk)
theorem sLa_law_177 {nm : String} {G : zG} {d : Nat} {Q : Option Value → Heap → Prop} {H : Heap} {st : List Value} {o0 : Option Value} {o1 : Option Value} {o2 : Option Value} {o3 : Option Value} {xs0 : Int32} {xs1 : Int32} (kt : (xs1 = xs0) → zW G d (M_La nm) 362 [o0, o1, o2, o3] st H Q) (kf : (¬ xs1 = xs0) → zW G d (M_La nm) 180 [o0, o1, o2, o3] st H Q) : zW G d (M_La nm) 177 [o0, o1, o2, o3] ((.int xs0) :: (.int xs1) :: st) H Q :=
  zw_icmp_eq 362 dLa_law_177 (by decide) kt kf
theorem sLa_law_180 {nm : String} {G : zG} {d : Nat} {Q : Option Value → Heap → Prop} {H : Heap} {o0 : Option Value} {o1 : Option Value} {o2 : Option Value} {o3 : Option Value} (hn : narrow .boolean (.int (0 : Int32)) = .int (0 : Int32)) (hq : Q (some (.int (0 : Int32))) H) : zW G d (M_La nm) 180 [o0, o1, o2, o3] [] H Q :=
  zw_iconst (0 : Int32) dLa_law_180 zki_0 <| zw_iret dLa_law_181 .boolean rfl hn hq
theorem sLa_law_182 {nm : String} {G : zG} {d : Nat} {Q : Option Value → Heap → Prop} {H : Heap} {st : List Value} {o2 : Option Value} {a1 : Nat} {a0 : Nat} {x3 : Int32} {n1 : Nat} {g1 : Nat → Int32} {P : Int32 → Heap → Prop} (ha1 : zArr G H a0 .int n1 (fun j => .int (g1 j))) (hi1 : vp_in (x3 + (1 : Int32)) n1) (hd : 1 ≤ d) (hl : st.length ≤ 4) (ho : zIs G H a1 0) (hc : zC G (d - 1) M_N_out [(.ref a1), (.int (g1 ((x3 + (1 : Int32))).toNatClampNeg))] H (zPi P)) (kk : ∀ (r : Int32) (H1 : Heap), P r H1 → zOk G H1 → H.size ≤ H1.size → zT H ≤ zT H1 → zW G d (M_La nm) 191 [some (.ref a0), some (.ref a1), o2, some (.int x3)] ((.int r) :: st) H1 Q) : zW G d (M_La nm) 182 [some (.ref a0), some (.ref a1), o2, some (.int x3)] st H Q :=
  zw_aload_n (i := 1) dLa_law_182 rfl rfl zRf_ref <| zw_aload_n (i := 0) dLa_law_183 rfl rfl zRf_ref <| zw_iload_n (i := 3) dLa_law_184 rfl rfl <| zw_iconst (1 : Int32) dLa_law_185 zki_1 <| zw_iadd dLa_law_186 <| zw_iald dLa_law_187 ha1 hi1 <| zw_callV [(.int (g1 ((x3 + (1 : Int32))).toNatClampNeg))] _ dLa_law_188 hd zk_La_23 ho rfl rfl hl hc (zPi_k kk)
theorem sLa_law_191 {nm : String} {G : zG} {d : Nat} {Q : Option Value → Heap → Prop} {H : Heap} {st : List Value} {o1 : Option Value} {a2 : Nat} {a0 : Nat} {x3 : Int32} {n1 : Nat} {g1 : Nat → Int32} {P : Int32 → Heap → Prop} (ha1 : zArr G H a0 .int n1 (fun j => .int (g1 j))) (hi1 : vp_in (x3 + (1 : Int32)) n1) (hd : 1 ≤ d) (hl : st.length ≤ 4) (ho : zIs G H a2 13) (hc : zC G (d - 1) M_Mo_out [(.ref a2), (.int (g1 ((x3 + (1 : Int32))).toNatClampNeg))] H (zPi P)) (kk : ∀ (r : Int32) (H1 : Heap), P r H1 → zOk G H1 → H.size ≤ H1.size → zT H ≤ zT H1 → zW G d (M_La nm) 200 [some (.ref a0), o1, some (.ref a2), some (.int x3)] ((.int r) :: st) H1 Q) : zW G d (M_La nm) 191 [some (.ref a0), o1, some (.ref a2), some (.int x3)] st H Q :=
  zw_aload_n (i := 2) dLa_law_191 rfl rfl zRf_ref <| zw_aload_n (i := 0) dLa_law_192 rfl rfl zRf_ref <| zw_iload_n (i := 3) dLa_law_193 rfl rfl <| zw_iconst (1 : Int32) dLa_law_194 zki_1 <| zw_iadd dLa_law_195 <| zw_iald dLa_law_196 ha1 hi1 <| zw_callV [(.int (g1 ((x3 + (1 : Int32))).toNatClampNeg))] _ dLa_law_197 hd zk_La_26 ho rfl rfl hl hc (zPi_k kk)
theorem sLa_law_200 {nm : String} {G : zG} {d : Nat} {Q : Option Value → Heap → Prop} {H : Heap} {st : List Value} {o0 : Option Value} {o1 : Option Value} {o2 : Option Value} {o3 : Option Value} {xs0 : Int32} {xs1 : Int32} (kt : (xs1 = xs0) → zW G d (M_La nm) 362 [o0, o1, o2, o3] st H Q) (kf : (¬ xs1 = xs0) → zW G d (M_La nm) 203 [o0, o1, o2, o3] st H Q) : zW G d (M_La nm) 200 [o0, o1, o2, o3] ((.int xs0) :: (.int xs1) :: st) H Q :=
  zw_icmp_eq 362 dLa_law_200 (by decide) kt kf
theorem sLa_law_203 {nm : String} {G : zG} {d : Nat} {Q : Option Value → Heap → Prop} {H : Heap} {o0 : Option Value} {o1 : Option Value} {o2 : Option Value} {o3 : Option Value} (hn : narrow .boolean (.int (0 : Int32)) = .int (0 : Int32)) (hq : Q (some (.int (0 : Int32))) H) : zW G d (M_La nm) 203 [o0, o1, o2, o3] [] H Q :=
  zw_iconst (0 : Int32) dLa_law_203 zki_0 <| zw_iret dLa_law_204 .boolean rfl hn hq
theorem sLa_law_205 {nm : String} {G : zG} {d : Nat} {Q : Option Value → Heap → Prop} {H : Heap} {st : List Value} {o0 : Option Value} {o2 : Option Value} {o3 : Option Value} {a1 : Nat} {P : Int32 → Heap → Prop} (hd : 1 ≤ d) (hl : st.length ≤ 4) (ho : zIs G H a1 0) (hc : zC G (d - 1) M_N_resolve [(.ref a1)] H (zPi P)) (kk : ∀ (r : Int32) (H1 : Heap), P r H1 → zOk G H1 → H.size ≤ H1.size → zT H ≤ zT H1 → zW G d (M_La nm) 209 [o0, some (.ref a1), o2, o3] ((.int r) :: st) H1 Q) : zW G d (M_La nm) 205 [o0, some (.ref a1), o2, o3] st H Q :=
  zw_aload_n (i := 1) dLa_law_205 rfl rfl zRf_ref <| zw_callV [] _ dLa_law_206 hd zk_La_27 ho rfl rfl hl hc (zPi_k kk)
theorem sLa_law_209 {nm : String} {G : zG} {d : Nat} {Q : Option Value → Heap → Prop} {H : Heap} {st : List Value} {o0 : Option Value} {o1 : Option Value} {o3 : Option Value} {a2 : Nat} {P : Int32 → Heap → Prop} (hd : 1 ≤ d) (hl : st.length ≤ 4) (ho : zIs G H a2 13) (hc : zC G (d - 1) M_Mo_resolve [(.ref a2)] H (zPi P)) (kk : ∀ (r : Int32) (H1 : Heap), P r H1 → zOk G H1 → H.size ≤ H1.size → zT H ≤ zT H1 → zW G d (M_La nm) 213 [o0, o1, some (.ref a2), o3] ((.int r) :: st) H1 Q) : zW G d (M_La nm) 209 [o0, o1, some (.ref a2), o3] st H Q :=
  zw_aload_n (i := 2) dLa_law_209 rfl rfl zRf_ref <| zw_callV [] _ dLa_law_210 hd zk_La_31 ho rfl rfl hl hc (zPi_k kk)
theorem sLa_law_213 {nm : String} {G : zG} {d : Nat} {Q : Option Value → Heap → Prop} {H : Heap} {st : List Value} {o0 : Option Value} {o1 : Option Value} {o2 : Option Value} {o3 : Option Value} {xs0 : Int32} {xs1 : Int32} (kt : (xs1 = xs0) → zW G d (M_La nm) 362 [o0, o1, o2, o3] st H Q) (kf : (¬ xs1 = xs0) → zW G d (M_La nm) 216 [o0, o1, o2, o3] st H Q) : zW G d (M_La nm) 213 [o0, o1, o2, o3] ((.int xs0) :: (.int xs1) :: st) H Q :=
  zw_icmp_eq 362 dLa_law_213 (by decide) kt kf
theorem sLa_law_216 {nm : String} {G : zG} {d : Nat} {Q : Option Value → Heap → Prop} {H : Heap} {o0 : Option Value} {o1 : Option Value} {o2 : Option Value} {o3 : Option Value} (hn : narrow .boolean (.int (0 : Int32)) = .int (0 : Int32)) (hq : Q (some (.int (0 : Int32))) H) : zW G d (M_La nm) 216 [o0, o1, o2, o3] [] H Q :=
  zw_iconst (0 : Int32) dLa_law_216 zki_0 <| zw_iret dLa_law_217 .boolean rfl hn hq
theorem sLa_law_218 {nm : String} {G : zG} {d : Nat} {Q : Option Value → Heap → Prop} {H : Heap} {st : List Value} {o0 : Option Value} {o2 : Option Value} {o3 : Option Value} {a1 : Nat} {P : Int32 → Heap → Prop} (hd : 1 ≤ d) (hl : st.length ≤ 4) (ho : zIs G H a1 0) (hc : zC G (d - 1) M_N_base [(.ref a1)] H (zPi P)) (kk : ∀ (r : Int32) (H1 : Heap), P r H1 → zOk G H1 → H.size ≤ H1.size → zT H ≤ zT H1 → zW G d (M_La nm) 222 [o0, some (.ref a1), o2, o3] ((.int r) :: st) H1 Q) : zW G d (M_La nm) 218 [o0, some (.ref a1), o2, o3] st H Q :=
  zw_aload_n (i := 1) dLa_law_218 rfl rfl zRf_ref <| zw_callV [] _ dLa_law_219 hd zk_La_32 ho rfl rfl hl hc (zPi_k kk)
theorem sLa_law_222 {nm : String} {G : zG} {d : Nat} {Q : Option Value → Heap → Prop} {H : Heap} {st : List Value} {o0 : Option Value} {o1 : Option Value} {o3 : Option Value} {a2 : Nat} {P : Int32 → Heap → Prop} (hd : 1 ≤ d) (hl : st.length ≤ 4) (ho : zIs G H a2 13) (hc : zC G (d - 1) M_Mo_base [(.ref a2)] H (zPi P)) (kk : ∀ (r : Int32) (H1 : Heap), P r H1 → zOk G H1 → H.size ≤ H1.size → zT H ≤ zT H1 → zW G d (M_La nm) 226 [o0, o1, some (.ref a2), o3] ((.int r) :: st) H1 Q) : zW G d (M_La nm) 222 [o0, o1, some (.ref a2), o3] st H Q :=
  zw_aload_n (i := 2) dLa_law_222 rfl rfl zRf_ref <| zw_callV [] _ dLa_law_223 hd zk_La_35 ho rfl rfl hl hc (zPi_k kk)
theorem sLa_law_226 {nm : String} {G : zG} {d : Nat} {Q : Option Value → Heap → Prop} {H : Heap} {st : List Value} {o0 : Option Value} {o1 : Option Value} {o2 : Option Value} {o3 : Option Value} {xs0 : Int32} {xs1 : Int32} (kt : (xs1 = xs0) → zW G d (M_La nm) 362 [o0, o1, o2, o3] st H Q) (kf : (¬ xs1 = xs0) → zW G d (M_La nm) 229 [o0, o1, o2, o3] st H Q) : zW G d (M_La nm) 226 [o0, o1, o2, o3] ((.int xs0) :: (.int xs1) :: st) H Q :=
  zw_icmp_eq 362 dLa_law_226 (by decide) kt kf
theorem sLa_law_229 {nm : String} {G : zG} {d : Nat} {Q : Option Value → Heap → Prop} {H : Heap} {o0 : Option Value} {o1 : Option Value} {o2 : Option Value} {o3 : Option Value} (hn : narrow .boolean (.int (0 : Int32)) = .int (0 : Int32)) (hq : Q (some (.int (0 : Int32))) H) : zW G d (M_La nm) 229 [o0, o1, o2, o3] [] H Q :=
  zw_iconst (0 : Int32) dLa_law_229 zki_0 <| zw_iret dLa_law_230 .boolean rfl hn hq
theorem sLa_law_231 {nm : String} {G : zG} {d : Nat} {Q : Option Value → Heap → Prop} {H : Heap} {st : List Value} {o0 : Option Value} {o2 : Option Value} {o3 : Option Value} {a1 : Nat} {P : Int32 → Heap → Prop} (hd : 1 ≤ d) (hl : st.length ≤ 4) (ho : zIs G H a1 0) (hc : zC G (d - 1) M_N_server [(.ref a1)] H (zPi P)) (kk : ∀ (r : Int32) (H1 : Heap), P r H1 → zOk G H1 → H.size ≤ H1.size → zT H ≤ zT H1 → zW G d (M_La nm) 235 [o0, some (.ref a1), o2, o3] ((.int r) :: st) H1 Q) : zW G d (M_La nm) 231 [o0, some (.ref a1), o2, o3] st H Q :=
  zw_aload_n (i := 1) dLa_law_231 rfl rfl zRf_ref <| zw_callV [] _ dLa_law_232 hd zk_La_36 ho rfl rfl hl hc (zPi_k kk)
theorem sLa_law_235 {nm : String} {G : zG} {d : Nat} {Q : Option Value → Heap → Prop} {H : Heap} {st : List Value} {o0 : Option Value} {o1 : Option Value} {o3 : Option Value} {a2 : Nat} {P : Int32 → Heap → Prop} (hd : 1 ≤ d) (hl : st.length ≤ 4) (ho : zIs G H a2 13) (hc : zC G (d - 1) M_Mo_server [(.ref a2)] H (zPi P)) (kk : ∀ (r : Int32) (H1 : Heap), P r H1 → zOk G H1 → H.size ≤ H1.size → zT H ≤ zT H1 → zW G d (M_La nm) 239 [o0, o1, some (.ref a2), o3] ((.int r) :: st) H1 Q) : zW G d (M_La nm) 235 [o0, o1, some (.ref a2), o3] st H Q :=
  zw_aload_n (i := 2) dLa_law_235 rfl rfl zRf_ref <| zw_callV [] _ dLa_law_236 hd zk_La_39 ho rfl rfl hl hc (zPi_k kk)
theorem sLa_law_239 {nm : String} {G : zG} {d : Nat} {Q : Option Value → Heap → Prop} {H : Heap} {st : List Value} {o0 : Option Value} {o1 : Option Value} {o2 : Option Value} {o3 : Option Value} {xs0 : Int32} {xs1 : Int32} (kt : (xs1 = xs0) → zW G d (M_La nm) 362 [o0, o1, o2, o3] st H Q) (kf : (¬ xs1 = xs0) → zW G d (M_La nm) 242 [o0, o1, o2, o3] st H Q) : zW G d (M_La nm) 239 [o0, o1, o2, o3] ((.int xs0) :: (.int xs1) :: st) H Q :=
  zw_icmp_eq 362 dLa_law_239 (by decide) kt kf
theorem sLa_law_242 {nm : String} {G : zG} {d : Nat} {Q : Option Value → Heap → Prop} {H : Heap} {o0 : Option Value} {o1 : Option Value} {o2 : Option Value} {o3 : Option Value} (hn : narrow .boolean (.int (0 : Int32)) = .int (0 : Int32)) (hq : Q (some (.int (0 : Int32))) H) : zW G d (M_La nm) 242 [o0, o1, o2, o3] [] H Q :=
  zw_iconst (0 : Int32) dLa_law_242 zki_0 <| zw_iret dLa_law_243 .boolean rfl hn hq
theorem sLa_law_244 {nm : String} {G : zG} {d : Nat} {Q : Option Value → Heap → Prop} {H : Heap} {st : List Value} {o0 : Option Value} {o2 : Option Value} {o3 : Option Value} {a1 : Nat} {P : Int32 → Heap → Prop} (hd : 1 ≤ d) (hl : st.length ≤ 4) (ho : zIs G H a1 0) (hc : zC G (d - 1) M_N_fetch [(.ref a1)] H (zPi P)) (kk : ∀ (r : Int32) (H1 : Heap), P r H1 → zOk G H1 → H.size ≤ H1.size → zT H ≤ zT H1 → zW G d (M_La nm) 248 [o0, some (.ref a1), o2, o3] ((.int r) :: st) H1 Q) : zW G d (M_La nm) 244 [o0, some (.ref a1), o2, o3] st H Q :=
  zw_aload_n (i := 1) dLa_law_244 rfl rfl zRf_ref <| zw_callV [] _ dLa_law_245 hd zk_La_40 ho rfl rfl hl hc (zPi_k kk)
theorem sLa_law_248 {nm : String} {G : zG} {d : Nat} {Q : Option Value → Heap → Prop} {H : Heap} {st : List Value} {o0 : Option Value} {o1 : Option Value} {o3 : Option Value} {a2 : Nat} {P : Int32 → Heap → Prop} (hd : 1 ≤ d) (hl : st.length ≤ 4) (ho : zIs G H a2 13) (hc : zC G (d - 1) M_Mo_fetch [(.ref a2)] H (zPi P)) (kk : ∀ (r : Int32) (H1 : Heap), P r H1 → zOk G H1 → H.size ≤ H1.size → zT H ≤ zT H1 → zW G d (M_La nm) 252 [o0, o1, some (.ref a2), o3] ((.int r) :: st) H1 Q) : zW G d (M_La nm) 248 [o0, o1, some (.ref a2), o3] st H Q :=
  zw_aload_n (i := 2) dLa_law_248 rfl rfl zRf_ref <| zw_callV [] _ dLa_law_249 hd zk_La_43 ho rfl rfl hl hc (zPi_k kk)
theorem sLa_law_252 {nm : String} {G : zG} {d : Nat} {Q : Option Value → Heap → Prop} {H : Heap} {st : List Value} {o0 : Option Value} {o1 : Option Value} {o2 : Option Value} {o3 : Option Value} {xs0 : Int32} {xs1 : Int32} (kt : (xs1 = xs0) → zW G d (M_La nm) 362 [o0, o1, o2, o3] st H Q) (kf : (¬ xs1 = xs0) → zW G d (M_La nm) 255 [o0, o1, o2, o3] st H Q) : zW G d (M_La nm) 252 [o0, o1, o2, o3] ((.int xs0) :: (.int xs1) :: st) H Q :=
  zw_icmp_eq 362 dLa_law_252 (by decide) kt kf
theorem sLa_law_255 {nm : String} {G : zG} {d : Nat} {Q : Option Value → Heap → Prop} {H : Heap} {o0 : Option Value} {o1 : Option Value} {o2 : Option Value} {o3 : Option Value} (hn : narrow .boolean (.int (0 : Int32)) = .int (0 : Int32)) (hq : Q (some (.int (0 : Int32))) H) : zW G d (M_La nm) 255 [o0, o1, o2, o3] [] H Q :=
  zw_iconst (0 : Int32) dLa_law_255 zki_0 <| zw_iret dLa_law_256 .boolean rfl hn hq
theorem sLa_law_257 {nm : String} {G : zG} {d : Nat} {Q : Option Value → Heap → Prop} {H : Heap} {st : List Value} {o2 : Option Value} {a1 : Nat} {a0 : Nat} {x3 : Int32} {n1 : Nat} {g1 : Nat → Int32} {P : Int32 → Heap → Prop} (ha1 : zArr G H a0 .int n1 (fun j => .int (g1 j))) (hi1 : vp_in (x3 + (1 : Int32)) n1) (hd : 1 ≤ d) (hl : st.length ≤ 4) (ho : zIs G H a1 0) (hc : zC G (d - 1) M_N_body [(.ref a1), (.int (g1 ((x3 + (1 : Int32))).toNatClampNeg))] H (zPi P)) (kk : ∀ (r : Int32) (H1 : Heap), P r H1 → zOk G H1 → H.size ≤ H1.size → zT H ≤ zT H1 → zW G d (M_La nm) 266 [some (.ref a0), some (.ref a1), o2, some (.int x3)] ((.int r) :: st) H1 Q) : zW G d (M_La nm) 257 [some (.ref a0), some (.ref a1), o2, some (.int x3)] st H Q :=
  zw_aload_n (i := 1) dLa_law_257 rfl rfl zRf_ref <| zw_aload_n (i := 0) dLa_law_258 rfl rfl zRf_ref <| zw_iload_n (i := 3) dLa_law_259 rfl rfl <| zw_iconst (1 : Int32) dLa_law_260 zki_1 <| zw_iadd dLa_law_261 <| zw_iald dLa_law_262 ha1 hi1 <| zw_callV [(.int (g1 ((x3 + (1 : Int32))).toNatClampNeg))] _ dLa_law_263 hd zk_La_44 ho rfl rfl hl hc (zPi_k kk)
theorem sLa_law_266 {nm : String} {G : zG} {d : Nat} {Q : Option Value → Heap → Prop} {H : Heap} {st : List Value} {o1 : Option Value} {a2 : Nat} {a0 : Nat} {x3 : Int32} {n1 : Nat} {g1 : Nat → Int32} {P : Int32 → Heap → Prop} (ha1 : zArr G H a0 .int n1 (fun j => .int (g1 j))) (hi1 : vp_in (x3 + (1 : Int32)) n1) (hd : 1 ≤ d) (hl : st.length ≤ 4) (ho : zIs G H a2 13) (hc : zC G (d - 1) M_Mo_body [(.ref a2), (.int (g1 ((x3 + (1 : Int32))).toNatClampNeg))] H (zPi P)) (kk : ∀ (r : Int32) (H1 : Heap), P r H1 → zOk G H1 → H.size ≤ H1.size → zT H ≤ zT H1 → zW G d (M_La nm) 275 [some (.ref a0), o1, some (.ref a2), some (.int x3)] ((.int r) :: st) H1 Q) : zW G d (M_La nm) 266 [some (.ref a0), o1, some (.ref a2), some (.int x3)] st H Q :=
  zw_aload_n (i := 2) dLa_law_266 rfl rfl zRf_ref <| zw_aload_n (i := 0) dLa_law_267 rfl rfl zRf_ref <| zw_iload_n (i := 3) dLa_law_268 rfl rfl <| zw_iconst (1 : Int32) dLa_law_269 zki_1 <| zw_iadd dLa_law_270 <| zw_iald dLa_law_271 ha1 hi1 <| zw_callV [(.int (g1 ((x3 + (1 : Int32))).toNatClampNeg))] _ dLa_law_272 hd zk_La_47 ho rfl rfl hl hc (zPi_k kk)
theorem sLa_law_275 {nm : String} {G : zG} {d : Nat} {Q : Option Value → Heap → Prop} {H : Heap} {st : List Value} {o0 : Option Value} {o1 : Option Value} {o2 : Option Value} {o3 : Option Value} {xs0 : Int32} {xs1 : Int32} (kt : (xs1 = xs0) → zW G d (M_La nm) 362 [o0, o1, o2, o3] st H Q) (kf : (¬ xs1 = xs0) → zW G d (M_La nm) 278 [o0, o1, o2, o3] st H Q) : zW G d (M_La nm) 275 [o0, o1, o2, o3] ((.int xs0) :: (.int xs1) :: st) H Q :=
  zw_icmp_eq 362 dLa_law_275 (by decide) kt kf
theorem sLa_law_278 {nm : String} {G : zG} {d : Nat} {Q : Option Value → Heap → Prop} {H : Heap} {o0 : Option Value} {o1 : Option Value} {o2 : Option Value} {o3 : Option Value} (hn : narrow .boolean (.int (0 : Int32)) = .int (0 : Int32)) (hq : Q (some (.int (0 : Int32))) H) : zW G d (M_La nm) 278 [o0, o1, o2, o3] [] H Q :=
  zw_iconst (0 : Int32) dLa_law_278 zki_0 <| zw_iret dLa_law_279 .boolean rfl hn hq
theorem sLa_law_280 {nm : String} {G : zG} {d : Nat} {Q : Option Value → Heap → Prop} {H : Heap} {st : List Value} {o2 : Option Value} {a1 : Nat} {a0 : Nat} {x3 : Int32} {n1 : Nat} {g1 : Nat → Int32} {P : Int32 → Heap → Prop} (ha1 : zArr G H a0 .int n1 (fun j => .int (g1 j))) (hi1 : vp_in (x3 + (1 : Int32)) n1) (hd : 1 ≤ d) (hl : st.length ≤ 4) (ho : zIs G H a1 0) (hc : zC G (d - 1) M_N_tick [(.ref a1), (.int (g1 ((x3 + (1 : Int32))).toNatClampNeg))] H (zPi P)) (kk : ∀ (r : Int32) (H1 : Heap), P r H1 → zOk G H1 → H.size ≤ H1.size → zT H ≤ zT H1 → zW G d (M_La nm) 289 [some (.ref a0), some (.ref a1), o2, some (.int x3)] ((.int r) :: st) H1 Q) : zW G d (M_La nm) 280 [some (.ref a0), some (.ref a1), o2, some (.int x3)] st H Q :=
  zw_aload_n (i := 1) dLa_law_280 rfl rfl zRf_ref <| zw_aload_n (i := 0) dLa_law_281 rfl rfl zRf_ref <| zw_iload_n (i := 3) dLa_law_282 rfl rfl <| zw_iconst (1 : Int32) dLa_law_283 zki_1 <| zw_iadd dLa_law_284 <| zw_iald dLa_law_285 ha1 hi1 <| zw_callV [(.int (g1 ((x3 + (1 : Int32))).toNatClampNeg))] _ dLa_law_286 hd zk_La_48 ho rfl rfl hl hc (zPi_k kk)
theorem sLa_law_289 {nm : String} {G : zG} {d : Nat} {Q : Option Value → Heap → Prop} {H : Heap} {st : List Value} {o1 : Option Value} {a2 : Nat} {a0 : Nat} {x3 : Int32} {n1 : Nat} {g1 : Nat → Int32} {P : Int32 → Heap → Prop} (ha1 : zArr G H a0 .int n1 (fun j => .int (g1 j))) (hi1 : vp_in (x3 + (1 : Int32)) n1) (hd : 1 ≤ d) (hl : st.length ≤ 4) (ho : zIs G H a2 13) (hc : zC G (d - 1) M_Mo_tick [(.ref a2), (.int (g1 ((x3 + (1 : Int32))).toNatClampNeg))] H (zPi P)) (kk : ∀ (r : Int32) (H1 : Heap), P r H1 → zOk G H1 → H.size ≤ H1.size → zT H ≤ zT H1 → zW G d (M_La nm) 298 [some (.ref a0), o1, some (.ref a2), some (.int x3)] ((.int r) :: st) H1 Q) : zW G d (M_La nm) 289 [some (.ref a0), o1, some (.ref a2), some (.int x3)] st H Q :=
  zw_aload_n (i := 2) dLa_law_289 rfl rfl zRf_ref <| zw_aload_n (i := 0) dLa_law_290 rfl rfl zRf_ref <| zw_iload_n (i := 3) dLa_law_291 rfl rfl <| zw_iconst (1 : Int32) dLa_law_292 zki_1 <| zw_iadd dLa_law_293 <| zw_iald dLa_law_294 ha1 hi1 <| zw_callV [(.int (g1 ((x3 + (1 : Int32))).toNatClampNeg))] _ dLa_law_295 hd zk_La_51 ho rfl rfl hl hc (zPi_k kk)
theorem sLa_law_298 {nm : String} {G : zG} {d : Nat} {Q : Option Value → Heap → Prop} {H : Heap} {st : List Value} {o0 : Option Value} {o1 : Option Value} {o2 : Option Value} {o3 : Option Value} {xs0 : Int32} {xs1 : Int32} (kt : (xs1 = xs0) → zW G d (M_La nm) 362 [o0, o1, o2, o3] st H Q) (kf : (¬ xs1 = xs0) → zW G d (M_La nm) 301 [o0, o1, o2, o3] st H Q) : zW G d (M_La nm) 298 [o0, o1, o2, o3] ((.int xs0) :: (.int xs1) :: st) H Q :=
  zw_icmp_eq 362 dLa_law_298 (by decide) kt kf
theorem sLa_law_301 {nm : String} {G : zG} {d : Nat} {Q : Option Value → Heap → Prop} {H : Heap} {o0 : Option Value} {o1 : Option Value} {o2 : Option Value} {o3 : Option Value} (hn : narrow .boolean (.int (0 : Int32)) = .int (0 : Int32)) (hq : Q (some (.int (0 : Int32))) H) : zW G d (M_La nm) 301 [o0, o1, o2, o3] [] H Q :=
  zw_iconst (0 : Int32) dLa_law_301 zki_0 <| zw_iret dLa_law_302 .boolean rfl hn hq
theorem sLa_law_303 {nm : String} {G : zG} {d : Nat} {Q : Option Value → Heap → Prop} {H : Heap} {st : List Value} {o0 : Option Value} {o2 : Option Value} {o3 : Option Value} {a1 : Nat} {P : Int32 → Heap → Prop} (hd : 1 ≤ d) (hl : st.length ≤ 4) (ho : zIs G H a1 0) (hc : zC G (d - 1) M_N_forget [(.ref a1)] H (zPi P)) (kk : ∀ (r : Int32) (H1 : Heap), P r H1 → zOk G H1 → H.size ≤ H1.size → zT H ≤ zT H1 → zW G d (M_La nm) 307 [o0, some (.ref a1), o2, o3] ((.int r) :: st) H1 Q) : zW G d (M_La nm) 303 [o0, some (.ref a1), o2, o3] st H Q :=
  zw_aload_n (i := 1) dLa_law_303 rfl rfl zRf_ref <| zw_callV [] _ dLa_law_304 hd zk_La_52 ho rfl rfl hl hc (zPi_k kk)
theorem sLa_law_307 {nm : String} {G : zG} {d : Nat} {Q : Option Value → Heap → Prop} {H : Heap} {st : List Value} {o0 : Option Value} {o1 : Option Value} {o3 : Option Value} {a2 : Nat} {P : Int32 → Heap → Prop} (hd : 1 ≤ d) (hl : st.length ≤ 4) (ho : zIs G H a2 13) (hc : zC G (d - 1) M_Mo_forget [(.ref a2)] H (zPi P)) (kk : ∀ (r : Int32) (H1 : Heap), P r H1 → zOk G H1 → H.size ≤ H1.size → zT H ≤ zT H1 → zW G d (M_La nm) 311 [o0, o1, some (.ref a2), o3] ((.int r) :: st) H1 Q) : zW G d (M_La nm) 307 [o0, o1, some (.ref a2), o3] st H Q :=
  zw_aload_n (i := 2) dLa_law_307 rfl rfl zRf_ref <| zw_callV [] _ dLa_law_308 hd zk_La_55 ho rfl rfl hl hc (zPi_k kk)
theorem sLa_law_311 {nm : String} {G : zG} {d : Nat} {Q : Option Value → Heap → Prop} {H : Heap} {st : List Value} {o0 : Option Value} {o1 : Option Value} {o2 : Option Value} {o3 : Option Value} {xs0 : Int32} {xs1 : Int32} (kt : (xs1 = xs0) → zW G d (M_La nm) 362 [o0, o1, o2, o3] st H Q) (kf : (¬ xs1 = xs0) → zW G d (M_La nm) 314 [o0, o1, o2, o3] st H Q) : zW G d (M_La nm) 311 [o0, o1, o2, o3] ((.int xs0) :: (.int xs1) :: st) H Q :=
  zw_icmp_eq 362 dLa_law_311 (by decide) kt kf
theorem sLa_law_314 {nm : String} {G : zG} {d : Nat} {Q : Option Value → Heap → Prop} {H : Heap} {o0 : Option Value} {o1 : Option Value} {o2 : Option Value} {o3 : Option Value} (hn : narrow .boolean (.int (0 : Int32)) = .int (0 : Int32)) (hq : Q (some (.int (0 : Int32))) H) : zW G d (M_La nm) 314 [o0, o1, o2, o3] [] H Q :=
  zw_iconst (0 : Int32) dLa_law_314 zki_0 <| zw_iret dLa_law_315 .boolean rfl hn hq
theorem sLa_law_316 {nm : String} {G : zG} {d : Nat} {Q : Option Value → Heap → Prop} {H : Heap} {st : List Value} {o2 : Option Value} {a1 : Nat} {a0 : Nat} {x3 : Int32} {n1 : Nat} {g1 : Nat → Int32} {P : Int32 → Heap → Prop} (ha1 : zArr G H a0 .int n1 (fun j => .int (g1 j))) (hi1 : vp_in (x3 + (1 : Int32)) n1) (hd : 1 ≤ d) (hl : st.length ≤ 4) (ho : zIs G H a1 0) (hc : zC G (d - 1) M_N_write [(.ref a1), (.int (g1 ((x3 + (1 : Int32))).toNatClampNeg))] H (zPi P)) (kk : ∀ (r : Int32) (H1 : Heap), P r H1 → zOk G H1 → H.size ≤ H1.size → zT H ≤ zT H1 → zW G d (M_La nm) 325 [some (.ref a0), some (.ref a1), o2, some (.int x3)] ((.int r) :: st) H1 Q) : zW G d (M_La nm) 316 [some (.ref a0), some (.ref a1), o2, some (.int x3)] st H Q :=
  zw_aload_n (i := 1) dLa_law_316 rfl rfl zRf_ref <| zw_aload_n (i := 0) dLa_law_317 rfl rfl zRf_ref <| zw_iload_n (i := 3) dLa_law_318 rfl rfl <| zw_iconst (1 : Int32) dLa_law_319 zki_1 <| zw_iadd dLa_law_320 <| zw_iald dLa_law_321 ha1 hi1 <| zw_callV [(.int (g1 ((x3 + (1 : Int32))).toNatClampNeg))] _ dLa_law_322 hd zk_La_56 ho rfl rfl hl hc (zPi_k kk)
theorem sLa_law_325 {nm : String} {G : zG} {d : Nat} {Q : Option Value → Heap → Prop} {H : Heap} {st : List Value} {o1 : Option Value} {a2 : Nat} {a0 : Nat} {x3 : Int32} {n1 : Nat} {g1 : Nat → Int32} {P : Int32 → Heap → Prop} (ha1 : zArr G H a0 .int n1 (fun j => .int (g1 j))) (hi1 : vp_in (x3 + (1 : Int32)) n1) (hd : 1 ≤ d) (hl : st.length ≤ 4) (ho : zIs G H a2 13) (hc : zC G (d - 1) M_Mo_write [(.ref a2), (.int (g1 ((x3 + (1 : Int32))).toNatClampNeg))] H (zPi P)) (kk : ∀ (r : Int32) (H1 : Heap), P r H1 → zOk G H1 → H.size ≤ H1.size → zT H ≤ zT H1 → zW G d (M_La nm) 334 [some (.ref a0), o1, some (.ref a2), some (.int x3)] ((.int r) :: st) H1 Q) : zW G d (M_La nm) 325 [some (.ref a0), o1, some (.ref a2), some (.int x3)] st H Q :=
  zw_aload_n (i := 2) dLa_law_325 rfl rfl zRf_ref <| zw_aload_n (i := 0) dLa_law_326 rfl rfl zRf_ref <| zw_iload_n (i := 3) dLa_law_327 rfl rfl <| zw_iconst (1 : Int32) dLa_law_328 zki_1 <| zw_iadd dLa_law_329 <| zw_iald dLa_law_330 ha1 hi1 <| zw_callV [(.int (g1 ((x3 + (1 : Int32))).toNatClampNeg))] _ dLa_law_331 hd zk_La_59 ho rfl rfl hl hc (zPi_k kk)
theorem sLa_law_334 {nm : String} {G : zG} {d : Nat} {Q : Option Value → Heap → Prop} {H : Heap} {st : List Value} {o0 : Option Value} {o1 : Option Value} {o2 : Option Value} {o3 : Option Value} {xs0 : Int32} {xs1 : Int32} (kt : (xs1 = xs0) → zW G d (M_La nm) 362 [o0, o1, o2, o3] st H Q) (kf : (¬ xs1 = xs0) → zW G d (M_La nm) 337 [o0, o1, o2, o3] st H Q) : zW G d (M_La nm) 334 [o0, o1, o2, o3] ((.int xs0) :: (.int xs1) :: st) H Q :=
  zw_icmp_eq 362 dLa_law_334 (by decide) kt kf
theorem sLa_law_337 {nm : String} {G : zG} {d : Nat} {Q : Option Value → Heap → Prop} {H : Heap} {o0 : Option Value} {o1 : Option Value} {o2 : Option Value} {o3 : Option Value} (hn : narrow .boolean (.int (0 : Int32)) = .int (0 : Int32)) (hq : Q (some (.int (0 : Int32))) H) : zW G d (M_La nm) 337 [o0, o1, o2, o3] [] H Q :=
  zw_iconst (0 : Int32) dLa_law_337 zki_0 <| zw_iret dLa_law_338 .boolean rfl hn hq
theorem sLa_law_339 {nm : String} {G : zG} {d : Nat} {Q : Option Value → Heap → Prop} {H : Heap} {st : List Value} {o2 : Option Value} {a1 : Nat} {a0 : Nat} {x3 : Int32} {n1 : Nat} {g1 : Nat → Int32} {P : Int32 → Heap → Prop} (ha1 : zArr G H a0 .int n1 (fun j => .int (g1 j))) (hi1 : vp_in (x3 + (1 : Int32)) n1) (hd : 1 ≤ d) (hl : st.length ≤ 4) (ho : zIs G H a1 0) (hc : zC G (d - 1) M_N_count [(.ref a1), (.int (g1 ((x3 + (1 : Int32))).toNatClampNeg))] H (zPi P)) (kk : ∀ (r : Int32) (H1 : Heap), P r H1 → zOk G H1 → H.size ≤ H1.size → zT H ≤ zT H1 → zW G d (M_La nm) 348 [some (.ref a0), some (.ref a1), o2, some (.int x3)] ((.int r) :: st) H1 Q) : zW G d (M_La nm) 339 [some (.ref a0), some (.ref a1), o2, some (.int x3)] st H Q :=
  zw_aload_n (i := 1) dLa_law_339 rfl rfl zRf_ref <| zw_aload_n (i := 0) dLa_law_340 rfl rfl zRf_ref <| zw_iload_n (i := 3) dLa_law_341 rfl rfl <| zw_iconst (1 : Int32) dLa_law_342 zki_1 <| zw_iadd dLa_law_343 <| zw_iald dLa_law_344 ha1 hi1 <| zw_callV [(.int (g1 ((x3 + (1 : Int32))).toNatClampNeg))] _ dLa_law_345 hd zk_La_60 ho rfl rfl hl hc (zPi_k kk)
theorem sLa_law_348 {nm : String} {G : zG} {d : Nat} {Q : Option Value → Heap → Prop} {H : Heap} {st : List Value} {o1 : Option Value} {a2 : Nat} {a0 : Nat} {x3 : Int32} {n1 : Nat} {g1 : Nat → Int32} {P : Int32 → Heap → Prop} (ha1 : zArr G H a0 .int n1 (fun j => .int (g1 j))) (hi1 : vp_in (x3 + (1 : Int32)) n1) (hd : 1 ≤ d) (hl : st.length ≤ 4) (ho : zIs G H a2 13) (hc : zC G (d - 1) M_Mo_count [(.ref a2), (.int (g1 ((x3 + (1 : Int32))).toNatClampNeg))] H (zPi P)) (kk : ∀ (r : Int32) (H1 : Heap), P r H1 → zOk G H1 → H.size ≤ H1.size → zT H ≤ zT H1 → zW G d (M_La nm) 357 [some (.ref a0), o1, some (.ref a2), some (.int x3)] ((.int r) :: st) H1 Q) : zW G d (M_La nm) 348 [some (.ref a0), o1, some (.ref a2), some (.int x3)] st H Q :=
  zw_aload_n (i := 2) dLa_law_348 rfl rfl zRf_ref <| zw_aload_n (i := 0) dLa_law_349 rfl rfl zRf_ref <| zw_iload_n (i := 3) dLa_law_350 rfl rfl <| zw_iconst (1 : Int32) dLa_law_351 zki_1 <| zw_iadd dLa_law_352 <| zw_iald dLa_law_353 ha1 hi1 <| zw_callV [(.int (g1 ((x3 + (1 : Int32))).toNatClampNeg))] _ dLa_law_354 hd zk_La_63 ho rfl rfl hl hc (zPi_k kk)
theorem sLa_law_357 {nm : String} {G : zG} {d : Nat} {Q : Option Value → Heap → Prop} {H : Heap} {st : List Value} {o0 : Option Value} {o1 : Option Value} {o2 : Option Value} {o3 : Option Value} {xs0 : Int32} {xs1 : Int32} (kt : (xs1 = xs0) → zW G d (M_La nm) 362 [o0, o1, o2, o3] st H Q) (kf : (¬ xs1 = xs0) → zW G d (M_La nm) 360 [o0, o1, o2, o3] st H Q) : zW G d (M_La nm) 357 [o0, o1, o2, o3] ((.int xs0) :: (.int xs1) :: st) H Q :=
  zw_icmp_eq 362 dLa_law_357 (by decide) kt kf
theorem sLa_law_360 {nm : String} {G : zG} {d : Nat} {Q : Option Value → Heap → Prop} {H : Heap} {o0 : Option Value} {o1 : Option Value} {o2 : Option Value} {o3 : Option Value} (hn : narrow .boolean (.int (0 : Int32)) = .int (0 : Int32)) (hq : Q (some (.int (0 : Int32))) H) : zW G d (M_La nm) 360 [o0, o1, o2, o3] [] H Q :=
  zw_iconst (0 : Int32) dLa_law_360 zki_0 <| zw_iret dLa_law_361 .boolean rfl hn hq
theorem sLa_law_362 {nm : String} {G : zG} {d : Nat} {Q : Option Value → Heap → Prop} {H : Heap} {st : List Value} {o0 : Option Value} {o1 : Option Value} {o2 : Option Value} {x3 : Int32} (kk : zW G d (M_La nm) 18 [o0, o1, o2, some (.int (x3 + (6 : Int32)))] st H Q) : zW G d (M_La nm) 362 [o0, o1, o2, some (.int x3)] st H Q :=
  zw_iinc (i := 3) (x3 + (6 : Int32)) dLa_law_362 rfl (by rw [zki_6]) <| zw_goto 18 dLa_law_365 (by decide) <| kk
theorem sLa_law_368 {nm : String} {G : zG} {d : Nat} {Q : Option Value → Heap → Prop} {H : Heap} {o0 : Option Value} {o1 : Option Value} {o2 : Option Value} {o3 : Option Value} (hn : narrow .boolean (.int (1 : Int32)) = .int (1 : Int32)) (hq : Q (some (.int (1 : Int32))) H) : zW G d (M_La nm) 368 [o0, o1, o2, o3] [] H Q :=
  zw_iconst (1 : Int32) dLa_law_368 zki_1 <| zw_iret dLa_law_369 .boolean rfl hn hq
