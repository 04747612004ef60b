/-! tables, by program (wip/whole/gen/mkt.py W_law) -/
abbrev J_W_law (b : Nat) (xs : List Int32) : g_J := ((⟨"TracePacksLaw", "law", "([I)Z"⟩ : MethodName), code, 7, (some .boolean), (8, 194), [], some (b, xs))
theorem d_W_law_0 : decode code 0 = .ok (.new 8, 3) := by decide +kernel
theorem d_W_law_3 : decode code 3 = .ok (.dup, 1) := by decide +kernel
theorem d_W_law_4 : decode code 4 = .ok (.invokespecial 52, 3) := by decide +kernel
theorem d_W_law_7 : decode code 7 = .ok (.astore_n 1, 1) := by decide +kernel
theorem d_W_law_8 : decode code 8 = .ok (.new 53, 3) := by decide +kernel
theorem d_W_law_11 : decode code 11 = .ok (.dup, 1) := by decide +kernel
theorem d_W_law_12 : decode code 12 = .ok (.invokespecial 55, 3) := by decide +kernel
theorem d_W_law_15 : decode code 15 = .ok (.astore_n 2, 1) := by decide +kernel
theorem d_W_law_16 : decode code 16 = .ok (.iconst 1, 1) := by decide +kernel
theorem d_W_law_17 : decode code 17 = .ok (.newarray .long, 2) := by decide +kernel
theorem d_W_law_19 : decode code 19 = .ok (.astore_n 3, 1) := by decide +kernel
theorem d_W_law_20 : decode code 20 = .ok (.iconst 0, 1) := by decide +kernel
theorem d_W_law_21 : decode code 21 = .ok (.istore 4, 2) := by decide +kernel
theorem d_W_law_23 : decode code 23 = .ok (.iload 4, 2) := by decide +kernel
theorem d_W_law_25 : decode code 25 = .ok (.aload_n 0, 1) := by decide +kernel
theorem d_W_law_26 : decode code 26 = .ok (.arraylength, 1) := by decide +kernel
theorem d_W_law_27 : decode code 27 = .ok (.iconst 4, 1) := by decide +kernel
theorem d_W_law_28 : decode code 28 = .ok (.isub, 1) := by decide +kernel
theorem d_W_law_29 : decode code 29 = .ok (.if_icmp .gt 766, 3) := by decide +kernel
theorem d_W_law_32 : decode code 32 = .ok (.aload_n 0, 1) := by decide +kernel
theorem d_W_law_33 : decode code 33 = .ok (.iload 4, 2) := by decide +kernel
theorem d_W_law_35 : decode code 35 = .ok (.iaload, 1) := by decide +kernel
theorem d_W_law_36 : decode code 36 = .ok (.bipush 15, 2) := by decide +kernel
theorem d_W_law_38 : decode code 38 = .ok (.iand, 1) := by decide +kernel
theorem d_W_law_39 : decode code 39 = .ok (.tableswitch 750 0 11 #[61, 117, 197, 241, 297, 365, 421, 477, 545, 601, 669, 725], 61) := by decide +kernel
theorem d_W_law_100 : decode code 100 = .ok (.aload_n 1, 1) := by decide +kernel
theorem d_W_law_101 : decode code 101 = .ok (.aload_n 0, 1) := by decide +kernel
theorem d_W_law_102 : decode code 102 = .ok (.iload 4, 2) := by decide +kernel
theorem d_W_law_104 : decode code 104 = .ok (.iconst 1, 1) := by decide +kernel
theorem d_W_law_105 : decode code 105 = .ok (.iadd, 1) := by decide +kernel
theorem d_W_law_106 : decode code 106 = .ok (.iaload, 1) := by decide +kernel
theorem d_W_law_107 : decode code 107 = .ok (.aload_n 3, 1) := by decide +kernel
theorem d_W_law_108 : decode code 108 = .ok (.invokestatic 56, 3) := by decide +kernel
theorem d_W_law_111 : decode code 111 = .ok (.istore 5, 2) := by decide +kernel
theorem d_W_law_113 : decode code 113 = .ok (.aload_n 2, 1) := by decide +kernel
theorem d_W_law_114 : decode code 114 = .ok (.aload_n 0, 1) := by decide +kernel
theorem d_W_law_115 : decode code 115 = .ok (.iload 4, 2) := by decide +kernel
theorem d_W_law_117 : decode code 117 = .ok (.iconst 1, 1) := by decide +kernel
theorem d_W_law_118 : decode code 118 = .ok (.iadd, 1) := by decide +kernel
theorem d_W_law_119 : decode code 119 = .ok (.iaload, 1) := by decide +kernel
theorem d_W_law_120 : decode code 120 = .ok (.invokevirtual 61, 3) := by decide +kernel
theorem d_W_law_123 : decode code 123 = .ok (.istore 6, 2) := by decide +kernel
theorem d_W_law_125 : decode code 125 = .ok (.aload_n 2, 1) := by decide +kernel
theorem d_W_law_126 : decode code 126 = .ok (.invokevirtual 62, 3) := by decide +kernel
theorem d_W_law_129 : decode code 129 = .ok (.iload 5, 2) := by decide +kernel
theorem d_W_law_131 : decode code 131 = .ok (.if_icmp .eq 5, 3) := by decide +kernel
theorem d_W_law_134 : decode code 134 = .ok (.iconst 0, 1) := by decide +kernel
theorem d_W_law_135 : decode code 135 = .ok (.ireturn, 1) := by decide +kernel
theorem d_W_law_136 : decode code 136 = .ok (.iload 5, 2) := by decide +kernel
theorem d_W_law_138 : decode code 138 = .ok (.ifCond .ne 15, 3) := by decide +kernel
theorem d_W_law_141 : decode code 141 = .ok (.aload_n 3, 1) := by decide +kernel
theorem d_W_law_142 : decode code 142 = .ok (.iconst 0, 1) := by decide +kernel
theorem d_W_law_143 : decode code 143 = .ok (.laload, 1) := by decide +kernel
theorem d_W_law_144 : decode code 144 = .ok (.iload 6, 2) := by decide +kernel
theorem d_W_law_146 : decode code 146 = .ok (.i2l, 1) := by decide +kernel
theorem d_W_law_147 : decode code 147 = .ok (.lcmp, 1) := by decide +kernel
theorem d_W_law_148 : decode code 148 = .ok (.ifCond .eq 5, 3) := by decide +kernel
theorem d_W_law_151 : decode code 151 = .ok (.iconst 0, 1) := by decide +kernel
theorem d_W_law_152 : decode code 152 = .ok (.ireturn, 1) := by decide +kernel
theorem d_W_law_153 : decode code 153 = .ok (.goto 636, 3) := by decide +kernel
theorem d_W_law_156 : decode code 156 = .ok (.aload_n 1, 1) := by decide +kernel
theorem d_W_law_157 : decode code 157 = .ok (.aload_n 0, 1) := by decide +kernel
theorem d_W_law_158 : decode code 158 = .ok (.iload 4, 2) := by decide +kernel
theorem d_W_law_160 : decode code 160 = .ok (.iconst 1, 1) := by decide +kernel
theorem d_W_law_161 : decode code 161 = .ok (.iadd, 1) := by decide +kernel
theorem d_W_law_162 : decode code 162 = .ok (.iaload, 1) := by decide +kernel
theorem d_W_law_163 : decode code 163 = .ok (.aload_n 0, 1) := by decide +kernel
theorem d_W_law_164 : decode code 164 = .ok (.iload 4, 2) := by decide +kernel
theorem d_W_law_166 : decode code 166 = .ok (.iconst 2, 1) := by decide +kernel
theorem d_W_law_167 : decode code 167 = .ok (.iadd, 1) := by decide +kernel
theorem d_W_law_168 : decode code 168 = .ok (.iaload, 1) := by decide +kernel
theorem d_W_law_169 : decode code 169 = .ok (.aload_n 0, 1) := by decide +kernel
theorem d_W_law_170 : decode code 170 = .ok (.iload 4, 2) := by decide +kernel
theorem d_W_law_172 : decode code 172 = .ok (.iconst 3, 1) := by decide +kernel
theorem d_W_law_173 : decode code 173 = .ok (.iadd, 1) := by decide +kernel
theorem d_W_law_174 : decode code 174 = .ok (.iaload, 1) := by decide +kernel
theorem d_W_law_175 : decode code 175 = .ok (.aload_n 3, 1) := by decide +kernel
theorem d_W_law_176 : decode code 176 = .ok (.invokestatic 65, 3) := by decide +kernel
theorem d_W_law_179 : decode code 179 = .ok (.istore 5, 2) := by decide +kernel
theorem d_W_law_181 : decode code 181 = .ok (.aload_n 2, 1) := by decide +kernel
theorem d_W_law_182 : decode code 182 = .ok (.aload_n 0, 1) := by decide +kernel
theorem d_W_law_183 : decode code 183 = .ok (.iload 4, 2) := by decide +kernel
theorem d_W_law_185 : decode code 185 = .ok (.iconst 1, 1) := by decide +kernel
theorem d_W_law_186 : decode code 186 = .ok (.iadd, 1) := by decide +kernel
theorem d_W_law_187 : decode code 187 = .ok (.iaload, 1) := by decide +kernel
theorem d_W_law_188 : decode code 188 = .ok (.aload_n 0, 1) := by decide +kernel
theorem d_W_law_189 : decode code 189 = .ok (.iload 4, 2) := by decide +kernel
theorem d_W_law_191 : decode code 191 = .ok (.iconst 2, 1) := by decide +kernel
theorem d_W_law_192 : decode code 192 = .ok (.iadd, 1) := by decide +kernel
theorem d_W_law_193 : decode code 193 = .ok (.iaload, 1) := by decide +kernel
theorem d_W_law_194 : decode code 194 = .ok (.aload_n 0, 1) := by decide +kernel
theorem d_W_law_195 : decode code 195 = .ok (.iload 4, 2) := by decide +kernel
theorem d_W_law_197 : decode code 197 = .ok (.iconst 3, 1) := by decide +kernel
theorem d_W_law_198 : decode code 198 = .ok (.iadd, 1) := by decide +kernel
theorem d_W_law_199 : decode code 199 = .ok (.iaload, 1) := by decide +kernel
theorem d_W_law_200 : decode code 200 = .ok (.invokevirtual 68, 3) := by decide +kernel
theorem d_W_law_203 : decode code 203 = .ok (.istore 6, 2) := by decide +kernel
theorem d_W_law_205 : decode code 205 = .ok (.aload_n 2, 1) := by decide +kernel
theorem d_W_law_206 : decode code 206 = .ok (.invokevirtual 62, 3) := by decide +kernel
theorem d_W_law_209 : decode code 209 = .ok (.iload 5, 2) := by decide +kernel
theorem d_W_law_211 : decode code 211 = .ok (.if_icmp .eq 5, 3) := by decide +kernel
theorem d_W_law_214 : decode code 214 = .ok (.iconst 0, 1) := by decide +kernel
theorem d_W_law_215 : decode code 215 = .ok (.ireturn, 1) := by decide +kernel
theorem d_W_law_216 : decode code 216 = .ok (.iload 5, 2) := by decide +kernel
theorem d_W_law_218 : decode code 218 = .ok (.ifCond .ne 15, 3) := by decide +kernel
theorem d_W_law_221 : decode code 221 = .ok (.aload_n 3, 1) := by decide +kernel
theorem d_W_law_222 : decode code 222 = .ok (.iconst 0, 1) := by decide +kernel
theorem d_W_law_223 : decode code 223 = .ok (.laload, 1) := by decide +kernel
theorem d_W_law_224 : decode code 224 = .ok (.iload 6, 2) := by decide +kernel
theorem d_W_law_226 : decode code 226 = .ok (.i2l, 1) := by decide +kernel
theorem d_W_law_227 : decode code 227 = .ok (.lcmp, 1) := by decide +kernel
theorem d_W_law_228 : decode code 228 = .ok (.ifCond .eq 5, 3) := by decide +kernel
theorem d_W_law_231 : decode code 231 = .ok (.iconst 0, 1) := by decide +kernel
theorem d_W_law_232 : decode code 232 = .ok (.ireturn, 1) := by decide +kernel
theorem d_W_law_233 : decode code 233 = .ok (.goto 556, 3) := by decide +kernel
theorem d_W_law_236 : decode code 236 = .ok (.aload_n 1, 1) := by decide +kernel
theorem d_W_law_237 : decode code 237 = .ok (.aload_n 3, 1) := by decide +kernel
theorem d_W_law_238 : decode code 238 = .ok (.invokestatic 69, 3) := by decide +kernel
theorem d_W_law_241 : decode code 241 = .ok (.istore 5, 2) := by decide +kernel
theorem d_W_law_243 : decode code 243 = .ok (.aload_n 2, 1) := by decide +kernel
theorem d_W_law_244 : decode code 244 = .ok (.invokevirtual 72, 3) := by decide +kernel
theorem d_W_law_247 : decode code 247 = .ok (.istore 6, 2) := by decide +kernel
theorem d_W_law_249 : decode code 249 = .ok (.aload_n 2, 1) := by decide +kernel
theorem d_W_law_250 : decode code 250 = .ok (.invokevirtual 62, 3) := by decide +kernel
theorem d_W_law_253 : decode code 253 = .ok (.iload 5, 2) := by decide +kernel
theorem d_W_law_255 : decode code 255 = .ok (.if_icmp .eq 5, 3) := by decide +kernel
theorem d_W_law_258 : decode code 258 = .ok (.iconst 0, 1) := by decide +kernel
theorem d_W_law_259 : decode code 259 = .ok (.ireturn, 1) := by decide +kernel
theorem d_W_law_260 : decode code 260 = .ok (.iload 5, 2) := by decide +kernel
theorem d_W_law_262 : decode code 262 = .ok (.ifCond .ne 15, 3) := by decide +kernel
theorem d_W_law_265 : decode code 265 = .ok (.aload_n 3, 1) := by decide +kernel
theorem d_W_law_266 : decode code 266 = .ok (.iconst 0, 1) := by decide +kernel
theorem d_W_law_267 : decode code 267 = .ok (.laload, 1) := by decide +kernel
theorem d_W_law_268 : decode code 268 = .ok (.iload 6, 2) := by decide +kernel
theorem d_W_law_270 : decode code 270 = .ok (.i2l, 1) := by decide +kernel
theorem d_W_law_271 : decode code 271 = .ok (.lcmp, 1) := by decide +kernel
theorem d_W_law_272 : decode code 272 = .ok (.ifCond .eq 5, 3) := by decide +kernel
theorem d_W_law_275 : decode code 275 = .ok (.iconst 0, 1) := by decide +kernel
theorem d_W_law_276 : decode code 276 = .ok (.ireturn, 1) := by decide +kernel
theorem d_W_law_277 : decode code 277 = .ok (.goto 512, 3) := by decide +kernel
theorem d_W_law_280 : decode code 280 = .ok (.aload_n 1, 1) := by decide +kernel
theorem d_W_law_281 : decode code 281 = .ok (.aload_n 0, 1) := by decide +kernel
theorem d_W_law_282 : decode code 282 = .ok (.iload 4, 2) := by decide +kernel
theorem d_W_law_284 : decode code 284 = .ok (.iconst 1, 1) := by decide +kernel
theorem d_W_law_285 : decode code 285 = .ok (.iadd, 1) := by decide +kernel
theorem d_W_law_286 : decode code 286 = .ok (.iaload, 1) := by decide +kernel
theorem d_W_law_287 : decode code 287 = .ok (.aload_n 3, 1) := by decide +kernel
theorem d_W_law_288 : decode code 288 = .ok (.invokestatic 73, 3) := by decide +kernel
theorem d_W_law_291 : decode code 291 = .ok (.istore 5, 2) := by decide +kernel
theorem d_W_law_293 : decode code 293 = .ok (.aload_n 2, 1) := by decide +kernel
theorem d_W_law_294 : decode code 294 = .ok (.aload_n 0, 1) := by decide +kernel
theorem d_W_law_295 : decode code 295 = .ok (.iload 4, 2) := by decide +kernel
theorem d_W_law_297 : decode code 297 = .ok (.iconst 1, 1) := by decide +kernel
theorem d_W_law_298 : decode code 298 = .ok (.iadd, 1) := by decide +kernel
theorem d_W_law_299 : decode code 299 = .ok (.iaload, 1) := by decide +kernel
theorem d_W_law_300 : decode code 300 = .ok (.invokevirtual 75, 3) := by decide +kernel
theorem d_W_law_303 : decode code 303 = .ok (.istore 6, 2) := by decide +kernel
theorem d_W_law_305 : decode code 305 = .ok (.aload_n 2, 1) := by decide +kernel
theorem d_W_law_306 : decode code 306 = .ok (.invokevirtual 62, 3) := by decide +kernel
theorem d_W_law_309 : decode code 309 = .ok (.iload 5, 2) := by decide +kernel
theorem d_W_law_311 : decode code 311 = .ok (.if_icmp .eq 5, 3) := by decide +kernel
theorem d_W_law_314 : decode code 314 = .ok (.iconst 0, 1) := by decide +kernel
theorem d_W_law_315 : decode code 315 = .ok (.ireturn, 1) := by decide +kernel
theorem d_W_law_316 : decode code 316 = .ok (.iload 5, 2) := by decide +kernel
theorem d_W_law_318 : decode code 318 = .ok (.ifCond .ne 15, 3) := by decide +kernel
theorem d_W_law_321 : decode code 321 = .ok (.aload_n 3, 1) := by decide +kernel
theorem d_W_law_322 : decode code 322 = .ok (.iconst 0, 1) := by decide +kernel
theorem d_W_law_323 : decode code 323 = .ok (.laload, 1) := by decide +kernel
theorem d_W_law_324 : decode code 324 = .ok (.iload 6, 2) := by decide +kernel
theorem d_W_law_326 : decode code 326 = .ok (.i2l, 1) := by decide +kernel
theorem d_W_law_327 : decode code 327 = .ok (.lcmp, 1) := by decide +kernel
theorem d_W_law_328 : decode code 328 = .ok (.ifCond .eq 5, 3) := by decide +kernel
theorem d_W_law_331 : decode code 331 = .ok (.iconst 0, 1) := by decide +kernel
theorem d_W_law_332 : decode code 332 = .ok (.ireturn, 1) := by decide +kernel
theorem d_W_law_333 : decode code 333 = .ok (.goto 456, 3) := by decide +kernel
theorem d_W_law_336 : decode code 336 = .ok (.aload_n 1, 1) := by decide +kernel
theorem d_W_law_337 : decode code 337 = .ok (.aload_n 0, 1) := by decide +kernel
theorem d_W_law_338 : decode code 338 = .ok (.iload 4, 2) := by decide +kernel
theorem d_W_law_340 : decode code 340 = .ok (.iconst 1, 1) := by decide +kernel
theorem d_W_law_341 : decode code 341 = .ok (.iadd, 1) := by decide +kernel
theorem d_W_law_342 : decode code 342 = .ok (.iaload, 1) := by decide +kernel
theorem d_W_law_343 : decode code 343 = .ok (.aload_n 0, 1) := by decide +kernel
theorem d_W_law_344 : decode code 344 = .ok (.iload 4, 2) := by decide +kernel
theorem d_W_law_346 : decode code 346 = .ok (.iconst 2, 1) := by decide +kernel
theorem d_W_law_347 : decode code 347 = .ok (.iadd, 1) := by decide +kernel
theorem d_W_law_348 : decode code 348 = .ok (.iaload, 1) := by decide +kernel
theorem d_W_law_349 : decode code 349 = .ok (.aload_n 3, 1) := by decide +kernel
theorem d_W_law_350 : decode code 350 = .ok (.invokestatic 76, 3) := by decide +kernel
theorem d_W_law_353 : decode code 353 = .ok (.istore 5, 2) := by decide +kernel
theorem d_W_law_355 : decode code 355 = .ok (.aload_n 2, 1) := by decide +kernel
theorem d_W_law_356 : decode code 356 = .ok (.aload_n 0, 1) := by decide +kernel
theorem d_W_law_357 : decode code 357 = .ok (.iload 4, 2) := by decide +kernel
theorem d_W_law_359 : decode code 359 = .ok (.iconst 1, 1) := by decide +kernel
theorem d_W_law_360 : decode code 360 = .ok (.iadd, 1) := by decide +kernel
theorem d_W_law_361 : decode code 361 = .ok (.iaload, 1) := by decide +kernel
theorem d_W_law_362 : decode code 362 = .ok (.aload_n 0, 1) := by decide +kernel
theorem d_W_law_363 : decode code 363 = .ok (.iload 4, 2) := by decide +kernel
theorem d_W_law_365 : decode code 365 = .ok (.iconst 2, 1) := by decide +kernel
theorem d_W_law_366 : decode code 366 = .ok (.iadd, 1) := by decide +kernel
theorem d_W_law_367 : decode code 367 = .ok (.iaload, 1) := by decide +kernel
theorem d_W_law_368 : decode code 368 = .ok (.invokevirtual 79, 3) := by decide +kernel
theorem d_W_law_371 : decode code 371 = .ok (.istore 6, 2) := by decide +kernel
theorem d_W_law_373 : decode code 373 = .ok (.aload_n 2, 1) := by decide +kernel
theorem d_W_law_374 : decode code 374 = .ok (.invokevirtual 62, 3) := by decide +kernel
theorem d_W_law_377 : decode code 377 = .ok (.iload 5, 2) := by decide +kernel
theorem d_W_law_379 : decode code 379 = .ok (.if_icmp .eq 5, 3) := by decide +kernel
theorem d_W_law_382 : decode code 382 = .ok (.iconst 0, 1) := by decide +kernel
theorem d_W_law_383 : decode code 383 = .ok (.ireturn, 1) := by decide +kernel
theorem d_W_law_384 : decode code 384 = .ok (.iload 5, 2) := by decide +kernel
theorem d_W_law_386 : decode code 386 = .ok (.ifCond .ne 15, 3) := by decide +kernel
theorem d_W_law_389 : decode code 389 = .ok (.aload_n 3, 1) := by decide +kernel
theorem d_W_law_390 : decode code 390 = .ok (.iconst 0, 1) := by decide +kernel
theorem d_W_law_391 : decode code 391 = .ok (.laload, 1) := by decide +kernel
theorem d_W_law_392 : decode code 392 = .ok (.iload 6, 2) := by decide +kernel
theorem d_W_law_394 : decode code 394 = .ok (.i2l, 1) := by decide +kernel
theorem d_W_law_395 : decode code 395 = .ok (.lcmp, 1) := by decide +kernel
theorem d_W_law_396 : decode code 396 = .ok (.ifCond .eq 5, 3) := by decide +kernel
theorem d_W_law_399 : decode code 399 = .ok (.iconst 0, 1) := by decide +kernel
theorem d_W_law_400 : decode code 400 = .ok (.ireturn, 1) := by decide +kernel
theorem d_W_law_401 : decode code 401 = .ok (.goto 388, 3) := by decide +kernel
theorem d_W_law_404 : decode code 404 = .ok (.aload_n 1, 1) := by decide +kernel
theorem d_W_law_405 : decode code 405 = .ok (.aload_n 0, 1) := by decide +kernel
theorem d_W_law_406 : decode code 406 = .ok (.iload 4, 2) := by decide +kernel
theorem d_W_law_408 : decode code 408 = .ok (.iconst 1, 1) := by decide +kernel
theorem d_W_law_409 : decode code 409 = .ok (.iadd, 1) := by decide +kernel
theorem d_W_law_410 : decode code 410 = .ok (.iaload, 1) := by decide +kernel
theorem d_W_law_411 : decode code 411 = .ok (.aload_n 3, 1) := by decide +kernel
theorem d_W_law_412 : decode code 412 = .ok (.invokestatic 80, 3) := by decide +kernel
theorem d_W_law_415 : decode code 415 = .ok (.istore 5, 2) := by decide +kernel
theorem d_W_law_417 : decode code 417 = .ok (.aload_n 2, 1) := by decide +kernel
theorem d_W_law_418 : decode code 418 = .ok (.aload_n 0, 1) := by decide +kernel
theorem d_W_law_419 : decode code 419 = .ok (.iload 4, 2) := by decide +kernel
theorem d_W_law_421 : decode code 421 = .ok (.iconst 1, 1) := by decide +kernel
theorem d_W_law_422 : decode code 422 = .ok (.iadd, 1) := by decide +kernel
theorem d_W_law_423 : decode code 423 = .ok (.iaload, 1) := by decide +kernel
theorem d_W_law_424 : decode code 424 = .ok (.invokevirtual 82, 3) := by decide +kernel
theorem d_W_law_427 : decode code 427 = .ok (.istore 6, 2) := by decide +kernel
theorem d_W_law_429 : decode code 429 = .ok (.aload_n 2, 1) := by decide +kernel
theorem d_W_law_430 : decode code 430 = .ok (.invokevirtual 62, 3) := by decide +kernel
theorem d_W_law_433 : decode code 433 = .ok (.iload 5, 2) := by decide +kernel
theorem d_W_law_435 : decode code 435 = .ok (.if_icmp .eq 5, 3) := by decide +kernel
theorem d_W_law_438 : decode code 438 = .ok (.iconst 0, 1) := by decide +kernel
theorem d_W_law_439 : decode code 439 = .ok (.ireturn, 1) := by decide +kernel
theorem d_W_law_440 : decode code 440 = .ok (.iload 5, 2) := by decide +kernel
theorem d_W_law_442 : decode code 442 = .ok (.ifCond .ne 15, 3) := by decide +kernel
theorem d_W_law_445 : decode code 445 = .ok (.aload_n 3, 1) := by decide +kernel
theorem d_W_law_446 : decode code 446 = .ok (.iconst 0, 1) := by decide +kernel
theorem d_W_law_447 : decode code 447 = .ok (.laload, 1) := by decide +kernel
theorem d_W_law_448 : decode code 448 = .ok (.iload 6, 2) := by decide +kernel
theorem d_W_law_450 : decode code 450 = .ok (.i2l, 1) := by decide +kernel
theorem d_W_law_451 : decode code 451 = .ok (.lcmp, 1) := by decide +kernel
theorem d_W_law_452 : decode code 452 = .ok (.ifCond .eq 5, 3) := by decide +kernel
theorem d_W_law_455 : decode code 455 = .ok (.iconst 0, 1) := by decide +kernel
theorem d_W_law_456 : decode code 456 = .ok (.ireturn, 1) := by decide +kernel
theorem d_W_law_457 : decode code 457 = .ok (.goto 332, 3) := by decide +kernel
theorem d_W_law_460 : decode code 460 = .ok (.aload_n 1, 1) := by decide +kernel
theorem d_W_law_461 : decode code 461 = .ok (.aload_n 0, 1) := by decide +kernel
theorem d_W_law_462 : decode code 462 = .ok (.iload 4, 2) := by decide +kernel
theorem d_W_law_464 : decode code 464 = .ok (.iconst 1, 1) := by decide +kernel
theorem d_W_law_465 : decode code 465 = .ok (.iadd, 1) := by decide +kernel
theorem d_W_law_466 : decode code 466 = .ok (.iaload, 1) := by decide +kernel
theorem d_W_law_467 : decode code 467 = .ok (.aload_n 3, 1) := by decide +kernel
theorem d_W_law_468 : decode code 468 = .ok (.invokestatic 83, 3) := by decide +kernel
theorem d_W_law_471 : decode code 471 = .ok (.istore 5, 2) := by decide +kernel
theorem d_W_law_473 : decode code 473 = .ok (.aload_n 2, 1) := by decide +kernel
theorem d_W_law_474 : decode code 474 = .ok (.aload_n 0, 1) := by decide +kernel
theorem d_W_law_475 : decode code 475 = .ok (.iload 4, 2) := by decide +kernel
theorem d_W_law_477 : decode code 477 = .ok (.iconst 1, 1) := by decide +kernel
theorem d_W_law_478 : decode code 478 = .ok (.iadd, 1) := by decide +kernel
theorem d_W_law_479 : decode code 479 = .ok (.iaload, 1) := by decide +kernel
theorem d_W_law_480 : decode code 480 = .ok (.invokevirtual 85, 3) := by decide +kernel
theorem d_W_law_483 : decode code 483 = .ok (.istore 6, 2) := by decide +kernel
theorem d_W_law_485 : decode code 485 = .ok (.aload_n 2, 1) := by decide +kernel
theorem d_W_law_486 : decode code 486 = .ok (.invokevirtual 62, 3) := by decide +kernel
theorem d_W_law_489 : decode code 489 = .ok (.iload 5, 2) := by decide +kernel
theorem d_W_law_491 : decode code 491 = .ok (.if_icmp .eq 5, 3) := by decide +kernel
theorem d_W_law_494 : decode code 494 = .ok (.iconst 0, 1) := by decide +kernel
theorem d_W_law_495 : decode code 495 = .ok (.ireturn, 1) := by decide +kernel
theorem d_W_law_496 : decode code 496 = .ok (.iload 5, 2) := by decide +kernel
theorem d_W_law_498 : decode code 498 = .ok (.ifCond .ne 15, 3) := by decide +kernel
theorem d_W_law_501 : decode code 501 = .ok (.aload_n 3, 1) := by decide +kernel
theorem d_W_law_502 : decode code 502 = .ok (.iconst 0, 1) := by decide +kernel
theorem d_W_law_503 : decode code 503 = .ok (.laload, 1) := by decide +kernel
theorem d_W_law_504 : decode code 504 = .ok (.iload 6, 2) := by decide +kernel
theorem d_W_law_506 : decode code 506 = .ok (.i2l, 1) := by decide +kernel
theorem d_W_law_507 : decode code 507 = .ok (.lcmp, 1) := by decide +kernel
theorem d_W_law_508 : decode code 508 = .ok (.ifCond .eq 5, 3) := by decide +kernel
theorem d_W_law_511 : decode code 511 = .ok (.iconst 0, 1) := by decide +kernel
theorem d_W_law_512 : decode code 512 = .ok (.ireturn, 1) := by decide +kernel
theorem d_W_law_513 : decode code 513 = .ok (.goto 276, 3) := by decide +kernel
theorem d_W_law_516 : decode code 516 = .ok (.aload_n 1, 1) := by decide +kernel
theorem d_W_law_517 : decode code 517 = .ok (.aload_n 0, 1) := by decide +kernel
theorem d_W_law_518 : decode code 518 = .ok (.iload 4, 2) := by decide +kernel
theorem d_W_law_520 : decode code 520 = .ok (.iconst 1, 1) := by decide +kernel
theorem d_W_law_521 : decode code 521 = .ok (.iadd, 1) := by decide +kernel
theorem d_W_law_522 : decode code 522 = .ok (.iaload, 1) := by decide +kernel
theorem d_W_law_523 : decode code 523 = .ok (.aload_n 0, 1) := by decide +kernel
theorem d_W_law_524 : decode code 524 = .ok (.iload 4, 2) := by decide +kernel
theorem d_W_law_526 : decode code 526 = .ok (.iconst 2, 1) := by decide +kernel
theorem d_W_law_527 : decode code 527 = .ok (.iadd, 1) := by decide +kernel
theorem d_W_law_528 : decode code 528 = .ok (.iaload, 1) := by decide +kernel
theorem d_W_law_529 : decode code 529 = .ok (.aload_n 3, 1) := by decide +kernel
theorem d_W_law_530 : decode code 530 = .ok (.invokestatic 86, 3) := by decide +kernel
theorem d_W_law_533 : decode code 533 = .ok (.istore 5, 2) := by decide +kernel
theorem d_W_law_535 : decode code 535 = .ok (.aload_n 2, 1) := by decide +kernel
theorem d_W_law_536 : decode code 536 = .ok (.aload_n 0, 1) := by decide +kernel
theorem d_W_law_537 : decode code 537 = .ok (.iload 4, 2) := by decide +kernel
theorem d_W_law_539 : decode code 539 = .ok (.iconst 1, 1) := by decide +kernel
theorem d_W_law_540 : decode code 540 = .ok (.iadd, 1) := by decide +kernel
theorem d_W_law_541 : decode code 541 = .ok (.iaload, 1) := by decide +kernel
theorem d_W_law_542 : decode code 542 = .ok (.aload_n 0, 1) := by decide +kernel
theorem d_W_law_543 : decode code 543 = .ok (.iload 4, 2) := by decide +kernel
theorem d_W_law_545 : decode code 545 = .ok (.iconst 2, 1) := by decide +kernel
theorem d_W_law_546 : decode code 546 = .ok (.iadd, 1) := by decide +kernel
theorem d_W_law_547 : decode code 547 = .ok (.iaload, 1) := by decide +kernel
theorem d_W_law_548 : decode code 548 = .ok (.invokevirtual 88, 3) := by decide +kernel
theorem d_W_law_551 : decode code 551 = .ok (.istore 6, 2) := by decide +kernel
theorem d_W_law_553 : decode code 553 = .ok (.aload_n 2, 1) := by decide +kernel
theorem d_W_law_554 : decode code 554 = .ok (.invokevirtual 62, 3) := by decide +kernel
theorem d_W_law_557 : decode code 557 = .ok (.iload 5, 2) := by decide +kernel
theorem d_W_law_559 : decode code 559 = .ok (.if_icmp .eq 5, 3) := by decide +kernel
theorem d_W_law_562 : decode code 562 = .ok (.iconst 0, 1) := by decide +kernel
theorem d_W_law_563 : decode code 563 = .ok (.ireturn, 1) := by decide +kernel
theorem d_W_law_564 : decode code 564 = .ok (.iload 5, 2) := by decide +kernel
theorem d_W_law_566 : decode code 566 = .ok (.ifCond .ne 15, 3) := by decide +kernel
theorem d_W_law_569 : decode code 569 = .ok (.aload_n 3, 1) := by decide +kernel
theorem d_W_law_570 : decode code 570 = .ok (.iconst 0, 1) := by decide +kernel
theorem d_W_law_571 : decode code 571 = .ok (.laload, 1) := by decide +kernel
theorem d_W_law_572 : decode code 572 = .ok (.iload 6, 2) := by decide +kernel
theorem d_W_law_574 : decode code 574 = .ok (.i2l, 1) := by decide +kernel
theorem d_W_law_575 : decode code 575 = .ok (.lcmp, 1) := by decide +kernel
theorem d_W_law_576 : decode code 576 = .ok (.ifCond .eq 5, 3) := by decide +kernel
theorem d_W_law_579 : decode code 579 = .ok (.iconst 0, 1) := by decide +kernel
theorem d_W_law_580 : decode code 580 = .ok (.ireturn, 1) := by decide +kernel
theorem d_W_law_581 : decode code 581 = .ok (.goto 208, 3) := by decide +kernel
theorem d_W_law_584 : decode code 584 = .ok (.aload_n 1, 1) := by decide +kernel
theorem d_W_law_585 : decode code 585 = .ok (.aload_n 0, 1) := by decide +kernel
theorem d_W_law_586 : decode code 586 = .ok (.iload 4, 2) := by decide +kernel
theorem d_W_law_588 : decode code 588 = .ok (.iconst 1, 1) := by decide +kernel
theorem d_W_law_589 : decode code 589 = .ok (.iadd, 1) := by decide +kernel
theorem d_W_law_590 : decode code 590 = .ok (.iaload, 1) := by decide +kernel
theorem d_W_law_591 : decode code 591 = .ok (.aload_n 3, 1) := by decide +kernel
theorem d_W_law_592 : decode code 592 = .ok (.invokestatic 89, 3) := by decide +kernel
theorem d_W_law_595 : decode code 595 = .ok (.istore 5, 2) := by decide +kernel
theorem d_W_law_597 : decode code 597 = .ok (.aload_n 2, 1) := by decide +kernel
theorem d_W_law_598 : decode code 598 = .ok (.aload_n 0, 1) := by decide +kernel
theorem d_W_law_599 : decode code 599 = .ok (.iload 4, 2) := by decide +kernel
theorem d_W_law_601 : decode code 601 = .ok (.iconst 1, 1) := by decide +kernel
theorem d_W_law_602 : decode code 602 = .ok (.iadd, 1) := by decide +kernel
theorem d_W_law_603 : decode code 603 = .ok (.iaload, 1) := by decide +kernel
theorem d_W_law_604 : decode code 604 = .ok (.invokevirtual 91, 3) := by decide +kernel
theorem d_W_law_607 : decode code 607 = .ok (.istore 6, 2) := by decide +kernel
theorem d_W_law_609 : decode code 609 = .ok (.aload_n 2, 1) := by decide +kernel
theorem d_W_law_610 : decode code 610 = .ok (.invokevirtual 62, 3) := by decide +kernel
theorem d_W_law_613 : decode code 613 = .ok (.iload 5, 2) := by decide +kernel
theorem d_W_law_615 : decode code 615 = .ok (.if_icmp .eq 5, 3) := by decide +kernel
theorem d_W_law_618 : decode code 618 = .ok (.iconst 0, 1) := by decide +kernel
theorem d_W_law_619 : decode code 619 = .ok (.ireturn, 1) := by decide +kernel
theorem d_W_law_620 : decode code 620 = .ok (.iload 5, 2) := by decide +kernel
theorem d_W_law_622 : decode code 622 = .ok (.ifCond .ne 15, 3) := by decide +kernel
theorem d_W_law_625 : decode code 625 = .ok (.aload_n 3, 1) := by decide +kernel
theorem d_W_law_626 : decode code 626 = .ok (.iconst 0, 1) := by decide +kernel
theorem d_W_law_627 : decode code 627 = .ok (.laload, 1) := by decide +kernel
theorem d_W_law_628 : decode code 628 = .ok (.iload 6, 2) := by decide +kernel
theorem d_W_law_630 : decode code 630 = .ok (.i2l, 1) := by decide +kernel
theorem d_W_law_631 : decode code 631 = .ok (.lcmp, 1) := by decide +kernel
theorem d_W_law_632 : decode code 632 = .ok (.ifCond .eq 5, 3) := by decide +kernel
theorem d_W_law_635 : decode code 635 = .ok (.iconst 0, 1) := by decide +kernel
theorem d_W_law_636 : decode code 636 = .ok (.ireturn, 1) := by decide +kernel
theorem d_W_law_637 : decode code 637 = .ok (.goto 152, 3) := by decide +kernel
theorem d_W_law_640 : decode code 640 = .ok (.aload_n 1, 1) := by decide +kernel
theorem d_W_law_641 : decode code 641 = .ok (.aload_n 0, 1) := by decide +kernel
theorem d_W_law_642 : decode code 642 = .ok (.iload 4, 2) := by decide +kernel
theorem d_W_law_644 : decode code 644 = .ok (.iconst 1, 1) := by decide +kernel
theorem d_W_law_645 : decode code 645 = .ok (.iadd, 1) := by decide +kernel
theorem d_W_law_646 : decode code 646 = .ok (.iaload, 1) := by decide +kernel
theorem d_W_law_647 : decode code 647 = .ok (.aload_n 0, 1) := by decide +kernel
theorem d_W_law_648 : decode code 648 = .ok (.iload 4, 2) := by decide +kernel
theorem d_W_law_650 : decode code 650 = .ok (.iconst 2, 1) := by decide +kernel
theorem d_W_law_651 : decode code 651 = .ok (.iadd, 1) := by decide +kernel
theorem d_W_law_652 : decode code 652 = .ok (.iaload, 1) := by decide +kernel
theorem d_W_law_653 : decode code 653 = .ok (.aload_n 3, 1) := by decide +kernel
theorem d_W_law_654 : decode code 654 = .ok (.invokestatic 92, 3) := by decide +kernel
theorem d_W_law_657 : decode code 657 = .ok (.istore 5, 2) := by decide +kernel
theorem d_W_law_659 : decode code 659 = .ok (.aload_n 2, 1) := by decide +kernel
theorem d_W_law_660 : decode code 660 = .ok (.aload_n 0, 1) := by decide +kernel
theorem d_W_law_661 : decode code 661 = .ok (.iload 4, 2) := by decide +kernel
theorem d_W_law_663 : decode code 663 = .ok (.iconst 1, 1) := by decide +kernel
theorem d_W_law_664 : decode code 664 = .ok (.iadd, 1) := by decide +kernel
theorem d_W_law_665 : decode code 665 = .ok (.iaload, 1) := by decide +kernel
theorem d_W_law_666 : decode code 666 = .ok (.aload_n 0, 1) := by decide +kernel
theorem d_W_law_667 : decode code 667 = .ok (.iload 4, 2) := by decide +kernel
theorem d_W_law_669 : decode code 669 = .ok (.iconst 2, 1) := by decide +kernel
theorem d_W_law_670 : decode code 670 = .ok (.iadd, 1) := by decide +kernel
theorem d_W_law_671 : decode code 671 = .ok (.iaload, 1) := by decide +kernel
theorem d_W_law_672 : decode code 672 = .ok (.invokevirtual 94, 3) := by decide +kernel
theorem d_W_law_675 : decode code 675 = .ok (.istore 6, 2) := by decide +kernel
theorem d_W_law_677 : decode code 677 = .ok (.aload_n 2, 1) := by decide +kernel
theorem d_W_law_678 : decode code 678 = .ok (.invokevirtual 62, 3) := by decide +kernel
theorem d_W_law_681 : decode code 681 = .ok (.iload 5, 2) := by decide +kernel
theorem d_W_law_683 : decode code 683 = .ok (.if_icmp .eq 5, 3) := by decide +kernel
theorem d_W_law_686 : decode code 686 = .ok (.iconst 0, 1) := by decide +kernel
theorem d_W_law_687 : decode code 687 = .ok (.ireturn, 1) := by decide +kernel
theorem d_W_law_688 : decode code 688 = .ok (.iload 5, 2) := by decide +kernel
theorem d_W_law_690 : decode code 690 = .ok (.ifCond .ne 15, 3) := by decide +kernel
theorem d_W_law_693 : decode code 693 = .ok (.aload_n 3, 1) := by decide +kernel
theorem d_W_law_694 : decode code 694 = .ok (.iconst 0, 1) := by decide +kernel
theorem d_W_law_695 : decode code 695 = .ok (.laload, 1) := by decide +kernel
theorem d_W_law_696 : decode code 696 = .ok (.iload 6, 2) := by decide +kernel
theorem d_W_law_698 : decode code 698 = .ok (.i2l, 1) := by decide +kernel
theorem d_W_law_699 : decode code 699 = .ok (.lcmp, 1) := by decide +kernel
theorem d_W_law_700 : decode code 700 = .ok (.ifCond .eq 5, 3) := by decide +kernel
theorem d_W_law_703 : decode code 703 = .ok (.iconst 0, 1) := by decide +kernel
theorem d_W_law_704 : decode code 704 = .ok (.ireturn, 1) := by decide +kernel
theorem d_W_law_705 : decode code 705 = .ok (.goto 84, 3) := by decide +kernel
theorem d_W_law_708 : decode code 708 = .ok (.aload_n 1, 1) := by decide +kernel
theorem d_W_law_709 : decode code 709 = .ok (.aload_n 0, 1) := by decide +kernel
theorem d_W_law_710 : decode code 710 = .ok (.iload 4, 2) := by decide +kernel
theorem d_W_law_712 : decode code 712 = .ok (.iconst 1, 1) := by decide +kernel
theorem d_W_law_713 : decode code 713 = .ok (.iadd, 1) := by decide +kernel
theorem d_W_law_714 : decode code 714 = .ok (.iaload, 1) := by decide +kernel
theorem d_W_law_715 : decode code 715 = .ok (.aload_n 3, 1) := by decide +kernel
theorem d_W_law_716 : decode code 716 = .ok (.invokestatic 95, 3) := by decide +kernel
theorem d_W_law_719 : decode code 719 = .ok (.istore 5, 2) := by decide +kernel
theorem d_W_law_721 : decode code 721 = .ok (.aload_n 2, 1) := by decide +kernel
theorem d_W_law_722 : decode code 722 = .ok (.aload_n 0, 1) := by decide +kernel
theorem d_W_law_723 : decode code 723 = .ok (.iload 4, 2) := by decide +kernel
theorem d_W_law_725 : decode code 725 = .ok (.iconst 1, 1) := by decide +kernel
theorem d_W_law_726 : decode code 726 = .ok (.iadd, 1) := by decide +kernel
theorem d_W_law_727 : decode code 727 = .ok (.iaload, 1) := by decide +kernel
theorem d_W_law_728 : decode code 728 = .ok (.invokevirtual 97, 3) := by decide +kernel
theorem d_W_law_731 : decode code 731 = .ok (.istore 6, 2) := by decide +kernel
theorem d_W_law_733 : decode code 733 = .ok (.aload_n 2, 1) := by decide +kernel
theorem d_W_law_734 : decode code 734 = .ok (.invokevirtual 62, 3) := by decide +kernel
theorem d_W_law_737 : decode code 737 = .ok (.iload 5, 2) := by decide +kernel
theorem d_W_law_739 : decode code 739 = .ok (.if_icmp .eq 5, 3) := by decide +kernel
theorem d_W_law_742 : decode code 742 = .ok (.iconst 0, 1) := by decide +kernel
theorem d_W_law_743 : decode code 743 = .ok (.ireturn, 1) := by decide +kernel
theorem d_W_law_744 : decode code 744 = .ok (.iload 5, 2) := by decide +kernel
theorem d_W_law_746 : decode code 746 = .ok (.ifCond .ne 15, 3) := by decide +kernel
theorem d_W_law_749 : decode code 749 = .ok (.aload_n 3, 1) := by decide +kernel
theorem d_W_law_750 : decode code 750 = .ok (.iconst 0, 1) := by decide +kernel
theorem d_W_law_751 : decode code 751 = .ok (.laload, 1) := by decide +kernel
theorem d_W_law_752 : decode code 752 = .ok (.iload 6, 2) := by decide +kernel
theorem d_W_law_754 : decode code 754 = .ok (.i2l, 1) := by decide +kernel
theorem d_W_law_755 : decode code 755 = .ok (.lcmp, 1) := by decide +kernel
theorem d_W_law_756 : decode code 756 = .ok (.ifCond .eq 5, 3) := by decide +kernel
theorem d_W_law_759 : decode code 759 = .ok (.iconst 0, 1) := by decide +kernel
theorem d_W_law_760 : decode code 760 = .ok (.ireturn, 1) := by decide +kernel
theorem d_W_law_761 : decode code 761 = .ok (.goto 28, 3) := by decide +kernel
theorem d_W_law_764 : decode code 764 = .ok (.aload_n 1, 1) := by decide +kernel
theorem d_W_law_765 : decode code 765 = .ok (.aload_n 0, 1) := by decide +kernel
theorem d_W_law_766 : decode code 766 = .ok (.iload 4, 2) := by decide +kernel
theorem d_W_law_768 : decode code 768 = .ok (.iconst 1, 1) := by decide +kernel
theorem d_W_law_769 : decode code 769 = .ok (.iadd, 1) := by decide +kernel
theorem d_W_law_770 : decode code 770 = .ok (.iaload, 1) := by decide +kernel
theorem d_W_law_771 : decode code 771 = .ok (.invokevirtual 98, 3) := by decide +kernel
theorem d_W_law_774 : decode code 774 = .ok (.aload_n 2, 1) := by decide +kernel
theorem d_W_law_775 : decode code 775 = .ok (.aload_n 0, 1) := by decide +kernel
theorem d_W_law_776 : decode code 776 = .ok (.iload 4, 2) := by decide +kernel
theorem d_W_law_778 : decode code 778 = .ok (.iconst 1, 1) := by decide +kernel
theorem d_W_law_779 : decode code 779 = .ok (.iadd, 1) := by decide +kernel
theorem d_W_law_780 : decode code 780 = .ok (.iaload, 1) := by decide +kernel
theorem d_W_law_781 : decode code 781 = .ok (.invokevirtual 101, 3) := by decide +kernel
theorem d_W_law_784 : decode code 784 = .ok (.if_icmp .eq 5, 3) := by decide +kernel
theorem d_W_law_787 : decode code 787 = .ok (.iconst 0, 1) := by decide +kernel
theorem d_W_law_788 : decode code 788 = .ok (.ireturn, 1) := by decide +kernel
theorem d_W_law_789 : decode code 789 = .ok (.iinc 4 4, 3) := by decide +kernel
theorem d_W_law_792 : decode code 792 = .ok (.goto (-769), 3) := by decide +kernel
theorem d_W_law_795 : decode code 795 = .ok (.iconst 1, 1) := by decide +kernel
theorem d_W_law_796 : decode code 796 = .ok (.ireturn, 1) := by decide +kernel
def cd_W_law_0 (b : Nat) (xs : List Int32) : Nat → g_T := g_tab [(0, tr_new 9 9 [.null, .null, .null, .null, .null, .int 0, .int 0, .int 0, .int 0] 3), (3, tr_dup 4), (4, tr_cI J_T_init 0 7), (7, tr_ast 1 8), (8, tr_new 10 40 [.int 0, .int 0, .null, .int 0, .null, .int 0, .int 0, .int 0, .null, .null, .null, .int 0, .int 0, .int 0, .int 0, .int 0, .null, .int 0, .int 0, .int 0, .null, .int 0, .int 0, .int 0, .int 0, .int 0, .null, .null, .null, .null, .null, .null, .null, .null, .null, .null, .int 0, .int 0, .int 0, .int 0] 11), (11, tr_dup 12), (12, tr_cI J_Z_init 0 15), (15, tr_ast 2 16), (16, tr_cst (.int (1)) 17), (17, tr_nal 19), (19, tr_ast 3 20), (20, tr_cst (.int (0)) 21), (21, tr_ist 4 23), (23, tr_ild 4 25), (25, tr_ald 0 26), (26, tr_sn b xs 27)]
set_option maxRecDepth 100000 in
theorem ok_W_law_0 (b : Nat) (xs : List Int32) : ∀ pc, g_S (J_W_law b xs) pc (cd_W_law_0 b xs pc) := g_tab_ok <|
  List.forall_mem_cons.mpr ⟨so_new ft_T d_W_law_0 (rfl : vwCl[9]? = some (R_T, F_T, 9)) i_T w_1_19 w_1_20 w_1_1 tk_T (by decide) rfl,
  List.forall_mem_cons.mpr ⟨so_dup d_W_law_3 rfl,
  List.forall_mem_cons.mpr ⟨so_cI g_good d_W_law_4 ⟨w_1_23, (Nat.le_of_ble_eq_true rfl), (Nat.le_of_ble_eq_true rfl), w_1_1, ⟨by decide, by decide⟩, by decide +kernel⟩ rfl rfl w_1_21 w_1_22 rfl,
  List.forall_mem_cons.mpr ⟨so_astore_n d_W_law_7 rfl (Nat.le_of_ble_eq_true rfl) rfl,
  List.forall_mem_cons.mpr ⟨so_new ft_Z d_W_law_8 (rfl : vwCl[10]? = some (R_Z, F_Z, 40)) i_Z w_4_92 w_4_93 w_1_12 tk_Z (by decide) rfl,
  List.forall_mem_cons.mpr ⟨so_dup d_W_law_11 rfl,
  List.forall_mem_cons.mpr ⟨so_cI g_good d_W_law_12 ⟨w_4_96, (Nat.le_of_ble_eq_true rfl), (Nat.le_of_ble_eq_true rfl), w_1_12, ⟨by decide, by decide⟩, by decide +kernel⟩ rfl rfl w_4_94 w_4_95 rfl,
  List.forall_mem_cons.mpr ⟨so_astore_n d_W_law_15 rfl (Nat.le_of_ble_eq_true rfl) rfl,
  List.forall_mem_cons.mpr ⟨so_iconst (by decide) d_W_law_16 rfl,
  List.forall_mem_cons.mpr ⟨so_newal d_W_law_17 w_5_132 rfl,
  List.forall_mem_cons.mpr ⟨so_astore_n d_W_law_19 rfl (Nat.le_of_ble_eq_true rfl) rfl,
  List.forall_mem_cons.mpr ⟨so_iconst (by decide) d_W_law_20 rfl,
  List.forall_mem_cons.mpr ⟨so_istore d_W_law_21 (Nat.le_of_ble_eq_true rfl) rfl,
  List.forall_mem_cons.mpr ⟨so_iload d_W_law_23 rfl,
  List.forall_mem_cons.mpr ⟨so_aload_n d_W_law_25 rfl rfl,
  List.forall_mem_cons.mpr ⟨so_sn rfl d_W_law_26 rfl,
  fun _ h => absurd h List.not_mem_nil⟩⟩⟩⟩⟩⟩⟩⟩⟩⟩⟩⟩⟩⟩⟩⟩
def cd_W_law_1 (b : Nat) (xs : List Int32) : Nat → g_T := g_tab [(27, tr_cst (.int (4)) 28), (28, tr_ii (fun x y => x - y) 29), (29, tr_if2 (fun x y => y < x) 795 32), (32, tr_ald 0 33), (33, tr_ild 4 35), (35, tr_sl b xs 36), (36, tr_cst (.int (15)) 38), (38, tr_ii (fun x y => x &&& y) 39), (39, tr_sw [(0, 100), (1, 156), (2, 236), (3, 280), (4, 336), (5, 404), (6, 460), (7, 516), (8, 584), (9, 640), (10, 708), (11, 764)] 789), (100, tr_ald 1 101), (101, tr_ald 0 102), (102, tr_ild 4 104), (104, tr_cst (.int (1)) 105), (105, tr_ii (fun x y => x + y) 106), (106, tr_sl b xs 107), (107, tr_ald 3 108)]
set_option maxRecDepth 100000 in
theorem ok_W_law_1 (b : Nat) (xs : List Int32) : ∀ pc, g_S (J_W_law b xs) pc (cd_W_law_1 b xs pc) := g_tab_ok <|
  List.forall_mem_cons.mpr ⟨so_iconst (by decide) d_W_law_27 rfl,
  List.forall_mem_cons.mpr ⟨so_isub d_W_law_28 rfl,
  List.forall_mem_cons.mpr ⟨so_icmp_gt d_W_law_29 (by decide) rfl,
  List.forall_mem_cons.mpr ⟨so_aload_n d_W_law_32 rfl rfl,
  List.forall_mem_cons.mpr ⟨so_iload d_W_law_33 rfl,
  List.forall_mem_cons.mpr ⟨so_sl rfl d_W_law_35 rfl,
  List.forall_mem_cons.mpr ⟨so_bipush (by decide) d_W_law_36 rfl,
  List.forall_mem_cons.mpr ⟨so_iand d_W_law_38 rfl,
  List.forall_mem_cons.mpr ⟨so_tsw d_W_law_39 (by decide) (by decide) (by decide) (by decide),
  List.forall_mem_cons.mpr ⟨so_aload_n d_W_law_100 rfl rfl,
  List.forall_mem_cons.mpr ⟨so_aload_n d_W_law_101 rfl rfl,
  List.forall_mem_cons.mpr ⟨so_iload d_W_law_102 rfl,
  List.forall_mem_cons.mpr ⟨so_iconst (by decide) d_W_law_104 rfl,
  List.forall_mem_cons.mpr ⟨so_iadd d_W_law_105 rfl,
  List.forall_mem_cons.mpr ⟨so_sl rfl d_W_law_106 rfl,
  List.forall_mem_cons.mpr ⟨so_aload_n d_W_law_107 rfl rfl,
  fun _ h => absurd h List.not_mem_nil⟩⟩⟩⟩⟩⟩⟩⟩⟩⟩⟩⟩⟩⟩⟩⟩
def cd_W_law_2 (b : Nat) (xs : List Int32) : Nat → g_T := g_tab [(108, tr_cS J_W_thread 3 111), (111, tr_ist 5 113), (113, tr_ald 2 114), (114, tr_ald 0 115), (115, tr_ild 4 117), (117, tr_cst (.int (1)) 118), (118, tr_ii (fun x y => x + y) 119), (119, tr_sl b xs 120), (120, tr_cV J_Z_thread 10 1 123), (123, tr_ist 6 125), (125, tr_ald 2 126), (126, tr_cV J_Z_thrown 10 0 129), (129, tr_ild 5 131), (131, tr_if2 (fun x y => x = y) 136 134), (134, tr_cst (.int (0)) 135), (135, tr_rz)]
set_option maxRecDepth 100000 in
theorem ok_W_law_2 (b : Nat) (xs : List Int32) : ∀ pc, g_S (J_W_law b xs) pc (cd_W_law_2 b xs pc) := g_tab_ok <|
  List.forall_mem_cons.mpr ⟨so_cSW d_W_law_108 ⟨w_2_61, (Nat.le_of_ble_eq_true rfl), (Nat.le_of_ble_eq_true rfl), w_1_0, ⟨by decide, by decide⟩, by decide +kernel⟩ w_2_59 w_2_60 rfl,
  List.forall_mem_cons.mpr ⟨so_istore d_W_law_111 (Nat.le_of_ble_eq_true rfl) rfl,
  List.forall_mem_cons.mpr ⟨so_aload_n d_W_law_113 rfl rfl,
  List.forall_mem_cons.mpr ⟨so_aload_n d_W_law_114 rfl rfl,
  List.forall_mem_cons.mpr ⟨so_iload d_W_law_115 rfl,
  List.forall_mem_cons.mpr ⟨so_iconst (by decide) d_W_law_117 rfl,
  List.forall_mem_cons.mpr ⟨so_iadd d_W_law_118 rfl,
  List.forall_mem_cons.mpr ⟨so_sl rfl d_W_law_119 rfl,
  List.forall_mem_cons.mpr ⟨so_cV g_good d_W_law_120 ⟨w_4_226, (Nat.le_of_ble_eq_true rfl), (Nat.le_of_ble_eq_true rfl), w_1_12, ⟨by decide, by decide⟩, by decide +kernel⟩ (rfl : vwCl[10]? = some (R_Z, F_Z, 40)) w_4_223 w_4_224 w_4_225 rfl,
  List.forall_mem_cons.mpr ⟨so_istore d_W_law_123 (Nat.le_of_ble_eq_true rfl) rfl,
  List.forall_mem_cons.mpr ⟨so_aload_n d_W_law_125 rfl rfl,
  List.forall_mem_cons.mpr ⟨so_cV g_good d_W_law_126 ⟨w_4_222, (Nat.le_of_ble_eq_true rfl), (Nat.le_of_ble_eq_true rfl), w_1_12, ⟨by decide, by decide⟩, by decide +kernel⟩ (rfl : vwCl[10]? = some (R_Z, F_Z, 40)) w_4_219 w_4_220 w_4_221 rfl,
  List.forall_mem_cons.mpr ⟨so_iload d_W_law_129 rfl,
  List.forall_mem_cons.mpr ⟨so_icmp_eq d_W_law_131 (by decide) rfl,
  List.forall_mem_cons.mpr ⟨so_iconst (by decide) d_W_law_134 rfl,
  List.forall_mem_cons.mpr ⟨so_zret d_W_law_135 rfl,
  fun _ h => absurd h List.not_mem_nil⟩⟩⟩⟩⟩⟩⟩⟩⟩⟩⟩⟩⟩⟩⟩⟩
def cd_W_law_3 (b : Nat) (xs : List Int32) : Nat → g_T := g_tab [(136, tr_ild 5 138), (138, tr_if1 (fun x => ¬ x = 0) 153 141), (141, tr_ald 3 142), (142, tr_cst (.int (0)) 143), (143, tr_lal 144), (144, tr_ild 6 146), (146, tr_i2l 147), (147, tr_lcmp 148), (148, tr_if1 (fun x => x = 0) 153 151), (151, tr_cst (.int (0)) 152), (152, tr_rz), (153, tr_goto 789), (156, tr_ald 1 157), (157, tr_ald 0 158), (158, tr_ild 4 160), (160, tr_cst (.int (1)) 161)]
set_option maxRecDepth 100000 in
theorem ok_W_law_3 (b : Nat) (xs : List Int32) : ∀ pc, g_S (J_W_law b xs) pc (cd_W_law_3 b xs pc) := g_tab_ok <|
  List.forall_mem_cons.mpr ⟨so_iload d_W_law_136 rfl,
  List.forall_mem_cons.mpr ⟨so_if_ne d_W_law_138 (by decide) rfl,
  List.forall_mem_cons.mpr ⟨so_aload_n d_W_law_141 rfl rfl,
  List.forall_mem_cons.mpr ⟨so_iconst (by decide) d_W_law_142 rfl,
  List.forall_mem_cons.mpr ⟨so_laload d_W_law_143 rfl,
  List.forall_mem_cons.mpr ⟨so_iload d_W_law_144 rfl,
  List.forall_mem_cons.mpr ⟨so_i2l d_W_law_146 rfl,
  List.forall_mem_cons.mpr ⟨so_lcmp d_W_law_147 rfl,
  List.forall_mem_cons.mpr ⟨so_if_eq d_W_law_148 (by decide) rfl,
  List.forall_mem_cons.mpr ⟨so_iconst (by decide) d_W_law_151 rfl,
  List.forall_mem_cons.mpr ⟨so_zret d_W_law_152 rfl,
  List.forall_mem_cons.mpr ⟨so_goto d_W_law_153 (by decide),
  List.forall_mem_cons.mpr ⟨so_aload_n d_W_law_156 rfl rfl,
  List.forall_mem_cons.mpr ⟨so_aload_n d_W_law_157 rfl rfl,
  List.forall_mem_cons.mpr ⟨so_iload d_W_law_158 rfl,
  List.forall_mem_cons.mpr ⟨so_iconst (by decide) d_W_law_160 rfl,
  fun _ h => absurd h List.not_mem_nil⟩⟩⟩⟩⟩⟩⟩⟩⟩⟩⟩⟩⟩⟩⟩⟩
def cd_W_law_4 (b : Nat) (xs : List Int32) : Nat → g_T := g_tab [(161, tr_ii (fun x y => x + y) 162), (162, tr_sl b xs 163), (163, tr_ald 0 164), (164, tr_ild 4 166), (166, tr_cst (.int (2)) 167), (167, tr_ii (fun x y => x + y) 168), (168, tr_sl b xs 169), (169, tr_ald 0 170), (170, tr_ild 4 172), (172, tr_cst (.int (3)) 173), (173, tr_ii (fun x y => x + y) 174), (174, tr_sl b xs 175), (175, tr_ald 3 176), (176, tr_cS J_W_row 5 179), (179, tr_ist 5 181), (181, tr_ald 2 182)]
set_option maxRecDepth 100000 in
theorem ok_W_law_4 (b : Nat) (xs : List Int32) : ∀ pc, g_S (J_W_law b xs) pc (cd_W_law_4 b xs pc) := g_tab_ok <|
  List.forall_mem_cons.mpr ⟨so_iadd d_W_law_161 rfl,
  List.forall_mem_cons.mpr ⟨so_sl rfl d_W_law_162 rfl,
  List.forall_mem_cons.mpr ⟨so_aload_n d_W_law_163 rfl rfl,
  List.forall_mem_cons.mpr ⟨so_iload d_W_law_164 rfl,
  List.forall_mem_cons.mpr ⟨so_iconst (by decide) d_W_law_166 rfl,
  List.forall_mem_cons.mpr ⟨so_iadd d_W_law_167 rfl,
  List.forall_mem_cons.mpr ⟨so_sl rfl d_W_law_168 rfl,
  List.forall_mem_cons.mpr ⟨so_aload_n d_W_law_169 rfl rfl,
  List.forall_mem_cons.mpr ⟨so_iload d_W_law_170 rfl,
  List.forall_mem_cons.mpr ⟨so_iconst (by decide) d_W_law_172 rfl,
  List.forall_mem_cons.mpr ⟨so_iadd d_W_law_173 rfl,
  List.forall_mem_cons.mpr ⟨so_sl rfl d_W_law_174 rfl,
  List.forall_mem_cons.mpr ⟨so_aload_n d_W_law_175 rfl rfl,
  List.forall_mem_cons.mpr ⟨so_cSW d_W_law_176 ⟨w_2_137, (Nat.le_of_ble_eq_true rfl), (Nat.le_of_ble_eq_true rfl), w_1_0, ⟨by decide, by decide⟩, by decide +kernel⟩ w_2_135 w_2_136 rfl,
  List.forall_mem_cons.mpr ⟨so_istore d_W_law_179 (Nat.le_of_ble_eq_true rfl) rfl,
  List.forall_mem_cons.mpr ⟨so_aload_n d_W_law_181 rfl rfl,
  fun _ h => absurd h List.not_mem_nil⟩⟩⟩⟩⟩⟩⟩⟩⟩⟩⟩⟩⟩⟩⟩⟩
def cd_W_law_5 (b : Nat) (xs : List Int32) : Nat → g_T := g_tab [(182, tr_ald 0 183), (183, tr_ild 4 185), (185, tr_cst (.int (1)) 186), (186, tr_ii (fun x y => x + y) 187), (187, tr_sl b xs 188), (188, tr_ald 0 189), (189, tr_ild 4 191), (191, tr_cst (.int (2)) 192), (192, tr_ii (fun x y => x + y) 193), (193, tr_sl b xs 194), (194, tr_ald 0 195), (195, tr_ild 4 197), (197, tr_cst (.int (3)) 198), (198, tr_ii (fun x y => x + y) 199), (199, tr_sl b xs 200), (200, tr_cV J_Z_row 10 3 203)]
set_option maxRecDepth 100000 in
theorem ok_W_law_5 (b : Nat) (xs : List Int32) : ∀ pc, g_S (J_W_law b xs) pc (cd_W_law_5 b xs pc) := g_tab_ok <|
  List.forall_mem_cons.mpr ⟨so_aload_n d_W_law_182 rfl rfl,
  List.forall_mem_cons.mpr ⟨so_iload d_W_law_183 rfl,
  List.forall_mem_cons.mpr ⟨so_iconst (by decide) d_W_law_185 rfl,
  List.forall_mem_cons.mpr ⟨so_iadd d_W_law_186 rfl,
  List.forall_mem_cons.mpr ⟨so_sl rfl d_W_law_187 rfl,
  List.forall_mem_cons.mpr ⟨so_aload_n d_W_law_188 rfl rfl,
  List.forall_mem_cons.mpr ⟨so_iload d_W_law_189 rfl,
  List.forall_mem_cons.mpr ⟨so_iconst (by decide) d_W_law_191 rfl,
  List.forall_mem_cons.mpr ⟨so_iadd d_W_law_192 rfl,
  List.forall_mem_cons.mpr ⟨so_sl rfl d_W_law_193 rfl,
  List.forall_mem_cons.mpr ⟨so_aload_n d_W_law_194 rfl rfl,
  List.forall_mem_cons.mpr ⟨so_iload d_W_law_195 rfl,
  List.forall_mem_cons.mpr ⟨so_iconst (by decide) d_W_law_197 rfl,
  List.forall_mem_cons.mpr ⟨so_iadd d_W_law_198 rfl,
  List.forall_mem_cons.mpr ⟨so_sl rfl d_W_law_199 rfl,
  List.forall_mem_cons.mpr ⟨so_cV g_good d_W_law_200 ⟨w_4_238, (Nat.le_of_ble_eq_true rfl), (Nat.le_of_ble_eq_true rfl), w_1_12, ⟨by decide, by decide⟩, by decide +kernel⟩ (rfl : vwCl[10]? = some (R_Z, F_Z, 40)) w_4_235 w_4_236 w_4_237 rfl,
  fun _ h => absurd h List.not_mem_nil⟩⟩⟩⟩⟩⟩⟩⟩⟩⟩⟩⟩⟩⟩⟩⟩
def cd_W_law_6 (b : Nat) (xs : List Int32) : Nat → g_T := g_tab [(203, tr_ist 6 205), (205, tr_ald 2 206), (206, tr_cV J_Z_thrown 10 0 209), (209, tr_ild 5 211), (211, tr_if2 (fun x y => x = y) 216 214), (214, tr_cst (.int (0)) 215), (215, tr_rz), (216, tr_ild 5 218), (218, tr_if1 (fun x => ¬ x = 0) 233 221), (221, tr_ald 3 222), (222, tr_cst (.int (0)) 223), (223, tr_lal 224), (224, tr_ild 6 226), (226, tr_i2l 227), (227, tr_lcmp 228), (228, tr_if1 (fun x => x = 0) 233 231)]
set_option maxRecDepth 100000 in
theorem ok_W_law_6 (b : Nat) (xs : List Int32) : ∀ pc, g_S (J_W_law b xs) pc (cd_W_law_6 b xs pc) := g_tab_ok <|
  List.forall_mem_cons.mpr ⟨so_istore d_W_law_203 (Nat.le_of_ble_eq_true rfl) rfl,
  List.forall_mem_cons.mpr ⟨so_aload_n d_W_law_205 rfl rfl,
  List.forall_mem_cons.mpr ⟨so_cV g_good d_W_law_206 ⟨w_4_222, (Nat.le_of_ble_eq_true rfl), (Nat.le_of_ble_eq_true rfl), w_1_12, ⟨by decide, by decide⟩, by decide +kernel⟩ (rfl : vwCl[10]? = some (R_Z, F_Z, 40)) w_4_219 w_4_220 w_4_221 rfl,
  List.forall_mem_cons.mpr ⟨so_iload d_W_law_209 rfl,
  List.forall_mem_cons.mpr ⟨so_icmp_eq d_W_law_211 (by decide) rfl,
  List.forall_mem_cons.mpr ⟨so_iconst (by decide) d_W_law_214 rfl,
  List.forall_mem_cons.mpr ⟨so_zret d_W_law_215 rfl,
  List.forall_mem_cons.mpr ⟨so_iload d_W_law_216 rfl,
  List.forall_mem_cons.mpr ⟨so_if_ne d_W_law_218 (by decide) rfl,
  List.forall_mem_cons.mpr ⟨so_aload_n d_W_law_221 rfl rfl,
  List.forall_mem_cons.mpr ⟨so_iconst (by decide) d_W_law_222 rfl,
  List.forall_mem_cons.mpr ⟨so_laload d_W_law_223 rfl,
  List.forall_mem_cons.mpr ⟨so_iload d_W_law_224 rfl,
  List.forall_mem_cons.mpr ⟨so_i2l d_W_law_226 rfl,
  List.forall_mem_cons.mpr ⟨so_lcmp d_W_law_227 rfl,
  List.forall_mem_cons.mpr ⟨so_if_eq d_W_law_228 (by decide) rfl,
  fun _ h => absurd h List.not_mem_nil⟩⟩⟩⟩⟩⟩⟩⟩⟩⟩⟩⟩⟩⟩⟩⟩
def cd_W_law_7 (b : Nat) (xs : List Int32) : Nat → g_T := g_tab [(231, tr_cst (.int (0)) 232), (232, tr_rz), (233, tr_goto 789), (236, tr_ald 1 237), (237, tr_ald 3 238), (238, tr_cS J_W_mark 2 241), (241, tr_ist 5 243), (243, tr_ald 2 244), (244, tr_cV J_Z_mark 10 0 247), (247, tr_ist 6 249), (249, tr_ald 2 250), (250, tr_cV J_Z_thrown 10 0 253), (253, tr_ild 5 255), (255, tr_if2 (fun x y => x = y) 260 258), (258, tr_cst (.int (0)) 259), (259, tr_rz)]
set_option maxRecDepth 100000 in
theorem ok_W_law_7 (b : Nat) (xs : List Int32) : ∀ pc, g_S (J_W_law b xs) pc (cd_W_law_7 b xs pc) := g_tab_ok <|
  List.forall_mem_cons.mpr ⟨so_iconst (by decide) d_W_law_231 rfl,
  List.forall_mem_cons.mpr ⟨so_zret d_W_law_232 rfl,
  List.forall_mem_cons.mpr ⟨so_goto d_W_law_233 (by decide),
  List.forall_mem_cons.mpr ⟨so_aload_n d_W_law_236 rfl rfl,
  List.forall_mem_cons.mpr ⟨so_aload_n d_W_law_237 rfl rfl,
  List.forall_mem_cons.mpr ⟨so_cSW d_W_law_238 ⟨w_3_92, (Nat.le_of_ble_eq_true rfl), (Nat.le_of_ble_eq_true rfl), w_1_0, ⟨by decide, by decide⟩, by decide +kernel⟩ w_3_90 w_3_91 rfl,
  List.forall_mem_cons.mpr ⟨so_istore d_W_law_241 (Nat.le_of_ble_eq_true rfl) rfl,
  List.forall_mem_cons.mpr ⟨so_aload_n d_W_law_243 rfl rfl,
  List.forall_mem_cons.mpr ⟨so_cV g_good d_W_law_244 ⟨w_5_49, (Nat.le_of_ble_eq_true rfl), (Nat.le_of_ble_eq_true rfl), w_1_12, ⟨by decide, by decide⟩, by decide +kernel⟩ (rfl : vwCl[10]? = some (R_Z, F_Z, 40)) w_5_46 w_5_47 w_5_48 rfl,
  List.forall_mem_cons.mpr ⟨so_istore d_W_law_247 (Nat.le_of_ble_eq_true rfl) rfl,
  List.forall_mem_cons.mpr ⟨so_aload_n d_W_law_249 rfl rfl,
  List.forall_mem_cons.mpr ⟨so_cV g_good d_W_law_250 ⟨w_4_222, (Nat.le_of_ble_eq_true rfl), (Nat.le_of_ble_eq_true rfl), w_1_12, ⟨by decide, by decide⟩, by decide +kernel⟩ (rfl : vwCl[10]? = some (R_Z, F_Z, 40)) w_4_219 w_4_220 w_4_221 rfl,
  List.forall_mem_cons.mpr ⟨so_iload d_W_law_253 rfl,
  List.forall_mem_cons.mpr ⟨so_icmp_eq d_W_law_255 (by decide) rfl,
  List.forall_mem_cons.mpr ⟨so_iconst (by decide) d_W_law_258 rfl,
  List.forall_mem_cons.mpr ⟨so_zret d_W_law_259 rfl,
  fun _ h => absurd h List.not_mem_nil⟩⟩⟩⟩⟩⟩⟩⟩⟩⟩⟩⟩⟩⟩⟩⟩
def cd_W_law_8 (b : Nat) (xs : List Int32) : Nat → g_T := g_tab [(260, tr_ild 5 262), (262, tr_if1 (fun x => ¬ x = 0) 277 265), (265, tr_ald 3 266), (266, tr_cst (.int (0)) 267), (267, tr_lal 268), (268, tr_ild 6 270), (270, tr_i2l 271), (271, tr_lcmp 272), (272, tr_if1 (fun x => x = 0) 277 275), (275, tr_cst (.int (0)) 276), (276, tr_rz), (277, tr_goto 789), (280, tr_ald 1 281), (281, tr_ald 0 282), (282, tr_ild 4 284), (284, tr_cst (.int (1)) 285)]
set_option maxRecDepth 100000 in
theorem ok_W_law_8 (b : Nat) (xs : List Int32) : ∀ pc, g_S (J_W_law b xs) pc (cd_W_law_8 b xs pc) := g_tab_ok <|
  List.forall_mem_cons.mpr ⟨so_iload d_W_law_260 rfl,
  List.forall_mem_cons.mpr ⟨so_if_ne d_W_law_262 (by decide) rfl,
  List.forall_mem_cons.mpr ⟨so_aload_n d_W_law_265 rfl rfl,
  List.forall_mem_cons.mpr ⟨so_iconst (by decide) d_W_law_266 rfl,
  List.forall_mem_cons.mpr ⟨so_laload d_W_law_267 rfl,
  List.forall_mem_cons.mpr ⟨so_iload d_W_law_268 rfl,
  List.forall_mem_cons.mpr ⟨so_i2l d_W_law_270 rfl,
  List.forall_mem_cons.mpr ⟨so_lcmp d_W_law_271 rfl,
  List.forall_mem_cons.mpr ⟨so_if_eq d_W_law_272 (by decide) rfl,
  List.forall_mem_cons.mpr ⟨so_iconst (by decide) d_W_law_275 rfl,
  List.forall_mem_cons.mpr ⟨so_zret d_W_law_276 rfl,
  List.forall_mem_cons.mpr ⟨so_goto d_W_law_277 (by decide),
  List.forall_mem_cons.mpr ⟨so_aload_n d_W_law_280 rfl rfl,
  List.forall_mem_cons.mpr ⟨so_aload_n d_W_law_281 rfl rfl,
  List.forall_mem_cons.mpr ⟨so_iload d_W_law_282 rfl,
  List.forall_mem_cons.mpr ⟨so_iconst (by decide) d_W_law_284 rfl,
  fun _ h => absurd h List.not_mem_nil⟩⟩⟩⟩⟩⟩⟩⟩⟩⟩⟩⟩⟩⟩⟩⟩
def cd_W_law_9 (b : Nat) (xs : List Int32) : Nat → g_T := g_tab [(285, tr_ii (fun x y => x + y) 286), (286, tr_sl b xs 287), (287, tr_ald 3 288), (288, tr_cS J_W_byteAt 3 291), (291, tr_ist 5 293), (293, tr_ald 2 294), (294, tr_ald 0 295), (295, tr_ild 4 297), (297, tr_cst (.int (1)) 298), (298, tr_ii (fun x y => x + y) 299), (299, tr_sl b xs 300), (300, tr_cV J_Z_byteAt 10 1 303), (303, tr_ist 6 305), (305, tr_ald 2 306), (306, tr_cV J_Z_thrown 10 0 309), (309, tr_ild 5 311)]
set_option maxRecDepth 100000 in
theorem ok_W_law_9 (b : Nat) (xs : List Int32) : ∀ pc, g_S (J_W_law b xs) pc (cd_W_law_9 b xs pc) := g_tab_ok <|
  List.forall_mem_cons.mpr ⟨so_iadd d_W_law_285 rfl,
  List.forall_mem_cons.mpr ⟨so_sl rfl d_W_law_286 rfl,
  List.forall_mem_cons.mpr ⟨so_aload_n d_W_law_287 rfl rfl,
  List.forall_mem_cons.mpr ⟨so_cSW d_W_law_288 ⟨w_3_99, (Nat.le_of_ble_eq_true rfl), (Nat.le_of_ble_eq_true rfl), w_1_0, ⟨by decide, by decide⟩, by decide +kernel⟩ w_3_97 w_3_98 rfl,
  List.forall_mem_cons.mpr ⟨so_istore d_W_law_291 (Nat.le_of_ble_eq_true rfl) rfl,
  List.forall_mem_cons.mpr ⟨so_aload_n d_W_law_293 rfl rfl,
  List.forall_mem_cons.mpr ⟨so_aload_n d_W_law_294 rfl rfl,
  List.forall_mem_cons.mpr ⟨so_iload d_W_law_295 rfl,
  List.forall_mem_cons.mpr ⟨so_iconst (by decide) d_W_law_297 rfl,
  List.forall_mem_cons.mpr ⟨so_iadd d_W_law_298 rfl,
  List.forall_mem_cons.mpr ⟨so_sl rfl d_W_law_299 rfl,
  List.forall_mem_cons.mpr ⟨so_cV g_good d_W_law_300 ⟨w_5_53, (Nat.le_of_ble_eq_true rfl), (Nat.le_of_ble_eq_true rfl), w_1_12, ⟨by decide, by decide⟩, by decide +kernel⟩ (rfl : vwCl[10]? = some (R_Z, F_Z, 40)) w_5_50 w_5_51 w_5_52 rfl,
  List.forall_mem_cons.mpr ⟨so_istore d_W_law_303 (Nat.le_of_ble_eq_true rfl) rfl,
  List.forall_mem_cons.mpr ⟨so_aload_n d_W_law_305 rfl rfl,
  List.forall_mem_cons.mpr ⟨so_cV g_good d_W_law_306 ⟨w_4_222, (Nat.le_of_ble_eq_true rfl), (Nat.le_of_ble_eq_true rfl), w_1_12, ⟨by decide, by decide⟩, by decide +kernel⟩ (rfl : vwCl[10]? = some (R_Z, F_Z, 40)) w_4_219 w_4_220 w_4_221 rfl,
  List.forall_mem_cons.mpr ⟨so_iload d_W_law_309 rfl,
  fun _ h => absurd h List.not_mem_nil⟩⟩⟩⟩⟩⟩⟩⟩⟩⟩⟩⟩⟩⟩⟩⟩
def cd_W_law_10 (b : Nat) (xs : List Int32) : Nat → g_T := g_tab [(311, tr_if2 (fun x y => x = y) 316 314), (314, tr_cst (.int (0)) 315), (315, tr_rz), (316, tr_ild 5 318), (318, tr_if1 (fun x => ¬ x = 0) 333 321), (321, tr_ald 3 322), (322, tr_cst (.int (0)) 323), (323, tr_lal 324), (324, tr_ild 6 326), (326, tr_i2l 327), (327, tr_lcmp 328), (328, tr_if1 (fun x => x = 0) 333 331), (331, tr_cst (.int (0)) 332), (332, tr_rz), (333, tr_goto 789), (336, tr_ald 1 337)]
set_option maxRecDepth 100000 in
theorem ok_W_law_10 (b : Nat) (xs : List Int32) : ∀ pc, g_S (J_W_law b xs) pc (cd_W_law_10 b xs pc) := g_tab_ok <|
  List.forall_mem_cons.mpr ⟨so_icmp_eq d_W_law_311 (by decide) rfl,
  List.forall_mem_cons.mpr ⟨so_iconst (by decide) d_W_law_314 rfl,
  List.forall_mem_cons.mpr ⟨so_zret d_W_law_315 rfl,
  List.forall_mem_cons.mpr ⟨so_iload d_W_law_316 rfl,
  List.forall_mem_cons.mpr ⟨so_if_ne d_W_law_318 (by decide) rfl,
  List.forall_mem_cons.mpr ⟨so_aload_n d_W_law_321 rfl rfl,
  List.forall_mem_cons.mpr ⟨so_iconst (by decide) d_W_law_322 rfl,
  List.forall_mem_cons.mpr ⟨so_laload d_W_law_323 rfl,
  List.forall_mem_cons.mpr ⟨so_iload d_W_law_324 rfl,
  List.forall_mem_cons.mpr ⟨so_i2l d_W_law_326 rfl,
  List.forall_mem_cons.mpr ⟨so_lcmp d_W_law_327 rfl,
  List.forall_mem_cons.mpr ⟨so_if_eq d_W_law_328 (by decide) rfl,
  List.forall_mem_cons.mpr ⟨so_iconst (by decide) d_W_law_331 rfl,
  List.forall_mem_cons.mpr ⟨so_zret d_W_law_332 rfl,
  List.forall_mem_cons.mpr ⟨so_goto d_W_law_333 (by decide),
  List.forall_mem_cons.mpr ⟨so_aload_n d_W_law_336 rfl rfl,
  fun _ h => absurd h List.not_mem_nil⟩⟩⟩⟩⟩⟩⟩⟩⟩⟩⟩⟩⟩⟩⟩⟩
def cd_W_law_11 (b : Nat) (xs : List Int32) : Nat → g_T := g_tab [(337, tr_ald 0 338), (338, tr_ild 4 340), (340, tr_cst (.int (1)) 341), (341, tr_ii (fun x y => x + y) 342), (342, tr_sl b xs 343), (343, tr_ald 0 344), (344, tr_ild 4 346), (346, tr_cst (.int (2)) 347), (347, tr_ii (fun x y => x + y) 348), (348, tr_sl b xs 349), (349, tr_ald 3 350), (350, tr_cS J_W_flip 4 353), (353, tr_ist 5 355), (355, tr_ald 2 356), (356, tr_ald 0 357), (357, tr_ild 4 359)]
set_option maxRecDepth 100000 in
theorem ok_W_law_11 (b : Nat) (xs : List Int32) : ∀ pc, g_S (J_W_law b xs) pc (cd_W_law_11 b xs pc) := g_tab_ok <|
  List.forall_mem_cons.mpr ⟨so_aload_n d_W_law_337 rfl rfl,
  List.forall_mem_cons.mpr ⟨so_iload d_W_law_338 rfl,
  List.forall_mem_cons.mpr ⟨so_iconst (by decide) d_W_law_340 rfl,
  List.forall_mem_cons.mpr ⟨so_iadd d_W_law_341 rfl,
  List.forall_mem_cons.mpr ⟨so_sl rfl d_W_law_342 rfl,
  List.forall_mem_cons.mpr ⟨so_aload_n d_W_law_343 rfl rfl,
  List.forall_mem_cons.mpr ⟨so_iload d_W_law_344 rfl,
  List.forall_mem_cons.mpr ⟨so_iconst (by decide) d_W_law_346 rfl,
  List.forall_mem_cons.mpr ⟨so_iadd d_W_law_347 rfl,
  List.forall_mem_cons.mpr ⟨so_sl rfl d_W_law_348 rfl,
  List.forall_mem_cons.mpr ⟨so_aload_n d_W_law_349 rfl rfl,
  List.forall_mem_cons.mpr ⟨so_cSW d_W_law_350 ⟨w_3_111, (Nat.le_of_ble_eq_true rfl), (Nat.le_of_ble_eq_true rfl), w_1_0, ⟨by decide, by decide⟩, by decide +kernel⟩ w_3_109 w_3_110 rfl,
  List.forall_mem_cons.mpr ⟨so_istore d_W_law_353 (Nat.le_of_ble_eq_true rfl) rfl,
  List.forall_mem_cons.mpr ⟨so_aload_n d_W_law_355 rfl rfl,
  List.forall_mem_cons.mpr ⟨so_aload_n d_W_law_356 rfl rfl,
  List.forall_mem_cons.mpr ⟨so_iload d_W_law_357 rfl,
  fun _ h => absurd h List.not_mem_nil⟩⟩⟩⟩⟩⟩⟩⟩⟩⟩⟩⟩⟩⟩⟩⟩
def cd_W_law_12 (b : Nat) (xs : List Int32) : Nat → g_T := g_tab [(359, tr_cst (.int (1)) 360), (360, tr_ii (fun x y => x + y) 361), (361, tr_sl b xs 362), (362, tr_ald 0 363), (363, tr_ild 4 365), (365, tr_cst (.int (2)) 366), (366, tr_ii (fun x y => x + y) 367), (367, tr_sl b xs 368), (368, tr_cV J_Z_flip 10 2 371), (371, tr_ist 6 373), (373, tr_ald 2 374), (374, tr_cV J_Z_thrown 10 0 377), (377, tr_ild 5 379), (379, tr_if2 (fun x y => x = y) 384 382), (382, tr_cst (.int (0)) 383), (383, tr_rz)]
set_option maxRecDepth 100000 in
theorem ok_W_law_12 (b : Nat) (xs : List Int32) : ∀ pc, g_S (J_W_law b xs) pc (cd_W_law_12 b xs pc) := g_tab_ok <|
  List.forall_mem_cons.mpr ⟨so_iconst (by decide) d_W_law_359 rfl,
  List.forall_mem_cons.mpr ⟨so_iadd d_W_law_360 rfl,
  List.forall_mem_cons.mpr ⟨so_sl rfl d_W_law_361 rfl,
  List.forall_mem_cons.mpr ⟨so_aload_n d_W_law_362 rfl rfl,
  List.forall_mem_cons.mpr ⟨so_iload d_W_law_363 rfl,
  List.forall_mem_cons.mpr ⟨so_iconst (by decide) d_W_law_365 rfl,
  List.forall_mem_cons.mpr ⟨so_iadd d_W_law_366 rfl,
  List.forall_mem_cons.mpr ⟨so_sl rfl d_W_law_367 rfl,
  List.forall_mem_cons.mpr ⟨so_cV g_good d_W_law_368 ⟨w_5_57, (Nat.le_of_ble_eq_true rfl), (Nat.le_of_ble_eq_true rfl), w_1_12, ⟨by decide, by decide⟩, by decide +kernel⟩ (rfl : vwCl[10]? = some (R_Z, F_Z, 40)) w_5_54 w_5_55 w_5_56 rfl,
  List.forall_mem_cons.mpr ⟨so_istore d_W_law_371 (Nat.le_of_ble_eq_true rfl) rfl,
  List.forall_mem_cons.mpr ⟨so_aload_n d_W_law_373 rfl rfl,
  List.forall_mem_cons.mpr ⟨so_cV g_good d_W_law_374 ⟨w_4_222, (Nat.le_of_ble_eq_true rfl), (Nat.le_of_ble_eq_true rfl), w_1_12, ⟨by decide, by decide⟩, by decide +kernel⟩ (rfl : vwCl[10]? = some (R_Z, F_Z, 40)) w_4_219 w_4_220 w_4_221 rfl,
  List.forall_mem_cons.mpr ⟨so_iload d_W_law_377 rfl,
  List.forall_mem_cons.mpr ⟨so_icmp_eq d_W_law_379 (by decide) rfl,
  List.forall_mem_cons.mpr ⟨so_iconst (by decide) d_W_law_382 rfl,
  List.forall_mem_cons.mpr ⟨so_zret d_W_law_383 rfl,
  fun _ h => absurd h List.not_mem_nil⟩⟩⟩⟩⟩⟩⟩⟩⟩⟩⟩⟩⟩⟩⟩⟩
def cd_W_law_13 (b : Nat) (xs : List Int32) : Nat → g_T := g_tab [(384, tr_ild 5 386), (386, tr_if1 (fun x => ¬ x = 0) 401 389), (389, tr_ald 3 390), (390, tr_cst (.int (0)) 391), (391, tr_lal 392), (392, tr_ild 6 394), (394, tr_i2l 395), (395, tr_lcmp 396), (396, tr_if1 (fun x => x = 0) 401 399), (399, tr_cst (.int (0)) 400), (400, tr_rz), (401, tr_goto 789), (404, tr_ald 1 405), (405, tr_ald 0 406), (406, tr_ild 4 408), (408, tr_cst (.int (1)) 409)]
set_option maxRecDepth 100000 in
theorem ok_W_law_13 (b : Nat) (xs : List Int32) : ∀ pc, g_S (J_W_law b xs) pc (cd_W_law_13 b xs pc) := g_tab_ok <|
  List.forall_mem_cons.mpr ⟨so_iload d_W_law_384 rfl,
  List.forall_mem_cons.mpr ⟨so_if_ne d_W_law_386 (by decide) rfl,
  List.forall_mem_cons.mpr ⟨so_aload_n d_W_law_389 rfl rfl,
  List.forall_mem_cons.mpr ⟨so_iconst (by decide) d_W_law_390 rfl,
  List.forall_mem_cons.mpr ⟨so_laload d_W_law_391 rfl,
  List.forall_mem_cons.mpr ⟨so_iload d_W_law_392 rfl,
  List.forall_mem_cons.mpr ⟨so_i2l d_W_law_394 rfl,
  List.forall_mem_cons.mpr ⟨so_lcmp d_W_law_395 rfl,
  List.forall_mem_cons.mpr ⟨so_if_eq d_W_law_396 (by decide) rfl,
  List.forall_mem_cons.mpr ⟨so_iconst (by decide) d_W_law_399 rfl,
  List.forall_mem_cons.mpr ⟨so_zret d_W_law_400 rfl,
  List.forall_mem_cons.mpr ⟨so_goto d_W_law_401 (by decide),
  List.forall_mem_cons.mpr ⟨so_aload_n d_W_law_404 rfl rfl,
  List.forall_mem_cons.mpr ⟨so_aload_n d_W_law_405 rfl rfl,
  List.forall_mem_cons.mpr ⟨so_iload d_W_law_406 rfl,
  List.forall_mem_cons.mpr ⟨so_iconst (by decide) d_W_law_408 rfl,
  fun _ h => absurd h List.not_mem_nil⟩⟩⟩⟩⟩⟩⟩⟩⟩⟩⟩⟩⟩⟩⟩⟩
def cd_W_law_14 (b : Nat) (xs : List Int32) : Nat → g_T := g_tab [(409, tr_ii (fun x y => x + y) 410), (410, tr_sl b xs 411), (411, tr_ald 3 412), (412, tr_cS J_W_put 3 415), (415, tr_ist 5 417), (417, tr_ald 2 418), (418, tr_ald 0 419), (419, tr_ild 4 421), (421, tr_cst (.int (1)) 422), (422, tr_ii (fun x y => x + y) 423), (423, tr_sl b xs 424), (424, tr_cV J_Z_put 10 1 427), (427, tr_ist 6 429), (429, tr_ald 2 430), (430, tr_cV J_Z_thrown 10 0 433), (433, tr_ild 5 435)]
set_option maxRecDepth 100000 in
theorem ok_W_law_14 (b : Nat) (xs : List Int32) : ∀ pc, g_S (J_W_law b xs) pc (cd_W_law_14 b xs pc) := g_tab_ok <|
  List.forall_mem_cons.mpr ⟨so_iadd d_W_law_409 rfl,
  List.forall_mem_cons.mpr ⟨so_sl rfl d_W_law_410 rfl,
  List.forall_mem_cons.mpr ⟨so_aload_n d_W_law_411 rfl rfl,
  List.forall_mem_cons.mpr ⟨so_cSW d_W_law_412 ⟨w_3_119, (Nat.le_of_ble_eq_true rfl), (Nat.le_of_ble_eq_true rfl), w_1_0, ⟨by decide, by decide⟩, by decide +kernel⟩ w_3_117 w_3_118 rfl,
  List.forall_mem_cons.mpr ⟨so_istore d_W_law_415 (Nat.le_of_ble_eq_true rfl) rfl,
  List.forall_mem_cons.mpr ⟨so_aload_n d_W_law_417 rfl rfl,
  List.forall_mem_cons.mpr ⟨so_aload_n d_W_law_418 rfl rfl,
  List.forall_mem_cons.mpr ⟨so_iload d_W_law_419 rfl,
  List.forall_mem_cons.mpr ⟨so_iconst (by decide) d_W_law_421 rfl,
  List.forall_mem_cons.mpr ⟨so_iadd d_W_law_422 rfl,
  List.forall_mem_cons.mpr ⟨so_sl rfl d_W_law_423 rfl,
  List.forall_mem_cons.mpr ⟨so_cV g_good d_W_law_424 ⟨w_5_62, (Nat.le_of_ble_eq_true rfl), (Nat.le_of_ble_eq_true rfl), w_1_12, ⟨by decide, by decide⟩, by decide +kernel⟩ (rfl : vwCl[10]? = some (R_Z, F_Z, 40)) w_5_59 w_5_60 w_5_61 rfl,
  List.forall_mem_cons.mpr ⟨so_istore d_W_law_427 (Nat.le_of_ble_eq_true rfl) rfl,
  List.forall_mem_cons.mpr ⟨so_aload_n d_W_law_429 rfl rfl,
  List.forall_mem_cons.mpr ⟨so_cV g_good d_W_law_430 ⟨w_4_222, (Nat.le_of_ble_eq_true rfl), (Nat.le_of_ble_eq_true rfl), w_1_12, ⟨by decide, by decide⟩, by decide +kernel⟩ (rfl : vwCl[10]? = some (R_Z, F_Z, 40)) w_4_219 w_4_220 w_4_221 rfl,
  List.forall_mem_cons.mpr ⟨so_iload d_W_law_433 rfl,
  fun _ h => absurd h List.not_mem_nil⟩⟩⟩⟩⟩⟩⟩⟩⟩⟩⟩⟩⟩⟩⟩⟩
def cd_W_law_15 (b : Nat) (xs : List Int32) : Nat → g_T := g_tab [(435, tr_if2 (fun x y => x = y) 440 438), (438, tr_cst (.int (0)) 439), (439, tr_rz), (440, tr_ild 5 442), (442, tr_if1 (fun x => ¬ x = 0) 457 445), (445, tr_ald 3 446), (446, tr_cst (.int (0)) 447), (447, tr_lal 448), (448, tr_ild 6 450), (450, tr_i2l 451), (451, tr_lcmp 452), (452, tr_if1 (fun x => x = 0) 457 455), (455, tr_cst (.int (0)) 456), (456, tr_rz), (457, tr_goto 789), (460, tr_ald 1 461)]
set_option maxRecDepth 100000 in
theorem ok_W_law_15 (b : Nat) (xs : List Int32) : ∀ pc, g_S (J_W_law b xs) pc (cd_W_law_15 b xs pc) := g_tab_ok <|
  List.forall_mem_cons.mpr ⟨so_icmp_eq d_W_law_435 (by decide) rfl,
  List.forall_mem_cons.mpr ⟨so_iconst (by decide) d_W_law_438 rfl,
  List.forall_mem_cons.mpr ⟨so_zret d_W_law_439 rfl,
  List.forall_mem_cons.mpr ⟨so_iload d_W_law_440 rfl,
  List.forall_mem_cons.mpr ⟨so_if_ne d_W_law_442 (by decide) rfl,
  List.forall_mem_cons.mpr ⟨so_aload_n d_W_law_445 rfl rfl,
  List.forall_mem_cons.mpr ⟨so_iconst (by decide) d_W_law_446 rfl,
  List.forall_mem_cons.mpr ⟨so_laload d_W_law_447 rfl,
  List.forall_mem_cons.mpr ⟨so_iload d_W_law_448 rfl,
  List.forall_mem_cons.mpr ⟨so_i2l d_W_law_450 rfl,
  List.forall_mem_cons.mpr ⟨so_lcmp d_W_law_451 rfl,
  List.forall_mem_cons.mpr ⟨so_if_eq d_W_law_452 (by decide) rfl,
  List.forall_mem_cons.mpr ⟨so_iconst (by decide) d_W_law_455 rfl,
  List.forall_mem_cons.mpr ⟨so_zret d_W_law_456 rfl,
  List.forall_mem_cons.mpr ⟨so_goto d_W_law_457 (by decide),
  List.forall_mem_cons.mpr ⟨so_aload_n d_W_law_460 rfl rfl,
  fun _ h => absurd h List.not_mem_nil⟩⟩⟩⟩⟩⟩⟩⟩⟩⟩⟩⟩⟩⟩⟩⟩
def cd_W_law_16 (b : Nat) (xs : List Int32) : Nat → g_T := g_tab [(461, tr_ald 0 462), (462, tr_ild 4 464), (464, tr_cst (.int (1)) 465), (465, tr_ii (fun x y => x + y) 466), (466, tr_sl b xs 467), (467, tr_ald 3 468), (468, tr_cS J_W_cut 3 471), (471, tr_ist 5 473), (473, tr_ald 2 474), (474, tr_ald 0 475), (475, tr_ild 4 477), (477, tr_cst (.int (1)) 478), (478, tr_ii (fun x y => x + y) 479), (479, tr_sl b xs 480), (480, tr_cV J_Z_cut 10 1 483), (483, tr_ist 6 485)]
set_option maxRecDepth 100000 in
theorem ok_W_law_16 (b : Nat) (xs : List Int32) : ∀ pc, g_S (J_W_law b xs) pc (cd_W_law_16 b xs pc) := g_tab_ok <|
  List.forall_mem_cons.mpr ⟨so_aload_n d_W_law_461 rfl rfl,
  List.forall_mem_cons.mpr ⟨so_iload d_W_law_462 rfl,
  List.forall_mem_cons.mpr ⟨so_iconst (by decide) d_W_law_464 rfl,
  List.forall_mem_cons.mpr ⟨so_iadd d_W_law_465 rfl,
  List.forall_mem_cons.mpr ⟨so_sl rfl d_W_law_466 rfl,
  List.forall_mem_cons.mpr ⟨so_aload_n d_W_law_467 rfl rfl,
  List.forall_mem_cons.mpr ⟨so_cSW d_W_law_468 ⟨w_3_128, (Nat.le_of_ble_eq_true rfl), (Nat.le_of_ble_eq_true rfl), w_1_0, ⟨by decide, by decide⟩, by decide +kernel⟩ w_3_126 w_3_127 rfl,
  List.forall_mem_cons.mpr ⟨so_istore d_W_law_471 (Nat.le_of_ble_eq_true rfl) rfl,
  List.forall_mem_cons.mpr ⟨so_aload_n d_W_law_473 rfl rfl,
  List.forall_mem_cons.mpr ⟨so_aload_n d_W_law_474 rfl rfl,
  List.forall_mem_cons.mpr ⟨so_iload d_W_law_475 rfl,
  List.forall_mem_cons.mpr ⟨so_iconst (by decide) d_W_law_477 rfl,
  List.forall_mem_cons.mpr ⟨so_iadd d_W_law_478 rfl,
  List.forall_mem_cons.mpr ⟨so_sl rfl d_W_law_479 rfl,
  List.forall_mem_cons.mpr ⟨so_cV g_good d_W_law_480 ⟨w_5_66, (Nat.le_of_ble_eq_true rfl), (Nat.le_of_ble_eq_true rfl), w_1_12, ⟨by decide, by decide⟩, by decide +kernel⟩ (rfl : vwCl[10]? = some (R_Z, F_Z, 40)) w_5_63 w_5_64 w_5_65 rfl,
  List.forall_mem_cons.mpr ⟨so_istore d_W_law_483 (Nat.le_of_ble_eq_true rfl) rfl,
  fun _ h => absurd h List.not_mem_nil⟩⟩⟩⟩⟩⟩⟩⟩⟩⟩⟩⟩⟩⟩⟩⟩
def cd_W_law_17 (b : Nat) (xs : List Int32) : Nat → g_T := g_tab [(485, tr_ald 2 486), (486, tr_cV J_Z_thrown 10 0 489), (489, tr_ild 5 491), (491, tr_if2 (fun x y => x = y) 496 494), (494, tr_cst (.int (0)) 495), (495, tr_rz), (496, tr_ild 5 498), (498, tr_if1 (fun x => ¬ x = 0) 513 501), (501, tr_ald 3 502), (502, tr_cst (.int (0)) 503), (503, tr_lal 504), (504, tr_ild 6 506), (506, tr_i2l 507), (507, tr_lcmp 508), (508, tr_if1 (fun x => x = 0) 513 511), (511, tr_cst (.int (0)) 512)]
set_option maxRecDepth 100000 in
theorem ok_W_law_17 (b : Nat) (xs : List Int32) : ∀ pc, g_S (J_W_law b xs) pc (cd_W_law_17 b xs pc) := g_tab_ok <|
  List.forall_mem_cons.mpr ⟨so_aload_n d_W_law_485 rfl rfl,
  List.forall_mem_cons.mpr ⟨so_cV g_good d_W_law_486 ⟨w_4_222, (Nat.le_of_ble_eq_true rfl), (Nat.le_of_ble_eq_true rfl), w_1_12, ⟨by decide, by decide⟩, by decide +kernel⟩ (rfl : vwCl[10]? = some (R_Z, F_Z, 40)) w_4_219 w_4_220 w_4_221 rfl,
  List.forall_mem_cons.mpr ⟨so_iload d_W_law_489 rfl,
  List.forall_mem_cons.mpr ⟨so_icmp_eq d_W_law_491 (by decide) rfl,
  List.forall_mem_cons.mpr ⟨so_iconst (by decide) d_W_law_494 rfl,
  List.forall_mem_cons.mpr ⟨so_zret d_W_law_495 rfl,
  List.forall_mem_cons.mpr ⟨so_iload d_W_law_496 rfl,
  List.forall_mem_cons.mpr ⟨so_if_ne d_W_law_498 (by decide) rfl,
  List.forall_mem_cons.mpr ⟨so_aload_n d_W_law_501 rfl rfl,
  List.forall_mem_cons.mpr ⟨so_iconst (by decide) d_W_law_502 rfl,
  List.forall_mem_cons.mpr ⟨so_laload d_W_law_503 rfl,
  List.forall_mem_cons.mpr ⟨so_iload d_W_law_504 rfl,
  List.forall_mem_cons.mpr ⟨so_i2l d_W_law_506 rfl,
  List.forall_mem_cons.mpr ⟨so_lcmp d_W_law_507 rfl,
  List.forall_mem_cons.mpr ⟨so_if_eq d_W_law_508 (by decide) rfl,
  List.forall_mem_cons.mpr ⟨so_iconst (by decide) d_W_law_511 rfl,
  fun _ h => absurd h List.not_mem_nil⟩⟩⟩⟩⟩⟩⟩⟩⟩⟩⟩⟩⟩⟩⟩⟩
def cd_W_law_18 (b : Nat) (xs : List Int32) : Nat → g_T := g_tab [(512, tr_rz), (513, tr_goto 789), (516, tr_ald 1 517), (517, tr_ald 0 518), (518, tr_ild 4 520), (520, tr_cst (.int (1)) 521), (521, tr_ii (fun x y => x + y) 522), (522, tr_sl b xs 523), (523, tr_ald 0 524), (524, tr_ild 4 526), (526, tr_cst (.int (2)) 527), (527, tr_ii (fun x y => x + y) 528), (528, tr_sl b xs 529), (529, tr_ald 3 530), (530, tr_cS J_W_choose 4 533), (533, tr_ist 5 535)]
set_option maxRecDepth 100000 in
theorem ok_W_law_18 (b : Nat) (xs : List Int32) : ∀ pc, g_S (J_W_law b xs) pc (cd_W_law_18 b xs pc) := g_tab_ok <|
  List.forall_mem_cons.mpr ⟨so_zret d_W_law_512 rfl,
  List.forall_mem_cons.mpr ⟨so_goto d_W_law_513 (by decide),
  List.forall_mem_cons.mpr ⟨so_aload_n d_W_law_516 rfl rfl,
  List.forall_mem_cons.mpr ⟨so_aload_n d_W_law_517 rfl rfl,
  List.forall_mem_cons.mpr ⟨so_iload d_W_law_518 rfl,
  List.forall_mem_cons.mpr ⟨so_iconst (by decide) d_W_law_520 rfl,
  List.forall_mem_cons.mpr ⟨so_iadd d_W_law_521 rfl,
  List.forall_mem_cons.mpr ⟨so_sl rfl d_W_law_522 rfl,
  List.forall_mem_cons.mpr ⟨so_aload_n d_W_law_523 rfl rfl,
  List.forall_mem_cons.mpr ⟨so_iload d_W_law_524 rfl,
  List.forall_mem_cons.mpr ⟨so_iconst (by decide) d_W_law_526 rfl,
  List.forall_mem_cons.mpr ⟨so_iadd d_W_law_527 rfl,
  List.forall_mem_cons.mpr ⟨so_sl rfl d_W_law_528 rfl,
  List.forall_mem_cons.mpr ⟨so_aload_n d_W_law_529 rfl rfl,
  List.forall_mem_cons.mpr ⟨so_cSW d_W_law_530 ⟨w_3_137, (Nat.le_of_ble_eq_true rfl), (Nat.le_of_ble_eq_true rfl), w_1_0, ⟨by decide, by decide⟩, by decide +kernel⟩ w_3_135 w_3_136 rfl,
  List.forall_mem_cons.mpr ⟨so_istore d_W_law_533 (Nat.le_of_ble_eq_true rfl) rfl,
  fun _ h => absurd h List.not_mem_nil⟩⟩⟩⟩⟩⟩⟩⟩⟩⟩⟩⟩⟩⟩⟩⟩
def cd_W_law_19 (b : Nat) (xs : List Int32) : Nat → g_T := g_tab [(535, tr_ald 2 536), (536, tr_ald 0 537), (537, tr_ild 4 539), (539, tr_cst (.int (1)) 540), (540, tr_ii (fun x y => x + y) 541), (541, tr_sl b xs 542), (542, tr_ald 0 543), (543, tr_ild 4 545), (545, tr_cst (.int (2)) 546), (546, tr_ii (fun x y => x + y) 547), (547, tr_sl b xs 548), (548, tr_cV J_Z_choose 10 2 551), (551, tr_ist 6 553), (553, tr_ald 2 554), (554, tr_cV J_Z_thrown 10 0 557), (557, tr_ild 5 559)]
set_option maxRecDepth 100000 in
theorem ok_W_law_19 (b : Nat) (xs : List Int32) : ∀ pc, g_S (J_W_law b xs) pc (cd_W_law_19 b xs pc) := g_tab_ok <|
  List.forall_mem_cons.mpr ⟨so_aload_n d_W_law_535 rfl rfl,
  List.forall_mem_cons.mpr ⟨so_aload_n d_W_law_536 rfl rfl,
  List.forall_mem_cons.mpr ⟨so_iload d_W_law_537 rfl,
  List.forall_mem_cons.mpr ⟨so_iconst (by decide) d_W_law_539 rfl,
  List.forall_mem_cons.mpr ⟨so_iadd d_W_law_540 rfl,
  List.forall_mem_cons.mpr ⟨so_sl rfl d_W_law_541 rfl,
  List.forall_mem_cons.mpr ⟨so_aload_n d_W_law_542 rfl rfl,
  List.forall_mem_cons.mpr ⟨so_iload d_W_law_543 rfl,
  List.forall_mem_cons.mpr ⟨so_iconst (by decide) d_W_law_545 rfl,
  List.forall_mem_cons.mpr ⟨so_iadd d_W_law_546 rfl,
  List.forall_mem_cons.mpr ⟨so_sl rfl d_W_law_547 rfl,
  List.forall_mem_cons.mpr ⟨so_cV g_good d_W_law_548 ⟨w_5_70, (Nat.le_of_ble_eq_true rfl), (Nat.le_of_ble_eq_true rfl), w_1_12, ⟨by decide, by decide⟩, by decide +kernel⟩ (rfl : vwCl[10]? = some (R_Z, F_Z, 40)) w_5_67 w_5_68 w_5_69 rfl,
  List.forall_mem_cons.mpr ⟨so_istore d_W_law_551 (Nat.le_of_ble_eq_true rfl) rfl,
  List.forall_mem_cons.mpr ⟨so_aload_n d_W_law_553 rfl rfl,
  List.forall_mem_cons.mpr ⟨so_cV g_good d_W_law_554 ⟨w_4_222, (Nat.le_of_ble_eq_true rfl), (Nat.le_of_ble_eq_true rfl), w_1_12, ⟨by decide, by decide⟩, by decide +kernel⟩ (rfl : vwCl[10]? = some (R_Z, F_Z, 40)) w_4_219 w_4_220 w_4_221 rfl,
  List.forall_mem_cons.mpr ⟨so_iload d_W_law_557 rfl,
  fun _ h => absurd h List.not_mem_nil⟩⟩⟩⟩⟩⟩⟩⟩⟩⟩⟩⟩⟩⟩⟩⟩
def cd_W_law_20 (b : Nat) (xs : List Int32) : Nat → g_T := g_tab [(559, tr_if2 (fun x y => x = y) 564 562), (562, tr_cst (.int (0)) 563), (563, tr_rz), (564, tr_ild 5 566), (566, tr_if1 (fun x => ¬ x = 0) 581 569), (569, tr_ald 3 570), (570, tr_cst (.int (0)) 571), (571, tr_lal 572), (572, tr_ild 6 574), (574, tr_i2l 575), (575, tr_lcmp 576), (576, tr_if1 (fun x => x = 0) 581 579), (579, tr_cst (.int (0)) 580), (580, tr_rz), (581, tr_goto 789), (584, tr_ald 1 585)]
set_option maxRecDepth 100000 in
theorem ok_W_law_20 (b : Nat) (xs : List Int32) : ∀ pc, g_S (J_W_law b xs) pc (cd_W_law_20 b xs pc) := g_tab_ok <|
  List.forall_mem_cons.mpr ⟨so_icmp_eq d_W_law_559 (by decide) rfl,
  List.forall_mem_cons.mpr ⟨so_iconst (by decide) d_W_law_562 rfl,
  List.forall_mem_cons.mpr ⟨so_zret d_W_law_563 rfl,
  List.forall_mem_cons.mpr ⟨so_iload d_W_law_564 rfl,
  List.forall_mem_cons.mpr ⟨so_if_ne d_W_law_566 (by decide) rfl,
  List.forall_mem_cons.mpr ⟨so_aload_n d_W_law_569 rfl rfl,
  List.forall_mem_cons.mpr ⟨so_iconst (by decide) d_W_law_570 rfl,
  List.forall_mem_cons.mpr ⟨so_laload d_W_law_571 rfl,
  List.forall_mem_cons.mpr ⟨so_iload d_W_law_572 rfl,
  List.forall_mem_cons.mpr ⟨so_i2l d_W_law_574 rfl,
  List.forall_mem_cons.mpr ⟨so_lcmp d_W_law_575 rfl,
  List.forall_mem_cons.mpr ⟨so_if_eq d_W_law_576 (by decide) rfl,
  List.forall_mem_cons.mpr ⟨so_iconst (by decide) d_W_law_579 rfl,
  List.forall_mem_cons.mpr ⟨so_zret d_W_law_580 rfl,
  List.forall_mem_cons.mpr ⟨so_goto d_W_law_581 (by decide),
  List.forall_mem_cons.mpr ⟨so_aload_n d_W_law_584 rfl rfl,
  fun _ h => absurd h List.not_mem_nil⟩⟩⟩⟩⟩⟩⟩⟩⟩⟩⟩⟩⟩⟩⟩⟩
def cd_W_law_21 (b : Nat) (xs : List Int32) : Nat → g_T := g_tab [(585, tr_ald 0 586), (586, tr_ild 4 588), (588, tr_cst (.int (1)) 589), (589, tr_ii (fun x y => x + y) 590), (590, tr_sl b xs 591), (591, tr_ald 3 592), (592, tr_cS J_W_read 3 595), (595, tr_ist 5 597), (597, tr_ald 2 598), (598, tr_ald 0 599), (599, tr_ild 4 601), (601, tr_cst (.int (1)) 602), (602, tr_ii (fun x y => x + y) 603), (603, tr_sl b xs 604), (604, tr_cV J_Z_read 10 1 607), (607, tr_ist 6 609)]
set_option maxRecDepth 100000 in
theorem ok_W_law_21 (b : Nat) (xs : List Int32) : ∀ pc, g_S (J_W_law b xs) pc (cd_W_law_21 b xs pc) := g_tab_ok <|
  List.forall_mem_cons.mpr ⟨so_aload_n d_W_law_585 rfl rfl,
  List.forall_mem_cons.mpr ⟨so_iload d_W_law_586 rfl,
  List.forall_mem_cons.mpr ⟨so_iconst (by decide) d_W_law_588 rfl,
  List.forall_mem_cons.mpr ⟨so_iadd d_W_law_589 rfl,
  List.forall_mem_cons.mpr ⟨so_sl rfl d_W_law_590 rfl,
  List.forall_mem_cons.mpr ⟨so_aload_n d_W_law_591 rfl rfl,
  List.forall_mem_cons.mpr ⟨so_cSW d_W_law_592 ⟨w_3_145, (Nat.le_of_ble_eq_true rfl), (Nat.le_of_ble_eq_true rfl), w_1_0, ⟨by decide, by decide⟩, by decide +kernel⟩ w_3_143 w_3_144 rfl,
  List.forall_mem_cons.mpr ⟨so_istore d_W_law_595 (Nat.le_of_ble_eq_true rfl) rfl,
  List.forall_mem_cons.mpr ⟨so_aload_n d_W_law_597 rfl rfl,
  List.forall_mem_cons.mpr ⟨so_aload_n d_W_law_598 rfl rfl,
  List.forall_mem_cons.mpr ⟨so_iload d_W_law_599 rfl,
  List.forall_mem_cons.mpr ⟨so_iconst (by decide) d_W_law_601 rfl,
  List.forall_mem_cons.mpr ⟨so_iadd d_W_law_602 rfl,
  List.forall_mem_cons.mpr ⟨so_sl rfl d_W_law_603 rfl,
  List.forall_mem_cons.mpr ⟨so_cV g_good d_W_law_604 ⟨w_5_76, (Nat.le_of_ble_eq_true rfl), (Nat.le_of_ble_eq_true rfl), w_1_12, ⟨by decide, by decide⟩, by decide +kernel⟩ (rfl : vwCl[10]? = some (R_Z, F_Z, 40)) w_5_73 w_5_74 w_5_75 rfl,
  List.forall_mem_cons.mpr ⟨so_istore d_W_law_607 (Nat.le_of_ble_eq_true rfl) rfl,
  fun _ h => absurd h List.not_mem_nil⟩⟩⟩⟩⟩⟩⟩⟩⟩⟩⟩⟩⟩⟩⟩⟩
def cd_W_law_22 (b : Nat) (xs : List Int32) : Nat → g_T := g_tab [(609, tr_ald 2 610), (610, tr_cV J_Z_thrown 10 0 613), (613, tr_ild 5 615), (615, tr_if2 (fun x y => x = y) 620 618), (618, tr_cst (.int (0)) 619), (619, tr_rz), (620, tr_ild 5 622), (622, tr_if1 (fun x => ¬ x = 0) 637 625), (625, tr_ald 3 626), (626, tr_cst (.int (0)) 627), (627, tr_lal 628), (628, tr_ild 6 630), (630, tr_i2l 631), (631, tr_lcmp 632), (632, tr_if1 (fun x => x = 0) 637 635), (635, tr_cst (.int (0)) 636)]
set_option maxRecDepth 100000 in
theorem ok_W_law_22 (b : Nat) (xs : List Int32) : ∀ pc, g_S (J_W_law b xs) pc (cd_W_law_22 b xs pc) := g_tab_ok <|
  List.forall_mem_cons.mpr ⟨so_aload_n d_W_law_609 rfl rfl,
  List.forall_mem_cons.mpr ⟨so_cV g_good d_W_law_610 ⟨w_4_222, (Nat.le_of_ble_eq_true rfl), (Nat.le_of_ble_eq_true rfl), w_1_12, ⟨by decide, by decide⟩, by decide +kernel⟩ (rfl : vwCl[10]? = some (R_Z, F_Z, 40)) w_4_219 w_4_220 w_4_221 rfl,
  List.forall_mem_cons.mpr ⟨so_iload d_W_law_613 rfl,
  List.forall_mem_cons.mpr ⟨so_icmp_eq d_W_law_615 (by decide) rfl,
  List.forall_mem_cons.mpr ⟨so_iconst (by decide) d_W_law_618 rfl,
  List.forall_mem_cons.mpr ⟨so_zret d_W_law_619 rfl,
  List.forall_mem_cons.mpr ⟨so_iload d_W_law_620 rfl,
  List.forall_mem_cons.mpr ⟨so_if_ne d_W_law_622 (by decide) rfl,
  List.forall_mem_cons.mpr ⟨so_aload_n d_W_law_625 rfl rfl,
  List.forall_mem_cons.mpr ⟨so_iconst (by decide) d_W_law_626 rfl,
  List.forall_mem_cons.mpr ⟨so_laload d_W_law_627 rfl,
  List.forall_mem_cons.mpr ⟨so_iload d_W_law_628 rfl,
  List.forall_mem_cons.mpr ⟨so_i2l d_W_law_630 rfl,
  List.forall_mem_cons.mpr ⟨so_lcmp d_W_law_631 rfl,
  List.forall_mem_cons.mpr ⟨so_if_eq d_W_law_632 (by decide) rfl,
  List.forall_mem_cons.mpr ⟨so_iconst (by decide) d_W_law_635 rfl,
  fun _ h => absurd h List.not_mem_nil⟩⟩⟩⟩⟩⟩⟩⟩⟩⟩⟩⟩⟩⟩⟩⟩
def cd_W_law_23 (b : Nat) (xs : List Int32) : Nat → g_T := g_tab [(636, tr_rz), (637, tr_goto 789), (640, tr_ald 1 641), (641, tr_ald 0 642), (642, tr_ild 4 644), (644, tr_cst (.int (1)) 645), (645, tr_ii (fun x y => x + y) 646), (646, tr_sl b xs 647), (647, tr_ald 0 648), (648, tr_ild 4 650), (650, tr_cst (.int (2)) 651), (651, tr_ii (fun x y => x + y) 652), (652, tr_sl b xs 653), (653, tr_ald 3 654), (654, tr_cS J_W_kept 4 657), (657, tr_ist 5 659)]
set_option maxRecDepth 100000 in
theorem ok_W_law_23 (b : Nat) (xs : List Int32) : ∀ pc, g_S (J_W_law b xs) pc (cd_W_law_23 b xs pc) := g_tab_ok <|
  List.forall_mem_cons.mpr ⟨so_zret d_W_law_636 rfl,
  List.forall_mem_cons.mpr ⟨so_goto d_W_law_637 (by decide),
  List.forall_mem_cons.mpr ⟨so_aload_n d_W_law_640 rfl rfl,
  List.forall_mem_cons.mpr ⟨so_aload_n d_W_law_641 rfl rfl,
  List.forall_mem_cons.mpr ⟨so_iload d_W_law_642 rfl,
  List.forall_mem_cons.mpr ⟨so_iconst (by decide) d_W_law_644 rfl,
  List.forall_mem_cons.mpr ⟨so_iadd d_W_law_645 rfl,
  List.forall_mem_cons.mpr ⟨so_sl rfl d_W_law_646 rfl,
  List.forall_mem_cons.mpr ⟨so_aload_n d_W_law_647 rfl rfl,
  List.forall_mem_cons.mpr ⟨so_iload d_W_law_648 rfl,
  List.forall_mem_cons.mpr ⟨so_iconst (by decide) d_W_law_650 rfl,
  List.forall_mem_cons.mpr ⟨so_iadd d_W_law_651 rfl,
  List.forall_mem_cons.mpr ⟨so_sl rfl d_W_law_652 rfl,
  List.forall_mem_cons.mpr ⟨so_aload_n d_W_law_653 rfl rfl,
  List.forall_mem_cons.mpr ⟨so_cSW d_W_law_654 ⟨w_4_49, (Nat.le_of_ble_eq_true rfl), (Nat.le_of_ble_eq_true rfl), w_1_0, ⟨by decide, by decide⟩, by decide +kernel⟩ w_4_47 w_4_48 rfl,
  List.forall_mem_cons.mpr ⟨so_istore d_W_law_657 (Nat.le_of_ble_eq_true rfl) rfl,
  fun _ h => absurd h List.not_mem_nil⟩⟩⟩⟩⟩⟩⟩⟩⟩⟩⟩⟩⟩⟩⟩⟩
def cd_W_law_24 (b : Nat) (xs : List Int32) : Nat → g_T := g_tab [(659, tr_ald 2 660), (660, tr_ald 0 661), (661, tr_ild 4 663), (663, tr_cst (.int (1)) 664), (664, tr_ii (fun x y => x + y) 665), (665, tr_sl b xs 666), (666, tr_ald 0 667), (667, tr_ild 4 669), (669, tr_cst (.int (2)) 670), (670, tr_ii (fun x y => x + y) 671), (671, tr_sl b xs 672), (672, tr_cV J_Z_kept 10 2 675), (675, tr_ist 6 677), (677, tr_ald 2 678), (678, tr_cV J_Z_thrown 10 0 681), (681, tr_ild 5 683)]
set_option maxRecDepth 100000 in
theorem ok_W_law_24 (b : Nat) (xs : List Int32) : ∀ pc, g_S (J_W_law b xs) pc (cd_W_law_24 b xs pc) := g_tab_ok <|
  List.forall_mem_cons.mpr ⟨so_aload_n d_W_law_659 rfl rfl,
  List.forall_mem_cons.mpr ⟨so_aload_n d_W_law_660 rfl rfl,
  List.forall_mem_cons.mpr ⟨so_iload d_W_law_661 rfl,
  List.forall_mem_cons.mpr ⟨so_iconst (by decide) d_W_law_663 rfl,
  List.forall_mem_cons.mpr ⟨so_iadd d_W_law_664 rfl,
  List.forall_mem_cons.mpr ⟨so_sl rfl d_W_law_665 rfl,
  List.forall_mem_cons.mpr ⟨so_aload_n d_W_law_666 rfl rfl,
  List.forall_mem_cons.mpr ⟨so_iload d_W_law_667 rfl,
  List.forall_mem_cons.mpr ⟨so_iconst (by decide) d_W_law_669 rfl,
  List.forall_mem_cons.mpr ⟨so_iadd d_W_law_670 rfl,
  List.forall_mem_cons.mpr ⟨so_sl rfl d_W_law_671 rfl,
  List.forall_mem_cons.mpr ⟨so_cV g_good d_W_law_672 ⟨w_5_118, (Nat.le_of_ble_eq_true rfl), (Nat.le_of_ble_eq_true rfl), w_1_12, ⟨by decide, by decide⟩, by decide +kernel⟩ (rfl : vwCl[10]? = some (R_Z, F_Z, 40)) w_5_115 w_5_116 w_5_117 rfl,
  List.forall_mem_cons.mpr ⟨so_istore d_W_law_675 (Nat.le_of_ble_eq_true rfl) rfl,
  List.forall_mem_cons.mpr ⟨so_aload_n d_W_law_677 rfl rfl,
  List.forall_mem_cons.mpr ⟨so_cV g_good d_W_law_678 ⟨w_4_222, (Nat.le_of_ble_eq_true rfl), (Nat.le_of_ble_eq_true rfl), w_1_12, ⟨by decide, by decide⟩, by decide +kernel⟩ (rfl : vwCl[10]? = some (R_Z, F_Z, 40)) w_4_219 w_4_220 w_4_221 rfl,
  List.forall_mem_cons.mpr ⟨so_iload d_W_law_681 rfl,
  fun _ h => absurd h List.not_mem_nil⟩⟩⟩⟩⟩⟩⟩⟩⟩⟩⟩⟩⟩⟩⟩⟩
def cd_W_law_25 (b : Nat) (xs : List Int32) : Nat → g_T := g_tab [(683, tr_if2 (fun x y => x = y) 688 686), (686, tr_cst (.int (0)) 687), (687, tr_rz), (688, tr_ild 5 690), (690, tr_if1 (fun x => ¬ x = 0) 705 693), (693, tr_ald 3 694), (694, tr_cst (.int (0)) 695), (695, tr_lal 696), (696, tr_ild 6 698), (698, tr_i2l 699), (699, tr_lcmp 700), (700, tr_if1 (fun x => x = 0) 705 703), (703, tr_cst (.int (0)) 704), (704, tr_rz), (705, tr_goto 789), (708, tr_ald 1 709)]
set_option maxRecDepth 100000 in
theorem ok_W_law_25 (b : Nat) (xs : List Int32) : ∀ pc, g_S (J_W_law b xs) pc (cd_W_law_25 b xs pc) := g_tab_ok <|
  List.forall_mem_cons.mpr ⟨so_icmp_eq d_W_law_683 (by decide) rfl,
  List.forall_mem_cons.mpr ⟨so_iconst (by decide) d_W_law_686 rfl,
  List.forall_mem_cons.mpr ⟨so_zret d_W_law_687 rfl,
  List.forall_mem_cons.mpr ⟨so_iload d_W_law_688 rfl,
  List.forall_mem_cons.mpr ⟨so_if_ne d_W_law_690 (by decide) rfl,
  List.forall_mem_cons.mpr ⟨so_aload_n d_W_law_693 rfl rfl,
  List.forall_mem_cons.mpr ⟨so_iconst (by decide) d_W_law_694 rfl,
  List.forall_mem_cons.mpr ⟨so_laload d_W_law_695 rfl,
  List.forall_mem_cons.mpr ⟨so_iload d_W_law_696 rfl,
  List.forall_mem_cons.mpr ⟨so_i2l d_W_law_698 rfl,
  List.forall_mem_cons.mpr ⟨so_lcmp d_W_law_699 rfl,
  List.forall_mem_cons.mpr ⟨so_if_eq d_W_law_700 (by decide) rfl,
  List.forall_mem_cons.mpr ⟨so_iconst (by decide) d_W_law_703 rfl,
  List.forall_mem_cons.mpr ⟨so_zret d_W_law_704 rfl,
  List.forall_mem_cons.mpr ⟨so_goto d_W_law_705 (by decide),
  List.forall_mem_cons.mpr ⟨so_aload_n d_W_law_708 rfl rfl,
  fun _ h => absurd h List.not_mem_nil⟩⟩⟩⟩⟩⟩⟩⟩⟩⟩⟩⟩⟩⟩⟩⟩
def cd_W_law_26 (b : Nat) (xs : List Int32) : Nat → g_T := g_tab [(709, tr_ald 0 710), (710, tr_ild 4 712), (712, tr_cst (.int (1)) 713), (713, tr_ii (fun x y => x + y) 714), (714, tr_sl b xs 715), (715, tr_ald 3 716), (716, tr_cS J_W_merged 3 719), (719, tr_ist 5 721), (721, tr_ald 2 722), (722, tr_ald 0 723), (723, tr_ild 4 725), (725, tr_cst (.int (1)) 726), (726, tr_ii (fun x y => x + y) 727), (727, tr_sl b xs 728), (728, tr_cV J_Z_merged 10 1 731), (731, tr_ist 6 733)]
set_option maxRecDepth 100000 in
theorem ok_W_law_26 (b : Nat) (xs : List Int32) : ∀ pc, g_S (J_W_law b xs) pc (cd_W_law_26 b xs pc) := g_tab_ok <|
  List.forall_mem_cons.mpr ⟨so_aload_n d_W_law_709 rfl rfl,
  List.forall_mem_cons.mpr ⟨so_iload d_W_law_710 rfl,
  List.forall_mem_cons.mpr ⟨so_iconst (by decide) d_W_law_712 rfl,
  List.forall_mem_cons.mpr ⟨so_iadd d_W_law_713 rfl,
  List.forall_mem_cons.mpr ⟨so_sl rfl d_W_law_714 rfl,
  List.forall_mem_cons.mpr ⟨so_aload_n d_W_law_715 rfl rfl,
  List.forall_mem_cons.mpr ⟨so_cSW d_W_law_716 ⟨w_4_67, (Nat.le_of_ble_eq_true rfl), (Nat.le_of_ble_eq_true rfl), w_1_0, ⟨by decide, by decide⟩, by decide +kernel⟩ w_4_65 w_4_66 rfl,
  List.forall_mem_cons.mpr ⟨so_istore d_W_law_719 (Nat.le_of_ble_eq_true rfl) rfl,
  List.forall_mem_cons.mpr ⟨so_aload_n d_W_law_721 rfl rfl,
  List.forall_mem_cons.mpr ⟨so_aload_n d_W_law_722 rfl rfl,
  List.forall_mem_cons.mpr ⟨so_iload d_W_law_723 rfl,
  List.forall_mem_cons.mpr ⟨so_iconst (by decide) d_W_law_725 rfl,
  List.forall_mem_cons.mpr ⟨so_iadd d_W_law_726 rfl,
  List.forall_mem_cons.mpr ⟨so_sl rfl d_W_law_727 rfl,
  List.forall_mem_cons.mpr ⟨so_cV g_good d_W_law_728 ⟨w_5_123, (Nat.le_of_ble_eq_true rfl), (Nat.le_of_ble_eq_true rfl), w_1_12, ⟨by decide, by decide⟩, by decide +kernel⟩ (rfl : vwCl[10]? = some (R_Z, F_Z, 40)) w_5_120 w_5_121 w_5_122 rfl,
  List.forall_mem_cons.mpr ⟨so_istore d_W_law_731 (Nat.le_of_ble_eq_true rfl) rfl,
  fun _ h => absurd h List.not_mem_nil⟩⟩⟩⟩⟩⟩⟩⟩⟩⟩⟩⟩⟩⟩⟩⟩
def cd_W_law_27 (b : Nat) (xs : List Int32) : Nat → g_T := g_tab [(733, tr_ald 2 734), (734, tr_cV J_Z_thrown 10 0 737), (737, tr_ild 5 739), (739, tr_if2 (fun x y => x = y) 744 742), (742, tr_cst (.int (0)) 743), (743, tr_rz), (744, tr_ild 5 746), (746, tr_if1 (fun x => ¬ x = 0) 761 749), (749, tr_ald 3 750), (750, tr_cst (.int (0)) 751), (751, tr_lal 752), (752, tr_ild 6 754), (754, tr_i2l 755), (755, tr_lcmp 756), (756, tr_if1 (fun x => x = 0) 761 759), (759, tr_cst (.int (0)) 760)]
set_option maxRecDepth 100000 in
theorem ok_W_law_27 (b : Nat) (xs : List Int32) : ∀ pc, g_S (J_W_law b xs) pc (cd_W_law_27 b xs pc) := g_tab_ok <|
  List.forall_mem_cons.mpr ⟨so_aload_n d_W_law_733 rfl rfl,
  List.forall_mem_cons.mpr ⟨so_cV g_good d_W_law_734 ⟨w_4_222, (Nat.le_of_ble_eq_true rfl), (Nat.le_of_ble_eq_true rfl), w_1_12, ⟨by decide, by decide⟩, by decide +kernel⟩ (rfl : vwCl[10]? = some (R_Z, F_Z, 40)) w_4_219 w_4_220 w_4_221 rfl,
  List.forall_mem_cons.mpr ⟨so_iload d_W_law_737 rfl,
  List.forall_mem_cons.mpr ⟨so_icmp_eq d_W_law_739 (by decide) rfl,
  List.forall_mem_cons.mpr ⟨so_iconst (by decide) d_W_law_742 rfl,
  List.forall_mem_cons.mpr ⟨so_zret d_W_law_743 rfl,
  List.forall_mem_cons.mpr ⟨so_iload d_W_law_744 rfl,
  List.forall_mem_cons.mpr ⟨so_if_ne d_W_law_746 (by decide) rfl,
  List.forall_mem_cons.mpr ⟨so_aload_n d_W_law_749 rfl rfl,
  List.forall_mem_cons.mpr ⟨so_iconst (by decide) d_W_law_750 rfl,
  List.forall_mem_cons.mpr ⟨so_laload d_W_law_751 rfl,
  List.forall_mem_cons.mpr ⟨so_iload d_W_law_752 rfl,
  List.forall_mem_cons.mpr ⟨so_i2l d_W_law_754 rfl,
  List.forall_mem_cons.mpr ⟨so_lcmp d_W_law_755 rfl,
  List.forall_mem_cons.mpr ⟨so_if_eq d_W_law_756 (by decide) rfl,
  List.forall_mem_cons.mpr ⟨so_iconst (by decide) d_W_law_759 rfl,
  fun _ h => absurd h List.not_mem_nil⟩⟩⟩⟩⟩⟩⟩⟩⟩⟩⟩⟩⟩⟩⟩⟩
def cd_W_law_28 (b : Nat) (xs : List Int32) : Nat → g_T := g_tab [(760, tr_rz), (761, tr_goto 789), (764, tr_ald 1 765), (765, tr_ald 0 766), (766, tr_ild 4 768), (768, tr_cst (.int (1)) 769), (769, tr_ii (fun x y => x + y) 770), (770, tr_sl b xs 771), (771, tr_cV J_T_count 9 1 774), (774, tr_ald 2 775), (775, tr_ald 0 776), (776, tr_ild 4 778), (778, tr_cst (.int (1)) 779), (779, tr_ii (fun x y => x + y) 780), (780, tr_sl b xs 781), (781, tr_cV J_Z_count 10 1 784)]
set_option maxRecDepth 100000 in
theorem ok_W_law_28 (b : Nat) (xs : List Int32) : ∀ pc, g_S (J_W_law b xs) pc (cd_W_law_28 b xs pc) := g_tab_ok <|
  List.forall_mem_cons.mpr ⟨so_zret d_W_law_760 rfl,
  List.forall_mem_cons.mpr ⟨so_goto d_W_law_761 (by decide),
  List.forall_mem_cons.mpr ⟨so_aload_n d_W_law_764 rfl rfl,
  List.forall_mem_cons.mpr ⟨so_aload_n d_W_law_765 rfl rfl,
  List.forall_mem_cons.mpr ⟨so_iload d_W_law_766 rfl,
  List.forall_mem_cons.mpr ⟨so_iconst (by decide) d_W_law_768 rfl,
  List.forall_mem_cons.mpr ⟨so_iadd d_W_law_769 rfl,
  List.forall_mem_cons.mpr ⟨so_sl rfl d_W_law_770 rfl,
  List.forall_mem_cons.mpr ⟨so_cV g_good d_W_law_771 ⟨w_2_24, (Nat.le_of_ble_eq_true rfl), (Nat.le_of_ble_eq_true rfl), w_1_1, ⟨by decide, by decide⟩, by decide +kernel⟩ (rfl : vwCl[9]? = some (R_T, F_T, 9)) w_2_21 w_2_22 w_2_23 rfl,
  List.forall_mem_cons.mpr ⟨so_aload_n d_W_law_774 rfl rfl,
  List.forall_mem_cons.mpr ⟨so_aload_n d_W_law_775 rfl rfl,
  List.forall_mem_cons.mpr ⟨so_iload d_W_law_776 rfl,
  List.forall_mem_cons.mpr ⟨so_iconst (by decide) d_W_law_778 rfl,
  List.forall_mem_cons.mpr ⟨so_iadd d_W_law_779 rfl,
  List.forall_mem_cons.mpr ⟨so_sl rfl d_W_law_780 rfl,
  List.forall_mem_cons.mpr ⟨so_cV g_good d_W_law_781 ⟨w_5_131, (Nat.le_of_ble_eq_true rfl), (Nat.le_of_ble_eq_true rfl), w_1_12, ⟨by decide, by decide⟩, by decide +kernel⟩ (rfl : vwCl[10]? = some (R_Z, F_Z, 40)) w_5_128 w_5_129 w_5_130 rfl,
  fun _ h => absurd h List.not_mem_nil⟩⟩⟩⟩⟩⟩⟩⟩⟩⟩⟩⟩⟩⟩⟩⟩
def cd_W_law_29 (b : Nat) (xs : List Int32) : Nat → g_T := g_tab [(784, tr_if2 (fun x y => x = y) 789 787), (787, tr_cst (.int (0)) 788), (788, tr_rz), (789, tr_inc 4 (4) 792), (792, tr_goto 23), (795, tr_cst (.int (1)) 796), (796, tr_rz)]
set_option maxRecDepth 100000 in
theorem ok_W_law_29 (b : Nat) (xs : List Int32) : ∀ pc, g_S (J_W_law b xs) pc (cd_W_law_29 b xs pc) := g_tab_ok <|
  List.forall_mem_cons.mpr ⟨so_icmp_eq d_W_law_784 (by decide) rfl,
  List.forall_mem_cons.mpr ⟨so_iconst (by decide) d_W_law_787 rfl,
  List.forall_mem_cons.mpr ⟨so_zret d_W_law_788 rfl,
  List.forall_mem_cons.mpr ⟨so_iinc d_W_law_789 (by decide) (Nat.le_of_ble_eq_true rfl) rfl,
  List.forall_mem_cons.mpr ⟨so_goto d_W_law_792 (by decide),
  List.forall_mem_cons.mpr ⟨so_iconst (by decide) d_W_law_795 rfl,
  List.forall_mem_cons.mpr ⟨so_zret d_W_law_796 rfl,
  fun _ h => absurd h List.not_mem_nil⟩⟩⟩⟩⟩⟩⟩
def cd_W_law (b : Nat) (xs : List Int32) : Nat → g_T := g_chk [(26, cd_W_law_0 b xs), (107, cd_W_law_1 b xs), (135, cd_W_law_2 b xs), (160, cd_W_law_3 b xs), (181, cd_W_law_4 b xs), (200, cd_W_law_5 b xs), (228, cd_W_law_6 b xs), (259, cd_W_law_7 b xs), (284, cd_W_law_8 b xs), (309, cd_W_law_9 b xs), (336, cd_W_law_10 b xs), (357, cd_W_law_11 b xs), (383, cd_W_law_12 b xs), (408, cd_W_law_13 b xs), (433, cd_W_law_14 b xs), (460, cd_W_law_15 b xs), (483, cd_W_law_16 b xs), (511, cd_W_law_17 b xs), (533, cd_W_law_18 b xs), (557, cd_W_law_19 b xs), (584, cd_W_law_20 b xs), (607, cd_W_law_21 b xs), (635, cd_W_law_22 b xs), (657, cd_W_law_23 b xs), (681, cd_W_law_24 b xs), (708, cd_W_law_25 b xs), (731, cd_W_law_26 b xs), (759, cd_W_law_27 b xs), (781, cd_W_law_28 b xs), (796, cd_W_law_29 b xs)]
theorem ok_W_law (b : Nat) (xs : List Int32) : ∀ pc, g_S (J_W_law b xs) pc (cd_W_law b xs pc) := g_chk_ok <|
  List.forall_mem_cons.mpr ⟨ok_W_law_0 b xs,
  List.forall_mem_cons.mpr ⟨ok_W_law_1 b xs,
  List.forall_mem_cons.mpr ⟨ok_W_law_2 b xs,
  List.forall_mem_cons.mpr ⟨ok_W_law_3 b xs,
  List.forall_mem_cons.mpr ⟨ok_W_law_4 b xs,
  List.forall_mem_cons.mpr ⟨ok_W_law_5 b xs,
  List.forall_mem_cons.mpr ⟨ok_W_law_6 b xs,
  List.forall_mem_cons.mpr ⟨ok_W_law_7 b xs,
  List.forall_mem_cons.mpr ⟨ok_W_law_8 b xs,
  List.forall_mem_cons.mpr ⟨ok_W_law_9 b xs,
  List.forall_mem_cons.mpr ⟨ok_W_law_10 b xs,
  List.forall_mem_cons.mpr ⟨ok_W_law_11 b xs,
  List.forall_mem_cons.mpr ⟨ok_W_law_12 b xs,
  List.forall_mem_cons.mpr ⟨ok_W_law_13 b xs,
  List.forall_mem_cons.mpr ⟨ok_W_law_14 b xs,
  List.forall_mem_cons.mpr ⟨ok_W_law_15 b xs,
  List.forall_mem_cons.mpr ⟨ok_W_law_16 b xs,
  List.forall_mem_cons.mpr ⟨ok_W_law_17 b xs,
  List.forall_mem_cons.mpr ⟨ok_W_law_18 b xs,
  List.forall_mem_cons.mpr ⟨ok_W_law_19 b xs,
  List.forall_mem_cons.mpr ⟨ok_W_law_20 b xs,
  List.forall_mem_cons.mpr ⟨ok_W_law_21 b xs,
  List.forall_mem_cons.mpr ⟨ok_W_law_22 b xs,
  List.forall_mem_cons.mpr ⟨ok_W_law_23 b xs,
  List.forall_mem_cons.mpr ⟨ok_W_law_24 b xs,
  List.forall_mem_cons.mpr ⟨ok_W_law_25 b xs,
  List.forall_mem_cons.mpr ⟨ok_W_law_26 b xs,
  List.forall_mem_cons.mpr ⟨ok_W_law_27 b xs,
  List.forall_mem_cons.mpr ⟨ok_W_law_28 b xs,
  List.forall_mem_cons.mpr ⟨ok_W_law_29 b xs,
  fun _ h => absurd h List.not_mem_nil⟩⟩⟩⟩⟩⟩⟩⟩⟩⟩⟩⟩⟩⟩⟩⟩⟩⟩⟩⟩⟩⟩⟩⟩⟩⟩⟩⟩⟩⟩
