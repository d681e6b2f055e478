abbrev cLa_law : ByteArray := code
theorem dLa_law_0 : decode cLa_law 0 = .ok (.new 8, 3) := by decide +kernel
theorem dLa_law_3 : decode cLa_law 3 = .ok (.dup, 1) := by decide +kernel
theorem dLa_law_4 : decode cLa_law 4 = .ok (.invokespecial 45, 3) := by decide +kernel
theorem dLa_law_7 : decode cLa_law 7 = .ok (.astore_n 1, 1) := by decide +kernel
theorem dLa_law_8 : decode cLa_law 8 = .ok (.new 46, 3) := by decide +kernel
theorem dLa_law_11 : decode cLa_law 11 = .ok (.dup, 1) := by decide +kernel
theorem dLa_law_12 : decode cLa_law 12 = .ok (.invokespecial 48, 3) := by decide +kernel
theorem dLa_law_15 : decode cLa_law 15 = .ok (.astore_n 2, 1) := by decide +kernel
theorem dLa_law_16 : decode cLa_law 16 = .ok (.iconst 1, 1) := by decide +kernel
theorem dLa_law_17 : decode cLa_law 17 = .ok (.newarray .long, 2) := by decide +kernel
theorem dLa_law_19 : decode cLa_law 19 = .ok (.astore_n 3, 1) := by decide +kernel
theorem dLa_law_20 : decode cLa_law 20 = .ok (.iconst 0, 1) := by decide +kernel
theorem dLa_law_21 : decode cLa_law 21 = .ok (.istore 4, 2) := by decide +kernel
theorem dLa_law_23 : decode cLa_law 23 = .ok (.iload 4, 2) := by decide +kernel
theorem dLa_law_25 : decode cLa_law 25 = .ok (.aload_n 0, 1) := by decide +kernel
theorem dLa_law_26 : decode cLa_law 26 = .ok (.arraylength, 1) := by decide +kernel
theorem dLa_law_27 : decode cLa_law 27 = .ok (.iconst 4, 1) := by decide +kernel
theorem dLa_law_28 : decode cLa_law 28 = .ok (.isub, 1) := by decide +kernel
theorem dLa_law_29 : decode cLa_law 29 = .ok (.if_icmp .gt 740, 3) := by decide +kernel
theorem dLa_law_32 : decode cLa_law 32 = .ok (.aload_n 0, 1) := by decide +kernel
theorem dLa_law_33 : decode cLa_law 33 = .ok (.iload 4, 2) := by decide +kernel
theorem dLa_law_35 : decode cLa_law 35 = .ok (.iaload, 1) := by decide +kernel
theorem dLa_law_36 : decode cLa_law 36 = .ok (.bipush 31, 2) := by decide +kernel
theorem dLa_law_38 : decode cLa_law 38 = .ok (.iand, 1) := by decide +kernel
theorem dLa_law_39 : decode cLa_law 39 = .ok (.tableswitch 724 0 16 #[81, 150, 175, 188, 201, 226, 282, 338, 405, 418, 474, 530, 574, 630, 643, 656, 669], 81) := by decide +kernel
theorem dLa_law_120 : decode cLa_law 120 = .ok (.aload_n 1, 1) := by decide +kernel
theorem dLa_law_121 : decode cLa_law 121 = .ok (.aload_n 0, 1) := by decide +kernel
theorem dLa_law_122 : decode cLa_law 122 = .ok (.iload 4, 2) := by decide +kernel
theorem dLa_law_124 : decode cLa_law 124 = .ok (.iconst 1, 1) := by decide +kernel
theorem dLa_law_125 : decode cLa_law 125 = .ok (.iadd, 1) := by decide +kernel
theorem dLa_law_126 : decode cLa_law 126 = .ok (.iaload, 1) := by decide +kernel
theorem dLa_law_127 : decode cLa_law 127 = .ok (.i2l, 1) := by decide +kernel
theorem dLa_law_128 : decode cLa_law 128 = .ok (.bipush 32, 2) := by decide +kernel
theorem dLa_law_130 : decode cLa_law 130 = .ok (.lshl, 1) := by decide +kernel
theorem dLa_law_131 : decode cLa_law 131 = .ok (.aload_n 0, 1) := by decide +kernel
theorem dLa_law_132 : decode cLa_law 132 = .ok (.iload 4, 2) := by decide +kernel
theorem dLa_law_134 : decode cLa_law 134 = .ok (.iconst 2, 1) := by decide +kernel
theorem dLa_law_135 : decode cLa_law 135 = .ok (.iadd, 1) := by decide +kernel
theorem dLa_law_136 : decode cLa_law 136 = .ok (.iaload, 1) := by decide +kernel
theorem dLa_law_137 : decode cLa_law 137 = .ok (.i2l, 1) := by decide +kernel
theorem dLa_law_138 : decode cLa_law 138 = .ok (.ldc2_w 49, 3) := by decide +kernel
theorem dLa_law_141 : decode cLa_law 141 = .ok (.land, 1) := by decide +kernel
theorem dLa_law_142 : decode cLa_law 142 = .ok (.lor, 1) := by decide +kernel
theorem dLa_law_143 : decode cLa_law 143 = .ok (.aload_n 0, 1) := by decide +kernel
theorem dLa_law_144 : decode cLa_law 144 = .ok (.iload 4, 2) := by decide +kernel
theorem dLa_law_146 : decode cLa_law 146 = .ok (.iconst 3, 1) := by decide +kernel
theorem dLa_law_147 : decode cLa_law 147 = .ok (.iadd, 1) := by decide +kernel
theorem dLa_law_148 : decode cLa_law 148 = .ok (.iaload, 1) := by decide +kernel
theorem dLa_law_149 : decode cLa_law 149 = .ok (.invokevirtual 51, 3) := by decide +kernel
theorem dLa_law_152 : decode cLa_law 152 = .ok (.aload_n 2, 1) := by decide +kernel
theorem dLa_law_153 : decode cLa_law 153 = .ok (.aload_n 0, 1) := by decide +kernel
theorem dLa_law_154 : decode cLa_law 154 = .ok (.iload 4, 2) := by decide +kernel
theorem dLa_law_156 : decode cLa_law 156 = .ok (.iconst 1, 1) := by decide +kernel
theorem dLa_law_157 : decode cLa_law 157 = .ok (.iadd, 1) := by decide +kernel
theorem dLa_law_158 : decode cLa_law 158 = .ok (.iaload, 1) := by decide +kernel
theorem dLa_law_159 : decode cLa_law 159 = .ok (.i2l, 1) := by decide +kernel
theorem dLa_law_160 : decode cLa_law 160 = .ok (.bipush 32, 2) := by decide +kernel
theorem dLa_law_162 : decode cLa_law 162 = .ok (.lshl, 1) := by decide +kernel
theorem dLa_law_163 : decode cLa_law 163 = .ok (.aload_n 0, 1) := by decide +kernel
theorem dLa_law_164 : decode cLa_law 164 = .ok (.iload 4, 2) := by decide +kernel
theorem dLa_law_166 : decode cLa_law 166 = .ok (.iconst 2, 1) := by decide +kernel
theorem dLa_law_167 : decode cLa_law 167 = .ok (.iadd, 1) := by decide +kernel
theorem dLa_law_168 : decode cLa_law 168 = .ok (.iaload, 1) := by decide +kernel
theorem dLa_law_169 : decode cLa_law 169 = .ok (.i2l, 1) := by decide +kernel
theorem dLa_law_170 : decode cLa_law 170 = .ok (.ldc2_w 49, 3) := by decide +kernel
theorem dLa_law_173 : decode cLa_law 173 = .ok (.land, 1) := by decide +kernel
theorem dLa_law_174 : decode cLa_law 174 = .ok (.lor, 1) := by decide +kernel
theorem dLa_law_175 : decode cLa_law 175 = .ok (.aload_n 0, 1) := by decide +kernel
theorem dLa_law_176 : decode cLa_law 176 = .ok (.iload 4, 2) := by decide +kernel
theorem dLa_law_178 : decode cLa_law 178 = .ok (.iconst 3, 1) := by decide +kernel
theorem dLa_law_179 : decode cLa_law 179 = .ok (.iadd, 1) := by decide +kernel
theorem dLa_law_180 : decode cLa_law 180 = .ok (.iaload, 1) := by decide +kernel
theorem dLa_law_181 : decode cLa_law 181 = .ok (.invokevirtual 55, 3) := by decide +kernel
theorem dLa_law_184 : decode cLa_law 184 = .ok (.if_icmp .eq 579, 3) := by decide +kernel
theorem dLa_law_187 : decode cLa_law 187 = .ok (.iconst 0, 1) := by decide +kernel
theorem dLa_law_188 : decode cLa_law 188 = .ok (.ireturn, 1) := by decide +kernel
theorem dLa_law_189 : decode cLa_law 189 = .ok (.aload_n 1, 1) := by decide +kernel
theorem dLa_law_190 : decode cLa_law 190 = .ok (.aload_n 0, 1) := by decide +kernel
theorem dLa_law_191 : decode cLa_law 191 = .ok (.iload 4, 2) := by decide +kernel
theorem dLa_law_193 : decode cLa_law 193 = .ok (.iconst 1, 1) := by decide +kernel
theorem dLa_law_194 : decode cLa_law 194 = .ok (.iadd, 1) := by decide +kernel
theorem dLa_law_195 : decode cLa_law 195 = .ok (.iaload, 1) := by decide +kernel
theorem dLa_law_196 : decode cLa_law 196 = .ok (.invokevirtual 56, 3) := by decide +kernel
theorem dLa_law_199 : decode cLa_law 199 = .ok (.aload_n 2, 1) := by decide +kernel
theorem dLa_law_200 : decode cLa_law 200 = .ok (.aload_n 0, 1) := by decide +kernel
theorem dLa_law_201 : decode cLa_law 201 = .ok (.iload 4, 2) := by decide +kernel
theorem dLa_law_203 : decode cLa_law 203 = .ok (.iconst 1, 1) := by decide +kernel
theorem dLa_law_204 : decode cLa_law 204 = .ok (.iadd, 1) := by decide +kernel
theorem dLa_law_205 : decode cLa_law 205 = .ok (.iaload, 1) := by decide +kernel
theorem dLa_law_206 : decode cLa_law 206 = .ok (.invokevirtual 60, 3) := by decide +kernel
theorem dLa_law_209 : decode cLa_law 209 = .ok (.if_icmp .eq 554, 3) := by decide +kernel
theorem dLa_law_212 : decode cLa_law 212 = .ok (.iconst 0, 1) := by decide +kernel
theorem dLa_law_213 : decode cLa_law 213 = .ok (.ireturn, 1) := by decide +kernel
theorem dLa_law_214 : decode cLa_law 214 = .ok (.aload_n 1, 1) := by decide +kernel
theorem dLa_law_215 : decode cLa_law 215 = .ok (.invokevirtual 61, 3) := by decide +kernel
theorem dLa_law_218 : decode cLa_law 218 = .ok (.aload_n 2, 1) := by decide +kernel
theorem dLa_law_219 : decode cLa_law 219 = .ok (.invokevirtual 64, 3) := by decide +kernel
theorem dLa_law_222 : decode cLa_law 222 = .ok (.if_icmp .eq 541, 3) := by decide +kernel
theorem dLa_law_225 : decode cLa_law 225 = .ok (.iconst 0, 1) := by decide +kernel
theorem dLa_law_226 : decode cLa_law 226 = .ok (.ireturn, 1) := by decide +kernel
theorem dLa_law_227 : decode cLa_law 227 = .ok (.aload_n 1, 1) := by decide +kernel
theorem dLa_law_228 : decode cLa_law 228 = .ok (.invokevirtual 65, 3) := by decide +kernel
theorem dLa_law_231 : decode cLa_law 231 = .ok (.aload_n 2, 1) := by decide +kernel
theorem dLa_law_232 : decode cLa_law 232 = .ok (.invokevirtual 68, 3) := by decide +kernel
theorem dLa_law_235 : decode cLa_law 235 = .ok (.if_icmp .eq 528, 3) := by decide +kernel
theorem dLa_law_238 : decode cLa_law 238 = .ok (.iconst 0, 1) := by decide +kernel
theorem dLa_law_239 : decode cLa_law 239 = .ok (.ireturn, 1) := by decide +kernel
theorem dLa_law_240 : decode cLa_law 240 = .ok (.aload_n 1, 1) := by decide +kernel
theorem dLa_law_241 : decode cLa_law 241 = .ok (.aload_n 0, 1) := by decide +kernel
theorem dLa_law_242 : decode cLa_law 242 = .ok (.iload 4, 2) := by decide +kernel
theorem dLa_law_244 : decode cLa_law 244 = .ok (.iconst 1, 1) := by decide +kernel
theorem dLa_law_245 : decode cLa_law 245 = .ok (.iadd, 1) := by decide +kernel
theorem dLa_law_246 : decode cLa_law 246 = .ok (.iaload, 1) := by decide +kernel
theorem dLa_law_247 : decode cLa_law 247 = .ok (.invokevirtual 69, 3) := by decide +kernel
theorem dLa_law_250 : decode cLa_law 250 = .ok (.aload_n 2, 1) := by decide +kernel
theorem dLa_law_251 : decode cLa_law 251 = .ok (.aload_n 0, 1) := by decide +kernel
theorem dLa_law_252 : decode cLa_law 252 = .ok (.iload 4, 2) := by decide +kernel
theorem dLa_law_254 : decode cLa_law 254 = .ok (.iconst 1, 1) := by decide +kernel
theorem dLa_law_255 : decode cLa_law 255 = .ok (.iadd, 1) := by decide +kernel
theorem dLa_law_256 : decode cLa_law 256 = .ok (.iaload, 1) := by decide +kernel
theorem dLa_law_257 : decode cLa_law 257 = .ok (.invokevirtual 72, 3) := by decide +kernel
theorem dLa_law_260 : decode cLa_law 260 = .ok (.if_icmp .eq 503, 3) := by decide +kernel
theorem dLa_law_263 : decode cLa_law 263 = .ok (.iconst 0, 1) := by decide +kernel
theorem dLa_law_264 : decode cLa_law 264 = .ok (.ireturn, 1) := by decide +kernel
theorem dLa_law_265 : decode cLa_law 265 = .ok (.aload_n 1, 1) := by decide +kernel
theorem dLa_law_266 : decode cLa_law 266 = .ok (.aload_n 0, 1) := by decide +kernel
theorem dLa_law_267 : decode cLa_law 267 = .ok (.iload 4, 2) := by decide +kernel
theorem dLa_law_269 : decode cLa_law 269 = .ok (.iconst 1, 1) := by decide +kernel
theorem dLa_law_270 : decode cLa_law 270 = .ok (.iadd, 1) := by decide +kernel
theorem dLa_law_271 : decode cLa_law 271 = .ok (.iaload, 1) := by decide +kernel
theorem dLa_law_272 : decode cLa_law 272 = .ok (.aload_n 3, 1) := by decide +kernel
theorem dLa_law_273 : decode cLa_law 273 = .ok (.invokestatic 73, 3) := by decide +kernel
theorem dLa_law_276 : decode cLa_law 276 = .ok (.istore 5, 2) := by decide +kernel
theorem dLa_law_278 : decode cLa_law 278 = .ok (.aload_n 2, 1) := by decide +kernel
theorem dLa_law_279 : decode cLa_law 279 = .ok (.aload_n 0, 1) := by decide +kernel
theorem dLa_law_280 : decode cLa_law 280 = .ok (.iload 4, 2) := by decide +kernel
theorem dLa_law_282 : decode cLa_law 282 = .ok (.iconst 1, 1) := by decide +kernel
theorem dLa_law_283 : decode cLa_law 283 = .ok (.iadd, 1) := by decide +kernel
theorem dLa_law_284 : decode cLa_law 284 = .ok (.iaload, 1) := by decide +kernel
theorem dLa_law_285 : decode cLa_law 285 = .ok (.invokevirtual 78, 3) := by decide +kernel
theorem dLa_law_288 : decode cLa_law 288 = .ok (.istore 6, 2) := by decide +kernel
theorem dLa_law_290 : decode cLa_law 290 = .ok (.aload_n 2, 1) := by decide +kernel
theorem dLa_law_291 : decode cLa_law 291 = .ok (.invokevirtual 79, 3) := by decide +kernel
theorem dLa_law_294 : decode cLa_law 294 = .ok (.iload 5, 2) := by decide +kernel
theorem dLa_law_296 : decode cLa_law 296 = .ok (.if_icmp .eq 5, 3) := by decide +kernel
theorem dLa_law_299 : decode cLa_law 299 = .ok (.iconst 0, 1) := by decide +kernel
theorem dLa_law_300 : decode cLa_law 300 = .ok (.ireturn, 1) := by decide +kernel
theorem dLa_law_301 : decode cLa_law 301 = .ok (.iload 5, 2) := by decide +kernel
theorem dLa_law_303 : decode cLa_law 303 = .ok (.ifCond .ne 15, 3) := by decide +kernel
theorem dLa_law_306 : decode cLa_law 306 = .ok (.aload_n 3, 1) := by decide +kernel
theorem dLa_law_307 : decode cLa_law 307 = .ok (.iconst 0, 1) := by decide +kernel
theorem dLa_law_308 : decode cLa_law 308 = .ok (.laload, 1) := by decide +kernel
theorem dLa_law_309 : decode cLa_law 309 = .ok (.iload 6, 2) := by decide +kernel
theorem dLa_law_311 : decode cLa_law 311 = .ok (.i2l, 1) := by decide +kernel
theorem dLa_law_312 : decode cLa_law 312 = .ok (.lcmp, 1) := by decide +kernel
theorem dLa_law_313 : decode cLa_law 313 = .ok (.ifCond .eq 5, 3) := by decide +kernel
theorem dLa_law_316 : decode cLa_law 316 = .ok (.iconst 0, 1) := by decide +kernel
theorem dLa_law_317 : decode cLa_law 317 = .ok (.ireturn, 1) := by decide +kernel
theorem dLa_law_318 : decode cLa_law 318 = .ok (.goto 445, 3) := by decide +kernel
theorem dLa_law_321 : decode cLa_law 321 = .ok (.aload_n 1, 1) := by decide +kernel
theorem dLa_law_322 : decode cLa_law 322 = .ok (.aload_n 0, 1) := by decide +kernel
theorem dLa_law_323 : decode cLa_law 323 = .ok (.iload 4, 2) := by decide +kernel
theorem dLa_law_325 : decode cLa_law 325 = .ok (.iconst 1, 1) := by decide +kernel
theorem dLa_law_326 : decode cLa_law 326 = .ok (.iadd, 1) := by decide +kernel
theorem dLa_law_327 : decode cLa_law 327 = .ok (.iaload, 1) := by decide +kernel
theorem dLa_law_328 : decode cLa_law 328 = .ok (.aload_n 3, 1) := by decide +kernel
theorem dLa_law_329 : decode cLa_law 329 = .ok (.invokestatic 82, 3) := by decide +kernel
theorem dLa_law_332 : decode cLa_law 332 = .ok (.istore 5, 2) := by decide +kernel
theorem dLa_law_334 : decode cLa_law 334 = .ok (.aload_n 2, 1) := by decide +kernel
theorem dLa_law_335 : decode cLa_law 335 = .ok (.aload_n 0, 1) := by decide +kernel
theorem dLa_law_336 : decode cLa_law 336 = .ok (.iload 4, 2) := by decide +kernel
theorem dLa_law_338 : decode cLa_law 338 = .ok (.iconst 1, 1) := by decide +kernel
theorem dLa_law_339 : decode cLa_law 339 = .ok (.iadd, 1) := by decide +kernel
theorem dLa_law_340 : decode cLa_law 340 = .ok (.iaload, 1) := by decide +kernel
theorem dLa_law_341 : decode cLa_law 341 = .ok (.invokevirtual 84, 3) := by decide +kernel
theorem dLa_law_344 : decode cLa_law 344 = .ok (.istore 6, 2) := by decide +kernel
theorem dLa_law_346 : decode cLa_law 346 = .ok (.aload_n 2, 1) := by decide +kernel
theorem dLa_law_347 : decode cLa_law 347 = .ok (.invokevirtual 79, 3) := by decide +kernel
theorem dLa_law_350 : decode cLa_law 350 = .ok (.iload 5, 2) := by decide +kernel
theorem dLa_law_352 : decode cLa_law 352 = .ok (.if_icmp .eq 5, 3) := by decide +kernel
theorem dLa_law_355 : decode cLa_law 355 = .ok (.iconst 0, 1) := by decide +kernel
theorem dLa_law_356 : decode cLa_law 356 = .ok (.ireturn, 1) := by decide +kernel
theorem dLa_law_357 : decode cLa_law 357 = .ok (.iload 5, 2) := by decide +kernel
theorem dLa_law_359 : decode cLa_law 359 = .ok (.ifCond .ne 15, 3) := by decide +kernel
theorem dLa_law_362 : decode cLa_law 362 = .ok (.aload_n 3, 1) := by decide +kernel
theorem dLa_law_363 : decode cLa_law 363 = .ok (.iconst 0, 1) := by decide +kernel
theorem dLa_law_364 : decode cLa_law 364 = .ok (.laload, 1) := by decide +kernel
theorem dLa_law_365 : decode cLa_law 365 = .ok (.iload 6, 2) := by decide +kernel
theorem dLa_law_367 : decode cLa_law 367 = .ok (.i2l, 1) := by decide +kernel
theorem dLa_law_368 : decode cLa_law 368 = .ok (.lcmp, 1) := by decide +kernel
theorem dLa_law_369 : decode cLa_law 369 = .ok (.ifCond .eq 5, 3) := by decide +kernel
theorem dLa_law_372 : decode cLa_law 372 = .ok (.iconst 0, 1) := by decide +kernel
theorem dLa_law_373 : decode cLa_law 373 = .ok (.ireturn, 1) := by decide +kernel
theorem dLa_law_374 : decode cLa_law 374 = .ok (.goto 389, 3) := by decide +kernel
theorem dLa_law_377 : decode cLa_law 377 = .ok (.aload_n 1, 1) := by decide +kernel
theorem dLa_law_378 : decode cLa_law 378 = .ok (.aload_n 0, 1) := by decide +kernel
theorem dLa_law_379 : decode cLa_law 379 = .ok (.iload 4, 2) := by decide +kernel
theorem dLa_law_381 : decode cLa_law 381 = .ok (.iconst 1, 1) := by decide +kernel
theorem dLa_law_382 : decode cLa_law 382 = .ok (.iadd, 1) := by decide +kernel
theorem dLa_law_383 : decode cLa_law 383 = .ok (.iaload, 1) := by decide +kernel
theorem dLa_law_384 : decode cLa_law 384 = .ok (.aload_n 0, 1) := by decide +kernel
theorem dLa_law_385 : decode cLa_law 385 = .ok (.iload 4, 2) := by decide +kernel
theorem dLa_law_387 : decode cLa_law 387 = .ok (.iconst 2, 1) := by decide +kernel
theorem dLa_law_388 : decode cLa_law 388 = .ok (.iadd, 1) := by decide +kernel
theorem dLa_law_389 : decode cLa_law 389 = .ok (.iaload, 1) := by decide +kernel
theorem dLa_law_390 : decode cLa_law 390 = .ok (.aload_n 3, 1) := by decide +kernel
theorem dLa_law_391 : decode cLa_law 391 = .ok (.invokestatic 85, 3) := by decide +kernel
theorem dLa_law_394 : decode cLa_law 394 = .ok (.istore 5, 2) := by decide +kernel
theorem dLa_law_396 : decode cLa_law 396 = .ok (.aload_n 2, 1) := by decide +kernel
theorem dLa_law_397 : decode cLa_law 397 = .ok (.aload_n 0, 1) := by decide +kernel
theorem dLa_law_398 : decode cLa_law 398 = .ok (.iload 4, 2) := by decide +kernel
theorem dLa_law_400 : decode cLa_law 400 = .ok (.iconst 1, 1) := by decide +kernel
theorem dLa_law_401 : decode cLa_law 401 = .ok (.iadd, 1) := by decide +kernel
theorem dLa_law_402 : decode cLa_law 402 = .ok (.iaload, 1) := by decide +kernel
theorem dLa_law_403 : decode cLa_law 403 = .ok (.aload_n 0, 1) := by decide +kernel
theorem dLa_law_404 : decode cLa_law 404 = .ok (.iload 4, 2) := by decide +kernel
theorem dLa_law_406 : decode cLa_law 406 = .ok (.iconst 2, 1) := by decide +kernel
theorem dLa_law_407 : decode cLa_law 407 = .ok (.iadd, 1) := by decide +kernel
theorem dLa_law_408 : decode cLa_law 408 = .ok (.iaload, 1) := by decide +kernel
theorem dLa_law_409 : decode cLa_law 409 = .ok (.invokevirtual 88, 3) := by decide +kernel
theorem dLa_law_412 : decode cLa_law 412 = .ok (.lstore 6, 2) := by decide +kernel
theorem dLa_law_414 : decode cLa_law 414 = .ok (.aload_n 2, 1) := by decide +kernel
theorem dLa_law_415 : decode cLa_law 415 = .ok (.invokevirtual 79, 3) := by decide +kernel
theorem dLa_law_418 : decode cLa_law 418 = .ok (.iload 5, 2) := by decide +kernel
theorem dLa_law_420 : decode cLa_law 420 = .ok (.if_icmp .eq 5, 3) := by decide +kernel
theorem dLa_law_423 : decode cLa_law 423 = .ok (.iconst 0, 1) := by decide +kernel
theorem dLa_law_424 : decode cLa_law 424 = .ok (.ireturn, 1) := by decide +kernel
theorem dLa_law_425 : decode cLa_law 425 = .ok (.iload 5, 2) := by decide +kernel
theorem dLa_law_427 : decode cLa_law 427 = .ok (.ifCond .ne 14, 3) := by decide +kernel
theorem dLa_law_430 : decode cLa_law 430 = .ok (.aload_n 3, 1) := by decide +kernel
theorem dLa_law_431 : decode cLa_law 431 = .ok (.iconst 0, 1) := by decide +kernel
theorem dLa_law_432 : decode cLa_law 432 = .ok (.laload, 1) := by decide +kernel
theorem dLa_law_433 : decode cLa_law 433 = .ok (.lload 6, 2) := by decide +kernel
theorem dLa_law_435 : decode cLa_law 435 = .ok (.lcmp, 1) := by decide +kernel
theorem dLa_law_436 : decode cLa_law 436 = .ok (.ifCond .eq 5, 3) := by decide +kernel
theorem dLa_law_439 : decode cLa_law 439 = .ok (.iconst 0, 1) := by decide +kernel
theorem dLa_law_440 : decode cLa_law 440 = .ok (.ireturn, 1) := by decide +kernel
theorem dLa_law_441 : decode cLa_law 441 = .ok (.goto 322, 3) := by decide +kernel
theorem dLa_law_444 : decode cLa_law 444 = .ok (.aload_n 1, 1) := by decide +kernel
theorem dLa_law_445 : decode cLa_law 445 = .ok (.invokevirtual 89, 3) := by decide +kernel
theorem dLa_law_448 : decode cLa_law 448 = .ok (.aload_n 2, 1) := by decide +kernel
theorem dLa_law_449 : decode cLa_law 449 = .ok (.invokevirtual 92, 3) := by decide +kernel
theorem dLa_law_452 : decode cLa_law 452 = .ok (.if_icmp .eq 311, 3) := by decide +kernel
theorem dLa_law_455 : decode cLa_law 455 = .ok (.iconst 0, 1) := by decide +kernel
theorem dLa_law_456 : decode cLa_law 456 = .ok (.ireturn, 1) := by decide +kernel
theorem dLa_law_457 : decode cLa_law 457 = .ok (.aload_n 1, 1) := by decide +kernel
theorem dLa_law_458 : decode cLa_law 458 = .ok (.aload_n 0, 1) := by decide +kernel
theorem dLa_law_459 : decode cLa_law 459 = .ok (.iload 4, 2) := by decide +kernel
theorem dLa_law_461 : decode cLa_law 461 = .ok (.iconst 1, 1) := by decide +kernel
theorem dLa_law_462 : decode cLa_law 462 = .ok (.iadd, 1) := by decide +kernel
theorem dLa_law_463 : decode cLa_law 463 = .ok (.iaload, 1) := by decide +kernel
theorem dLa_law_464 : decode cLa_law 464 = .ok (.aload_n 3, 1) := by decide +kernel
theorem dLa_law_465 : decode cLa_law 465 = .ok (.invokestatic 93, 3) := by decide +kernel
theorem dLa_law_468 : decode cLa_law 468 = .ok (.istore 5, 2) := by decide +kernel
theorem dLa_law_470 : decode cLa_law 470 = .ok (.aload_n 2, 1) := by decide +kernel
theorem dLa_law_471 : decode cLa_law 471 = .ok (.aload_n 0, 1) := by decide +kernel
theorem dLa_law_472 : decode cLa_law 472 = .ok (.iload 4, 2) := by decide +kernel
theorem dLa_law_474 : decode cLa_law 474 = .ok (.iconst 1, 1) := by decide +kernel
theorem dLa_law_475 : decode cLa_law 475 = .ok (.iadd, 1) := by decide +kernel
theorem dLa_law_476 : decode cLa_law 476 = .ok (.iaload, 1) := by decide +kernel
theorem dLa_law_477 : decode cLa_law 477 = .ok (.invokevirtual 95, 3) := by decide +kernel
theorem dLa_law_480 : decode cLa_law 480 = .ok (.istore 6, 2) := by decide +kernel
theorem dLa_law_482 : decode cLa_law 482 = .ok (.aload_n 2, 1) := by decide +kernel
theorem dLa_law_483 : decode cLa_law 483 = .ok (.invokevirtual 79, 3) := by decide +kernel
theorem dLa_law_486 : decode cLa_law 486 = .ok (.iload 5, 2) := by decide +kernel
theorem dLa_law_488 : decode cLa_law 488 = .ok (.if_icmp .eq 5, 3) := by decide +kernel
theorem dLa_law_491 : decode cLa_law 491 = .ok (.iconst 0, 1) := by decide +kernel
theorem dLa_law_492 : decode cLa_law 492 = .ok (.ireturn, 1) := by decide +kernel
theorem dLa_law_493 : decode cLa_law 493 = .ok (.iload 5, 2) := by decide +kernel
theorem dLa_law_495 : decode cLa_law 495 = .ok (.ifCond .ne 15, 3) := by decide +kernel
theorem dLa_law_498 : decode cLa_law 498 = .ok (.aload_n 3, 1) := by decide +kernel
theorem dLa_law_499 : decode cLa_law 499 = .ok (.iconst 0, 1) := by decide +kernel
theorem dLa_law_500 : decode cLa_law 500 = .ok (.laload, 1) := by decide +kernel
theorem dLa_law_501 : decode cLa_law 501 = .ok (.iload 6, 2) := by decide +kernel
theorem dLa_law_503 : decode cLa_law 503 = .ok (.i2l, 1) := by decide +kernel
theorem dLa_law_504 : decode cLa_law 504 = .ok (.lcmp, 1) := by decide +kernel
theorem dLa_law_505 : decode cLa_law 505 = .ok (.ifCond .eq 5, 3) := by decide +kernel
theorem dLa_law_508 : decode cLa_law 508 = .ok (.iconst 0, 1) := by decide +kernel
theorem dLa_law_509 : decode cLa_law 509 = .ok (.ireturn, 1) := by decide +kernel
theorem dLa_law_510 : decode cLa_law 510 = .ok (.goto 253, 3) := by decide +kernel
theorem dLa_law_513 : decode cLa_law 513 = .ok (.aload_n 1, 1) := by decide +kernel
theorem dLa_law_514 : decode cLa_law 514 = .ok (.aload_n 0, 1) := by decide +kernel
theorem dLa_law_515 : decode cLa_law 515 = .ok (.iload 4, 2) := by decide +kernel
theorem dLa_law_517 : decode cLa_law 517 = .ok (.iconst 1, 1) := by decide +kernel
theorem dLa_law_518 : decode cLa_law 518 = .ok (.iadd, 1) := by decide +kernel
theorem dLa_law_519 : decode cLa_law 519 = .ok (.iaload, 1) := by decide +kernel
theorem dLa_law_520 : decode cLa_law 520 = .ok (.aload_n 3, 1) := by decide +kernel
theorem dLa_law_521 : decode cLa_law 521 = .ok (.invokestatic 96, 3) := by decide +kernel
theorem dLa_law_524 : decode cLa_law 524 = .ok (.istore 5, 2) := by decide +kernel
theorem dLa_law_526 : decode cLa_law 526 = .ok (.aload_n 2, 1) := by decide +kernel
theorem dLa_law_527 : decode cLa_law 527 = .ok (.aload_n 0, 1) := by decide +kernel
theorem dLa_law_528 : decode cLa_law 528 = .ok (.iload 4, 2) := by decide +kernel
theorem dLa_law_530 : decode cLa_law 530 = .ok (.iconst 1, 1) := by decide +kernel
theorem dLa_law_531 : decode cLa_law 531 = .ok (.iadd, 1) := by decide +kernel
theorem dLa_law_532 : decode cLa_law 532 = .ok (.iaload, 1) := by decide +kernel
theorem dLa_law_533 : decode cLa_law 533 = .ok (.invokevirtual 98, 3) := by decide +kernel
theorem dLa_law_536 : decode cLa_law 536 = .ok (.istore 6, 2) := by decide +kernel
theorem dLa_law_538 : decode cLa_law 538 = .ok (.aload_n 2, 1) := by decide +kernel
theorem dLa_law_539 : decode cLa_law 539 = .ok (.invokevirtual 79, 3) := by decide +kernel
theorem dLa_law_542 : decode cLa_law 542 = .ok (.iload 5, 2) := by decide +kernel
theorem dLa_law_544 : decode cLa_law 544 = .ok (.if_icmp .eq 5, 3) := by decide +kernel
theorem dLa_law_547 : decode cLa_law 547 = .ok (.iconst 0, 1) := by decide +kernel
theorem dLa_law_548 : decode cLa_law 548 = .ok (.ireturn, 1) := by decide +kernel
theorem dLa_law_549 : decode cLa_law 549 = .ok (.iload 5, 2) := by decide +kernel
theorem dLa_law_551 : decode cLa_law 551 = .ok (.ifCond .ne 15, 3) := by decide +kernel
theorem dLa_law_554 : decode cLa_law 554 = .ok (.aload_n 3, 1) := by decide +kernel
theorem dLa_law_555 : decode cLa_law 555 = .ok (.iconst 0, 1) := by decide +kernel
theorem dLa_law_556 : decode cLa_law 556 = .ok (.laload, 1) := by decide +kernel
theorem dLa_law_557 : decode cLa_law 557 = .ok (.iload 6, 2) := by decide +kernel
theorem dLa_law_559 : decode cLa_law 559 = .ok (.i2l, 1) := by decide +kernel
theorem dLa_law_560 : decode cLa_law 560 = .ok (.lcmp, 1) := by decide +kernel
theorem dLa_law_561 : decode cLa_law 561 = .ok (.ifCond .eq 5, 3) := by decide +kernel
theorem dLa_law_564 : decode cLa_law 564 = .ok (.iconst 0, 1) := by decide +kernel
theorem dLa_law_565 : decode cLa_law 565 = .ok (.ireturn, 1) := by decide +kernel
theorem dLa_law_566 : decode cLa_law 566 = .ok (.goto 197, 3) := by decide +kernel
theorem dLa_law_569 : decode cLa_law 569 = .ok (.aload_n 1, 1) := by decide +kernel
theorem dLa_law_570 : decode cLa_law 570 = .ok (.aload_n 3, 1) := by decide +kernel
theorem dLa_law_571 : decode cLa_law 571 = .ok (.invokestatic 99, 3) := by decide +kernel
theorem dLa_law_574 : decode cLa_law 574 = .ok (.istore 5, 2) := by decide +kernel
theorem dLa_law_576 : decode cLa_law 576 = .ok (.aload_n 2, 1) := by decide +kernel
theorem dLa_law_577 : decode cLa_law 577 = .ok (.invokevirtual 102, 3) := by decide +kernel
theorem dLa_law_580 : decode cLa_law 580 = .ok (.istore 6, 2) := by decide +kernel
theorem dLa_law_582 : decode cLa_law 582 = .ok (.aload_n 2, 1) := by decide +kernel
theorem dLa_law_583 : decode cLa_law 583 = .ok (.invokevirtual 79, 3) := by decide +kernel
theorem dLa_law_586 : decode cLa_law 586 = .ok (.iload 5, 2) := by decide +kernel
theorem dLa_law_588 : decode cLa_law 588 = .ok (.if_icmp .eq 5, 3) := by decide +kernel
theorem dLa_law_591 : decode cLa_law 591 = .ok (.iconst 0, 1) := by decide +kernel
theorem dLa_law_592 : decode cLa_law 592 = .ok (.ireturn, 1) := by decide +kernel
theorem dLa_law_593 : decode cLa_law 593 = .ok (.iload 5, 2) := by decide +kernel
theorem dLa_law_595 : decode cLa_law 595 = .ok (.ifCond .ne 15, 3) := by decide +kernel
theorem dLa_law_598 : decode cLa_law 598 = .ok (.aload_n 3, 1) := by decide +kernel
theorem dLa_law_599 : decode cLa_law 599 = .ok (.iconst 0, 1) := by decide +kernel
theorem dLa_law_600 : decode cLa_law 600 = .ok (.laload, 1) := by decide +kernel
theorem dLa_law_601 : decode cLa_law 601 = .ok (.iload 6, 2) := by decide +kernel
theorem dLa_law_603 : decode cLa_law 603 = .ok (.i2l, 1) := by decide +kernel
theorem dLa_law_604 : decode cLa_law 604 = .ok (.lcmp, 1) := by decide +kernel
theorem dLa_law_605 : decode cLa_law 605 = .ok (.ifCond .eq 5, 3) := by decide +kernel
theorem dLa_law_608 : decode cLa_law 608 = .ok (.iconst 0, 1) := by decide +kernel
theorem dLa_law_609 : decode cLa_law 609 = .ok (.ireturn, 1) := by decide +kernel
theorem dLa_law_610 : decode cLa_law 610 = .ok (.goto 153, 3) := by decide +kernel
theorem dLa_law_613 : decode cLa_law 613 = .ok (.aload_n 1, 1) := by decide +kernel
theorem dLa_law_614 : decode cLa_law 614 = .ok (.aload_n 0, 1) := by decide +kernel
theorem dLa_law_615 : decode cLa_law 615 = .ok (.iload 4, 2) := by decide +kernel
theorem dLa_law_617 : decode cLa_law 617 = .ok (.iconst 1, 1) := by decide +kernel
theorem dLa_law_618 : decode cLa_law 618 = .ok (.iadd, 1) := by decide +kernel
theorem dLa_law_619 : decode cLa_law 619 = .ok (.iaload, 1) := by decide +kernel
theorem dLa_law_620 : decode cLa_law 620 = .ok (.aload_n 3, 1) := by decide +kernel
theorem dLa_law_621 : decode cLa_law 621 = .ok (.invokestatic 103, 3) := by decide +kernel
theorem dLa_law_624 : decode cLa_law 624 = .ok (.istore 5, 2) := by decide +kernel
theorem dLa_law_626 : decode cLa_law 626 = .ok (.aload_n 2, 1) := by decide +kernel
theorem dLa_law_627 : decode cLa_law 627 = .ok (.aload_n 0, 1) := by decide +kernel
theorem dLa_law_628 : decode cLa_law 628 = .ok (.iload 4, 2) := by decide +kernel
theorem dLa_law_630 : decode cLa_law 630 = .ok (.iconst 1, 1) := by decide +kernel
theorem dLa_law_631 : decode cLa_law 631 = .ok (.iadd, 1) := by decide +kernel
theorem dLa_law_632 : decode cLa_law 632 = .ok (.iaload, 1) := by decide +kernel
theorem dLa_law_633 : decode cLa_law 633 = .ok (.invokevirtual 105, 3) := by decide +kernel
theorem dLa_law_636 : decode cLa_law 636 = .ok (.istore 6, 2) := by decide +kernel
theorem dLa_law_638 : decode cLa_law 638 = .ok (.aload_n 2, 1) := by decide +kernel
theorem dLa_law_639 : decode cLa_law 639 = .ok (.invokevirtual 79, 3) := by decide +kernel
theorem dLa_law_642 : decode cLa_law 642 = .ok (.iload 5, 2) := by decide +kernel
theorem dLa_law_644 : decode cLa_law 644 = .ok (.if_icmp .eq 5, 3) := by decide +kernel
theorem dLa_law_647 : decode cLa_law 647 = .ok (.iconst 0, 1) := by decide +kernel
theorem dLa_law_648 : decode cLa_law 648 = .ok (.ireturn, 1) := by decide +kernel
theorem dLa_law_649 : decode cLa_law 649 = .ok (.iload 5, 2) := by decide +kernel
theorem dLa_law_651 : decode cLa_law 651 = .ok (.ifCond .ne 15, 3) := by decide +kernel
theorem dLa_law_654 : decode cLa_law 654 = .ok (.aload_n 3, 1) := by decide +kernel
theorem dLa_law_655 : decode cLa_law 655 = .ok (.iconst 0, 1) := by decide +kernel
theorem dLa_law_656 : decode cLa_law 656 = .ok (.laload, 1) := by decide +kernel
theorem dLa_law_657 : decode cLa_law 657 = .ok (.iload 6, 2) := by decide +kernel
theorem dLa_law_659 : decode cLa_law 659 = .ok (.i2l, 1) := by decide +kernel
theorem dLa_law_660 : decode cLa_law 660 = .ok (.lcmp, 1) := by decide +kernel
theorem dLa_law_661 : decode cLa_law 661 = .ok (.ifCond .eq 5, 3) := by decide +kernel
theorem dLa_law_664 : decode cLa_law 664 = .ok (.iconst 0, 1) := by decide +kernel
theorem dLa_law_665 : decode cLa_law 665 = .ok (.ireturn, 1) := by decide +kernel
theorem dLa_law_666 : decode cLa_law 666 = .ok (.goto 97, 3) := by decide +kernel
theorem dLa_law_669 : decode cLa_law 669 = .ok (.aload_n 1, 1) := by decide +kernel
theorem dLa_law_670 : decode cLa_law 670 = .ok (.invokevirtual 106, 3) := by decide +kernel
theorem dLa_law_673 : decode cLa_law 673 = .ok (.aload_n 2, 1) := by decide +kernel
theorem dLa_law_674 : decode cLa_law 674 = .ok (.invokevirtual 109, 3) := by decide +kernel
theorem dLa_law_677 : decode cLa_law 677 = .ok (.if_icmp .eq 86, 3) := by decide +kernel
theorem dLa_law_680 : decode cLa_law 680 = .ok (.iconst 0, 1) := by decide +kernel
theorem dLa_law_681 : decode cLa_law 681 = .ok (.ireturn, 1) := by decide +kernel
theorem dLa_law_682 : decode cLa_law 682 = .ok (.aload_n 1, 1) := by decide +kernel
theorem dLa_law_683 : decode cLa_law 683 = .ok (.invokevirtual 110, 3) := by decide +kernel
theorem dLa_law_686 : decode cLa_law 686 = .ok (.aload_n 2, 1) := by decide +kernel
theorem dLa_law_687 : decode cLa_law 687 = .ok (.invokevirtual 113, 3) := by decide +kernel
theorem dLa_law_690 : decode cLa_law 690 = .ok (.if_icmp .eq 73, 3) := by decide +kernel
theorem dLa_law_693 : decode cLa_law 693 = .ok (.iconst 0, 1) := by decide +kernel
theorem dLa_law_694 : decode cLa_law 694 = .ok (.ireturn, 1) := by decide +kernel
theorem dLa_law_695 : decode cLa_law 695 = .ok (.aload_n 1, 1) := by decide +kernel
theorem dLa_law_696 : decode cLa_law 696 = .ok (.invokevirtual 114, 3) := by decide +kernel
theorem dLa_law_699 : decode cLa_law 699 = .ok (.aload_n 2, 1) := by decide +kernel
theorem dLa_law_700 : decode cLa_law 700 = .ok (.invokevirtual 117, 3) := by decide +kernel
theorem dLa_law_703 : decode cLa_law 703 = .ok (.if_icmp .eq 60, 3) := by decide +kernel
theorem dLa_law_706 : decode cLa_law 706 = .ok (.iconst 0, 1) := by decide +kernel
theorem dLa_law_707 : decode cLa_law 707 = .ok (.ireturn, 1) := by decide +kernel
theorem dLa_law_708 : decode cLa_law 708 = .ok (.aload_n 1, 1) := by decide +kernel
theorem dLa_law_709 : decode cLa_law 709 = .ok (.aload_n 0, 1) := by decide +kernel
theorem dLa_law_710 : decode cLa_law 710 = .ok (.iload 4, 2) := by decide +kernel
theorem dLa_law_712 : decode cLa_law 712 = .ok (.iconst 1, 1) := by decide +kernel
theorem dLa_law_713 : decode cLa_law 713 = .ok (.iadd, 1) := by decide +kernel
theorem dLa_law_714 : decode cLa_law 714 = .ok (.iaload, 1) := by decide +kernel
theorem dLa_law_715 : decode cLa_law 715 = .ok (.aload_n 3, 1) := by decide +kernel
theorem dLa_law_716 : decode cLa_law 716 = .ok (.invokestatic 118, 3) := by decide +kernel
theorem dLa_law_719 : decode cLa_law 719 = .ok (.istore 5, 2) := by decide +kernel
theorem dLa_law_721 : decode cLa_law 721 = .ok (.aload_n 2, 1) := by decide +kernel
theorem dLa_law_722 : decode cLa_law 722 = .ok (.aload_n 0, 1) := by decide +kernel
theorem dLa_law_723 : decode cLa_law 723 = .ok (.iload 4, 2) := by decide +kernel
theorem dLa_law_725 : decode cLa_law 725 = .ok (.iconst 1, 1) := by decide +kernel
theorem dLa_law_726 : decode cLa_law 726 = .ok (.iadd, 1) := by decide +kernel
theorem dLa_law_727 : decode cLa_law 727 = .ok (.iaload, 1) := by decide +kernel
theorem dLa_law_728 : decode cLa_law 728 = .ok (.invokevirtual 120, 3) := by decide +kernel
theorem dLa_law_731 : decode cLa_law 731 = .ok (.lstore 6, 2) := by decide +kernel
theorem dLa_law_733 : decode cLa_law 733 = .ok (.aload_n 2, 1) := by decide +kernel
theorem dLa_law_734 : decode cLa_law 734 = .ok (.invokevirtual 79, 3) := by decide +kernel
theorem dLa_law_737 : decode cLa_law 737 = .ok (.iload 5, 2) := by decide +kernel
theorem dLa_law_739 : decode cLa_law 739 = .ok (.if_icmp .eq 5, 3) := by decide +kernel
theorem dLa_law_742 : decode cLa_law 742 = .ok (.iconst 0, 1) := by decide +kernel
theorem dLa_law_743 : decode cLa_law 743 = .ok (.ireturn, 1) := by decide +kernel
theorem dLa_law_744 : decode cLa_law 744 = .ok (.iload 5, 2) := by decide +kernel
theorem dLa_law_746 : decode cLa_law 746 = .ok (.ifCond .ne 14, 3) := by decide +kernel
theorem dLa_law_749 : decode cLa_law 749 = .ok (.aload_n 3, 1) := by decide +kernel
theorem dLa_law_750 : decode cLa_law 750 = .ok (.iconst 0, 1) := by decide +kernel
theorem dLa_law_751 : decode cLa_law 751 = .ok (.laload, 1) := by decide +kernel
theorem dLa_law_752 : decode cLa_law 752 = .ok (.lload 6, 2) := by decide +kernel
theorem dLa_law_754 : decode cLa_law 754 = .ok (.lcmp, 1) := by decide +kernel
theorem dLa_law_755 : decode cLa_law 755 = .ok (.ifCond .eq 5, 3) := by decide +kernel
theorem dLa_law_758 : decode cLa_law 758 = .ok (.iconst 0, 1) := by decide +kernel
theorem dLa_law_759 : decode cLa_law 759 = .ok (.ireturn, 1) := by decide +kernel
theorem dLa_law_760 : decode cLa_law 760 = .ok (.goto 3, 3) := by decide +kernel
theorem dLa_law_763 : decode cLa_law 763 = .ok (.iinc 4 4, 3) := by decide +kernel
theorem dLa_law_766 : decode cLa_law 766 = .ok (.goto (-743), 3) := by decide +kernel
theorem dLa_law_769 : decode cLa_law 769 = .ok (.iconst 1, 1) := by decide +kernel
theorem dLa_law_770 : decode cLa_law 770 = .ok (.ireturn, 1) := by decide +kernel
/-- what stands while the law runs -/
def LCX (p : Program) (l : Launch) (s : State) (m : MethodId) (meth : Method) (c : Code) (A : Nat → Prop) (dC : Nat → ClassId) (dI : Nat → Nat → Nat) (cI cJ cC : ClassId) (ad : Nat → Nat) (b L : Nat) (xs : Nat → Int32) : Prop :=
  p.tables.exec = Jvm.exec ∧ c.code = cLa_law ∧ meth.sig.returnType = ret ∧ c.maxLocals = 8 ∧ s.vm.findClass "ChessRulesLaw" = some m.cls ∧ (∀ w9 ∈ BIG, w9.before #[Value.ref b] s = true) ∧ va_X b L xs s s.heap ∧ b < s.heap.size ∧ meth.locks = false ∧
  va_K (dC, dI) vwCl (TYS cI cJ cC) s ∧ GY ad A s s.heap ∧ l.stackTraces = false ∧ L ≤ 2048 ∧ (∀ q : Nat, s.heap.size ≤ q → A q) ∧ (∀ q : Nat, A q → s.heap.size ≤ q)
/-- the law at a place, its k-th round, n rounds' cells made -/
def LST (p : Program) (l : Launch) (e : Env) (s : State) (m : MethodId) (below : List Frame) (meth : Method) (c : Code) (A : Nat → Prop) (dC : Nat → ClassId) (dI : Nat → Nat → Nat) (cI cJ cC : ClassId) (b pc k n : Nat) : Prop :=
  ∀ (x x_reader x_reader_text x_reader_text_characters x_reader_position x_reader_position_board x_reader_position_board_men x_reader_position_board_sets x_written x_written_characters x_game x_game_present x_game_present_board x_game_present_board_men x_game_present_board_sets x_game_told x_game_memories x_game_marks x_game_pictures y y_text y_out y_men y_pastMen y_pastSide y_pastRights y_pastPassed y_pastClock y_pastNumber y_pastTakes y_playedMoves y_keptMen y_keptRest y_lists y_counts out : Nat) (xS_reader : St_Re) (xS_written : St_Li) (xS_game : St_Ga) (yS_thrown : Int32) (yS_typed : Int32) (yS_text : Nat → Int32) (yS_told : Int32) (yS_out : Nat → Int32) (yS_men : Nat → Int32) (yS_side : Int32) (yS_rights : Int32) (yS_passed : Int32) (yS_clock : Int32) (yS_number : Int32) (yS_plies : Int32) (yS_pastMen : Nat → Int32) (yS_pastSide : Nat → Int32) (yS_pastRights : Nat → Int32) (yS_pastPassed : Nat → Int32) (yS_pastClock : Nat → Int32) (yS_pastNumber : Nat → Int32) (yS_pastTakes : Nat → Int64) (yS_playedMoves : Nat → Int32) (yS_keptMen : Nat → Int32) (yS_keptRest : Nat → Int32) (yS_lists : Nat → Int32) (yS_counts : Nat → Int32) (outS_a : Nat → Int64), z_INV xS_reader xS_written xS_game yS_typed yS_text yS_told yS_out yS_men yS_side yS_rights yS_passed yS_clock yS_number yS_plies yS_pastMen yS_pastSide yS_pastRights yS_pastPassed yS_pastClock yS_pastNumber yS_pastTakes yS_playedMoves →
    ∀ (H : Heap) (locs : List Loc), va_P (dC, dI) vwCl [(x, .inr (5, [.ref x_reader, .ref x_written, .ref x_game])), (x_reader, .inr (4, [.ref x_reader_text, .ref x_reader_position, .int xS_reader.2.2])), (x_reader_text, .inr (2, [.ref x_reader_text_characters, .int xS_reader.1.2])), (x_reader_text_characters, .inl (cC, 100, .inl xS_reader.1.1)), (x_reader_position, .inr (3, [.ref x_reader_position_board, .int xS_reader.2.1.2.1, .int xS_reader.2.1.2.2.1, .int xS_reader.2.1.2.2.2.1, .int xS_reader.2.1.2.2.2.2.1, .int xS_reader.2.1.2.2.2.2.2])), (x_reader_position_board, .inr (0, [.ref x_reader_position_board_men, .ref x_reader_position_board_sets])), (x_reader_position_board_men, .inl (cI, 64, .inl xS_reader.2.1.1.1)), (x_reader_position_board_sets, .inl (cJ, 16, .inr (.inl xS_reader.2.1.1.2))), (x_written, .inr (2, [.ref x_written_characters, .int xS_written.2])), (x_written_characters, .inl (cC, 100, .inl xS_written.1)), (x_game, .inr (1, [.ref x_game_present, .int xS_game.2.1, .ref x_game_told, .ref x_game_memories, .ref x_game_marks, .ref x_game_pictures])), (x_game_present, .inr (3, [.ref x_game_present_board, .int xS_game.1.2.1, .int xS_game.1.2.2.1, .int xS_game.1.2.2.2.1, .int xS_game.1.2.2.2.2.1, .int xS_game.1.2.2.2.2.2])), (x_game_present_board, .inr (0, [.ref x_game_present_board_men, .ref x_game_present_board_sets])), (x_game_present_board_men, .inl (cI, 64, .inl xS_game.1.1.1)), (x_game_present_board_sets, .inl (cJ, 16, .inr (.inl xS_game.1.1.2))), (x_game_told, .inl (cI, 400, .inl xS_game.2.2.1)), (x_game_memories, .inl (cI, 400, .inl xS_game.2.2.2.1)), (x_game_marks, .inl (cI, 401, .inl xS_game.2.2.2.2.1)), (x_game_pictures, .inl (cJ, 1604, .inr (.inl xS_game.2.2.2.2.2))), (y, .inr (6, [.int yS_thrown, .int yS_typed, .ref y_text, .int yS_told, .ref y_out, .ref y_men, .int yS_side, .int yS_rights, .int yS_passed, .int yS_clock, .int yS_number, .int yS_plies, .ref y_pastMen, .ref y_pastSide, .ref y_pastRights, .ref y_pastPassed, .ref y_pastClock, .ref y_pastNumber, .ref y_pastTakes, .ref y_playedMoves, .ref y_keptMen, .ref y_keptRest, .ref y_lists, .ref y_counts])), (y_text, .inl (cC, 100, .inl yS_text)), (y_out, .inl (cC, 100, .inl yS_out)), (y_men, .inl (cI, 64, .inl yS_men)), (y_pastMen, .inl (cI, 25664, .inl yS_pastMen)), (y_pastSide, .inl (cI, 401, .inl yS_pastSide)), (y_pastRights, .inl (cI, 401, .inl yS_pastRights)), (y_pastPassed, .inl (cI, 401, .inl yS_pastPassed)), (y_pastClock, .inl (cI, 401, .inl yS_pastClock)), (y_pastNumber, .inl (cI, 401, .inl yS_pastNumber)), (y_pastTakes, .inl (cJ, 401, .inr (.inl yS_pastTakes))), (y_playedMoves, .inl (cI, 400, .inl yS_playedMoves)), (y_keptMen, .inl (cI, 384, .inl yS_keptMen)), (y_keptRest, .inl (cI, 30, .inl yS_keptRest)), (y_lists, .inl (cI, 8192, .inl yS_lists)), (y_counts, .inl (cI, 4, .inl yS_counts)), (out, .inl (cJ, 1, .inr (.inl outS_a)))] H → va_D A [(x, .inr (5, [.ref x_reader, .ref x_written, .ref x_game])), (x_reader, .inr (4, [.ref x_reader_text, .ref x_reader_position, .int xS_reader.2.2])), (x_reader_text, .inr (2, [.ref x_reader_text_characters, .int xS_reader.1.2])), (x_reader_text_characters, .inl (cC, 100, .inl xS_reader.1.1)), (x_reader_position, .inr (3, [.ref x_reader_position_board, .int xS_reader.2.1.2.1, .int xS_reader.2.1.2.2.1, .int xS_reader.2.1.2.2.2.1, .int xS_reader.2.1.2.2.2.2.1, .int xS_reader.2.1.2.2.2.2.2])), (x_reader_position_board, .inr (0, [.ref x_reader_position_board_men, .ref x_reader_position_board_sets])), (x_reader_position_board_men, .inl (cI, 64, .inl xS_reader.2.1.1.1)), (x_reader_position_board_sets, .inl (cJ, 16, .inr (.inl xS_reader.2.1.1.2))), (x_written, .inr (2, [.ref x_written_characters, .int xS_written.2])), (x_written_characters, .inl (cC, 100, .inl xS_written.1)), (x_game, .inr (1, [.ref x_game_present, .int xS_game.2.1, .ref x_game_told, .ref x_game_memories, .ref x_game_marks, .ref x_game_pictures])), (x_game_present, .inr (3, [.ref x_game_present_board, .int xS_game.1.2.1, .int xS_game.1.2.2.1, .int xS_game.1.2.2.2.1, .int xS_game.1.2.2.2.2.1, .int xS_game.1.2.2.2.2.2])), (x_game_present_board, .inr (0, [.ref x_game_present_board_men, .ref x_game_present_board_sets])), (x_game_present_board_men, .inl (cI, 64, .inl xS_game.1.1.1)), (x_game_present_board_sets, .inl (cJ, 16, .inr (.inl xS_game.1.1.2))), (x_game_told, .inl (cI, 400, .inl xS_game.2.2.1)), (x_game_memories, .inl (cI, 400, .inl xS_game.2.2.2.1)), (x_game_marks, .inl (cI, 401, .inl xS_game.2.2.2.2.1)), (x_game_pictures, .inl (cJ, 1604, .inr (.inl xS_game.2.2.2.2.2))), (y, .inr (6, [.int yS_thrown, .int yS_typed, .ref y_text, .int yS_told, .ref y_out, .ref y_men, .int yS_side, .int yS_rights, .int yS_passed, .int yS_clock, .int yS_number, .int yS_plies, .ref y_pastMen, .ref y_pastSide, .ref y_pastRights, .ref y_pastPassed, .ref y_pastClock, .ref y_pastNumber, .ref y_pastTakes, .ref y_playedMoves, .ref y_keptMen, .ref y_keptRest, .ref y_lists, .ref y_counts])), (y_text, .inl (cC, 100, .inl yS_text)), (y_out, .inl (cC, 100, .inl yS_out)), (y_men, .inl (cI, 64, .inl yS_men)), (y_pastMen, .inl (cI, 25664, .inl yS_pastMen)), (y_pastSide, .inl (cI, 401, .inl yS_pastSide)), (y_pastRights, .inl (cI, 401, .inl yS_pastRights)), (y_pastPassed, .inl (cI, 401, .inl yS_pastPassed)), (y_pastClock, .inl (cI, 401, .inl yS_pastClock)), (y_pastNumber, .inl (cI, 401, .inl yS_pastNumber)), (y_pastTakes, .inl (cJ, 401, .inr (.inl yS_pastTakes))), (y_playedMoves, .inl (cI, 400, .inl yS_playedMoves)), (y_keptMen, .inl (cI, 384, .inl yS_keptMen)), (y_keptRest, .inl (cI, 30, .inl yS_keptRest)), (y_lists, .inl (cI, 8192, .inl yS_lists)), (y_counts, .inl (cI, 4, .inl yS_counts)), (out, .inl (cJ, 1, .inr (.inl outS_a)))] → va_S A s.heap H locs → ∀ ls : Array Slot, lv_has ls 8 [(0, .ref b), (1, .ref x), (2, .ref y), (3, .ref out), (4, .int (nI (4 * k)))] →
      W p l e room_1 s m #[Value.ref b] below meth c H locs (36 + n) (40566 + 6 * n) (lw_Z below #[Value.ref b] s) (F0 m pc ls [])
theorem lx_0 {k L : Nat} (h : 4 * k + 4 ≤ L) (hL : L ≤ 2048) : vp_in (nI (4 * k)) L := vp_in_nI (by omega) (by omega)
theorem lx_k {k L j : Nat} (h : 4 * k + 4 ≤ L) (hL : L ≤ 2048) (hj : j < 4) : vp_in (nI (4 * k) + nI j) L := by
  rw [z_nI_add]; exact vp_in_nI (by omega) (by omega)
theorem lx_go {k L : Nat} (hL : L ≤ 2048) (hk : k ≤ 1000) (h : ¬ (nI L - 4) < nI (4 * k)) : 4 * k + 4 ≤ L := by
  by_cases c : 4 ≤ L
  · rw [show nI L - 4 = nI (L - 4) from z_nI_sub (b := 4) c (by omega), z_nI_lt (by omega) (by omega)] at h
    omega
  · exfalso
    apply h
    rcases (show L = 0 ∨ L = 1 ∨ L = 2 ∨ L = 3 by omega) with e | e | e | e
    all_goals
      subst e
      rw [Int32.lt_iff_toInt_lt, z_nI_toInt (by omega)]
      exact Int.lt_of_lt_of_le (show _ < (0 : Int) by decide) (by omega)
