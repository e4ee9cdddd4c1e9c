theorem d_La_law_0 : decode code 0 = .ok (.new 8, 3) := by decide +kernel
theorem d_La_law_3 : decode code 3 = .ok (.dup, 1) := by decide +kernel
theorem d_La_law_4 : decode code 4 = .ok (.invokespecial 68, 3) := by decide +kernel
theorem d_La_law_7 : decode code 7 = .ok (.astore_n 1, 1) := by decide +kernel
theorem d_La_law_8 : decode code 8 = .ok (.new 69, 3) := by decide +kernel
theorem d_La_law_11 : decode code 11 = .ok (.dup, 1) := by decide +kernel
theorem d_La_law_12 : decode code 12 = .ok (.invokespecial 71, 3) := by decide +kernel
theorem d_La_law_15 : decode code 15 = .ok (.astore_n 2, 1) := by decide +kernel
theorem d_La_law_16 : decode code 16 = .ok (.iconst 1, 1) := by decide +kernel
theorem d_La_law_17 : decode code 17 = .ok (.newarray .long, 2) := by decide +kernel
theorem d_La_law_19 : decode code 19 = .ok (.astore_n 3, 1) := by decide +kernel
theorem d_La_law_20 : decode code 20 = .ok (.iconst 1, 1) := by decide +kernel
theorem d_La_law_21 : decode code 21 = .ok (.newarray .double, 2) := by decide +kernel
theorem d_La_law_23 : decode code 23 = .ok (.astore 4, 2) := by decide +kernel
theorem d_La_law_25 : decode code 25 = .ok (.iconst 0, 1) := by decide +kernel
theorem d_La_law_26 : decode code 26 = .ok (.istore 5, 2) := by decide +kernel
theorem d_La_law_28 : decode code 28 = .ok (.iload 5, 2) := by decide +kernel
theorem d_La_law_30 : decode code 30 = .ok (.aload_n 0, 1) := by decide +kernel
theorem d_La_law_31 : decode code 31 = .ok (.arraylength, 1) := by decide +kernel
theorem d_La_law_32 : decode code 32 = .ok (.bipush 6, 2) := by decide +kernel
theorem d_La_law_34 : decode code 34 = .ok (.isub, 1) := by decide +kernel
theorem d_La_law_35 : decode code 35 = .ok (.if_icmp .gt 1129, 3) := by decide +kernel
theorem d_La_law_38 : decode code 38 = .ok (.aload_n 0, 1) := by decide +kernel
theorem d_La_law_39 : decode code 39 = .ok (.iload 5, 2) := by decide +kernel
theorem d_La_law_41 : decode code 41 = .ok (.iaload, 1) := by decide +kernel
theorem d_La_law_42 : decode code 42 = .ok (.bipush 15, 2) := by decide +kernel
theorem d_La_law_44 : decode code 44 = .ok (.iand, 1) := by decide +kernel
theorem d_La_law_45 : decode code 45 = .ok (.tableswitch 1113 0 13 #[71, 151, 275, 365, 467, 557, 613, 669, 735, 791, 859, 927, 995, 1072], 71) := by decide +kernel
theorem d_La_law_116 : decode code 116 = .ok (.aload_n 1, 1) := by decide +kernel
theorem d_La_law_117 : decode code 117 = .ok (.aload_n 0, 1) := by decide +kernel
theorem d_La_law_118 : decode code 118 = .ok (.iload 5, 2) := by decide +kernel
theorem d_La_law_120 : decode code 120 = .ok (.iconst 1, 1) := by decide +kernel
theorem d_La_law_121 : decode code 121 = .ok (.iadd, 1) := by decide +kernel
theorem d_La_law_122 : decode code 122 = .ok (.iaload, 1) := by decide +kernel
theorem d_La_law_123 : decode code 123 = .ok (.aload_n 0, 1) := by decide +kernel
theorem d_La_law_124 : decode code 124 = .ok (.iload 5, 2) := by decide +kernel
theorem d_La_law_126 : decode code 126 = .ok (.iconst 2, 1) := by decide +kernel
theorem d_La_law_127 : decode code 127 = .ok (.iadd, 1) := by decide +kernel
theorem d_La_law_128 : decode code 128 = .ok (.iaload, 1) := by decide +kernel
theorem d_La_law_129 : decode code 129 = .ok (.aload_n 0, 1) := by decide +kernel
theorem d_La_law_130 : decode code 130 = .ok (.iload 5, 2) := by decide +kernel
theorem d_La_law_132 : decode code 132 = .ok (.iconst 3, 1) := by decide +kernel
theorem d_La_law_133 : decode code 133 = .ok (.iadd, 1) := by decide +kernel
theorem d_La_law_134 : decode code 134 = .ok (.iaload, 1) := by decide +kernel
theorem d_La_law_135 : decode code 135 = .ok (.aload_n 3, 1) := by decide +kernel
theorem d_La_law_136 : decode code 136 = .ok (.invokestatic 72, 3) := by decide +kernel
theorem d_La_law_139 : decode code 139 = .ok (.istore 6, 2) := by decide +kernel
theorem d_La_law_141 : decode code 141 = .ok (.aload_n 2, 1) := by decide +kernel
theorem d_La_law_142 : decode code 142 = .ok (.aload_n 0, 1) := by decide +kernel
theorem d_La_law_143 : decode code 143 = .ok (.iload 5, 2) := by decide +kernel
theorem d_La_law_145 : decode code 145 = .ok (.iconst 1, 1) := by decide +kernel
theorem d_La_law_146 : decode code 146 = .ok (.iadd, 1) := by decide +kernel
theorem d_La_law_147 : decode code 147 = .ok (.iaload, 1) := by decide +kernel
theorem d_La_law_148 : decode code 148 = .ok (.aload_n 0, 1) := by decide +kernel
theorem d_La_law_149 : decode code 149 = .ok (.iload 5, 2) := by decide +kernel
theorem d_La_law_151 : decode code 151 = .ok (.iconst 2, 1) := by decide +kernel
theorem d_La_law_152 : decode code 152 = .ok (.iadd, 1) := by decide +kernel
theorem d_La_law_153 : decode code 153 = .ok (.iaload, 1) := by decide +kernel
theorem d_La_law_154 : decode code 154 = .ok (.aload_n 0, 1) := by decide +kernel
theorem d_La_law_155 : decode code 155 = .ok (.iload 5, 2) := by decide +kernel
theorem d_La_law_157 : decode code 157 = .ok (.iconst 3, 1) := by decide +kernel
theorem d_La_law_158 : decode code 158 = .ok (.iadd, 1) := by decide +kernel
theorem d_La_law_159 : decode code 159 = .ok (.iaload, 1) := by decide +kernel
theorem d_La_law_160 : decode code 160 = .ok (.invokevirtual 77, 3) := by decide +kernel
theorem d_La_law_163 : decode code 163 = .ok (.istore 7, 2) := by decide +kernel
theorem d_La_law_165 : decode code 165 = .ok (.aload_n 2, 1) := by decide +kernel
theorem d_La_law_166 : decode code 166 = .ok (.invokevirtual 78, 3) := by decide +kernel
theorem d_La_law_169 : decode code 169 = .ok (.iload 6, 2) := by decide +kernel
theorem d_La_law_171 : decode code 171 = .ok (.if_icmp .eq 5, 3) := by decide +kernel
theorem d_La_law_174 : decode code 174 = .ok (.iconst 0, 1) := by decide +kernel
theorem d_La_law_175 : decode code 175 = .ok (.ireturn, 1) := by decide +kernel
theorem d_La_law_176 : decode code 176 = .ok (.iload 6, 2) := by decide +kernel
theorem d_La_law_178 : decode code 178 = .ok (.ifCond .ne 15, 3) := by decide +kernel
theorem d_La_law_181 : decode code 181 = .ok (.aload_n 3, 1) := by decide +kernel
theorem d_La_law_182 : decode code 182 = .ok (.iconst 0, 1) := by decide +kernel
theorem d_La_law_183 : decode code 183 = .ok (.laload, 1) := by decide +kernel
theorem d_La_law_184 : decode code 184 = .ok (.iload 7, 2) := by decide +kernel
theorem d_La_law_186 : decode code 186 = .ok (.i2l, 1) := by decide +kernel
theorem d_La_law_187 : decode code 187 = .ok (.lcmp, 1) := by decide +kernel
theorem d_La_law_188 : decode code 188 = .ok (.ifCond .eq 5, 3) := by decide +kernel
theorem d_La_law_191 : decode code 191 = .ok (.iconst 0, 1) := by decide +kernel
theorem d_La_law_192 : decode code 192 = .ok (.ireturn, 1) := by decide +kernel
theorem d_La_law_193 : decode code 193 = .ok (.goto 965, 3) := by decide +kernel
theorem d_La_law_196 : decode code 196 = .ok (.aload_n 1, 1) := by decide +kernel
theorem d_La_law_197 : decode code 197 = .ok (.aload_n 0, 1) := by decide +kernel
theorem d_La_law_198 : decode code 198 = .ok (.iload 5, 2) := by decide +kernel
theorem d_La_law_200 : decode code 200 = .ok (.iconst 1, 1) := by decide +kernel
theorem d_La_law_201 : decode code 201 = .ok (.iadd, 1) := by decide +kernel
theorem d_La_law_202 : decode code 202 = .ok (.iaload, 1) := by decide +kernel
theorem d_La_law_203 : decode code 203 = .ok (.aload_n 0, 1) := by decide +kernel
theorem d_La_law_204 : decode code 204 = .ok (.iload 5, 2) := by decide +kernel
theorem d_La_law_206 : decode code 206 = .ok (.iconst 2, 1) := by decide +kernel
theorem d_La_law_207 : decode code 207 = .ok (.iadd, 1) := by decide +kernel
theorem d_La_law_208 : decode code 208 = .ok (.iaload, 1) := by decide +kernel
theorem d_La_law_209 : decode code 209 = .ok (.aload_n 0, 1) := by decide +kernel
theorem d_La_law_210 : decode code 210 = .ok (.iload 5, 2) := by decide +kernel
theorem d_La_law_212 : decode code 212 = .ok (.iconst 3, 1) := by decide +kernel
theorem d_La_law_213 : decode code 213 = .ok (.iadd, 1) := by decide +kernel
theorem d_La_law_214 : decode code 214 = .ok (.iaload, 1) := by decide +kernel
theorem d_La_law_215 : decode code 215 = .ok (.aload_n 0, 1) := by decide +kernel
theorem d_La_law_216 : decode code 216 = .ok (.iload 5, 2) := by decide +kernel
theorem d_La_law_218 : decode code 218 = .ok (.iconst 4, 1) := by decide +kernel
theorem d_La_law_219 : decode code 219 = .ok (.iadd, 1) := by decide +kernel
theorem d_La_law_220 : decode code 220 = .ok (.iaload, 1) := by decide +kernel
theorem d_La_law_221 : decode code 221 = .ok (.i2d, 1) := by decide +kernel
theorem d_La_law_222 : decode code 222 = .ok (.ldc2_w 82, 3) := by decide +kernel
theorem d_La_law_225 : decode code 225 = .ok (.dmul, 1) := by decide +kernel
theorem d_La_law_226 : decode code 226 = .ok (.aload_n 0, 1) := by decide +kernel
theorem d_La_law_227 : decode code 227 = .ok (.iload 5, 2) := by decide +kernel
theorem d_La_law_229 : decode code 229 = .ok (.iconst 5, 1) := by decide +kernel
theorem d_La_law_230 : decode code 230 = .ok (.iadd, 1) := by decide +kernel
theorem d_La_law_231 : decode code 231 = .ok (.iaload, 1) := by decide +kernel
theorem d_La_law_232 : decode code 232 = .ok (.i2d, 1) := by decide +kernel
theorem d_La_law_233 : decode code 233 = .ok (.ldc2_w 82, 3) := by decide +kernel
theorem d_La_law_236 : decode code 236 = .ok (.dmul, 1) := by decide +kernel
theorem d_La_law_237 : decode code 237 = .ok (.aload_n 3, 1) := by decide +kernel
theorem d_La_law_238 : decode code 238 = .ok (.invokestatic 84, 3) := by decide +kernel
theorem d_La_law_241 : decode code 241 = .ok (.istore 6, 2) := by decide +kernel
theorem d_La_law_243 : decode code 243 = .ok (.aload_n 2, 1) := by decide +kernel
theorem d_La_law_244 : decode code 244 = .ok (.aload_n 0, 1) := by decide +kernel
theorem d_La_law_245 : decode code 245 = .ok (.iload 5, 2) := by decide +kernel
theorem d_La_law_247 : decode code 247 = .ok (.iconst 1, 1) := by decide +kernel
theorem d_La_law_248 : decode code 248 = .ok (.iadd, 1) := by decide +kernel
theorem d_La_law_249 : decode code 249 = .ok (.iaload, 1) := by decide +kernel
theorem d_La_law_250 : decode code 250 = .ok (.aload_n 0, 1) := by decide +kernel
theorem d_La_law_251 : decode code 251 = .ok (.iload 5, 2) := by decide +kernel
theorem d_La_law_253 : decode code 253 = .ok (.iconst 2, 1) := by decide +kernel
theorem d_La_law_254 : decode code 254 = .ok (.iadd, 1) := by decide +kernel
theorem d_La_law_255 : decode code 255 = .ok (.iaload, 1) := by decide +kernel
theorem d_La_law_256 : decode code 256 = .ok (.aload_n 0, 1) := by decide +kernel
theorem d_La_law_257 : decode code 257 = .ok (.iload 5, 2) := by decide +kernel
theorem d_La_law_259 : decode code 259 = .ok (.iconst 3, 1) := by decide +kernel
theorem d_La_law_260 : decode code 260 = .ok (.iadd, 1) := by decide +kernel
theorem d_La_law_261 : decode code 261 = .ok (.iaload, 1) := by decide +kernel
theorem d_La_law_262 : decode code 262 = .ok (.aload_n 0, 1) := by decide +kernel
theorem d_La_law_263 : decode code 263 = .ok (.iload 5, 2) := by decide +kernel
theorem d_La_law_265 : decode code 265 = .ok (.iconst 4, 1) := by decide +kernel
theorem d_La_law_266 : decode code 266 = .ok (.iadd, 1) := by decide +kernel
theorem d_La_law_267 : decode code 267 = .ok (.iaload, 1) := by decide +kernel
theorem d_La_law_268 : decode code 268 = .ok (.i2d, 1) := by decide +kernel
theorem d_La_law_269 : decode code 269 = .ok (.ldc2_w 82, 3) := by decide +kernel
theorem d_La_law_272 : decode code 272 = .ok (.dmul, 1) := by decide +kernel
theorem d_La_law_273 : decode code 273 = .ok (.aload_n 0, 1) := by decide +kernel
theorem d_La_law_274 : decode code 274 = .ok (.iload 5, 2) := by decide +kernel
theorem d_La_law_276 : decode code 276 = .ok (.iconst 5, 1) := by decide +kernel
theorem d_La_law_277 : decode code 277 = .ok (.iadd, 1) := by decide +kernel
theorem d_La_law_278 : decode code 278 = .ok (.iaload, 1) := by decide +kernel
theorem d_La_law_279 : decode code 279 = .ok (.i2d, 1) := by decide +kernel
theorem d_La_law_280 : decode code 280 = .ok (.ldc2_w 82, 3) := by decide +kernel
theorem d_La_law_283 : decode code 283 = .ok (.dmul, 1) := by decide +kernel
theorem d_La_law_284 : decode code 284 = .ok (.invokevirtual 87, 3) := by decide +kernel
theorem d_La_law_287 : decode code 287 = .ok (.istore 7, 2) := by decide +kernel
theorem d_La_law_289 : decode code 289 = .ok (.aload_n 2, 1) := by decide +kernel
theorem d_La_law_290 : decode code 290 = .ok (.invokevirtual 78, 3) := by decide +kernel
theorem d_La_law_293 : decode code 293 = .ok (.iload 6, 2) := by decide +kernel
theorem d_La_law_295 : decode code 295 = .ok (.if_icmp .eq 5, 3) := by decide +kernel
theorem d_La_law_298 : decode code 298 = .ok (.iconst 0, 1) := by decide +kernel
theorem d_La_law_299 : decode code 299 = .ok (.ireturn, 1) := by decide +kernel
theorem d_La_law_300 : decode code 300 = .ok (.iload 6, 2) := by decide +kernel
theorem d_La_law_302 : decode code 302 = .ok (.ifCond .ne 15, 3) := by decide +kernel
theorem d_La_law_305 : decode code 305 = .ok (.aload_n 3, 1) := by decide +kernel
theorem d_La_law_306 : decode code 306 = .ok (.iconst 0, 1) := by decide +kernel
theorem d_La_law_307 : decode code 307 = .ok (.laload, 1) := by decide +kernel
theorem d_La_law_308 : decode code 308 = .ok (.iload 7, 2) := by decide +kernel
theorem d_La_law_310 : decode code 310 = .ok (.i2l, 1) := by decide +kernel
theorem d_La_law_311 : decode code 311 = .ok (.lcmp, 1) := by decide +kernel
theorem d_La_law_312 : decode code 312 = .ok (.ifCond .eq 5, 3) := by decide +kernel
theorem d_La_law_315 : decode code 315 = .ok (.iconst 0, 1) := by decide +kernel
theorem d_La_law_316 : decode code 316 = .ok (.ireturn, 1) := by decide +kernel
theorem d_La_law_317 : decode code 317 = .ok (.goto 841, 3) := by decide +kernel
theorem d_La_law_320 : decode code 320 = .ok (.aload_n 1, 1) := by decide +kernel
theorem d_La_law_321 : decode code 321 = .ok (.aload_n 0, 1) := by decide +kernel
theorem d_La_law_322 : decode code 322 = .ok (.iload 5, 2) := by decide +kernel
theorem d_La_law_324 : decode code 324 = .ok (.iconst 1, 1) := by decide +kernel
theorem d_La_law_325 : decode code 325 = .ok (.iadd, 1) := by decide +kernel
theorem d_La_law_326 : decode code 326 = .ok (.iaload, 1) := by decide +kernel
theorem d_La_law_327 : decode code 327 = .ok (.aload_n 0, 1) := by decide +kernel
theorem d_La_law_328 : decode code 328 = .ok (.iload 5, 2) := by decide +kernel
theorem d_La_law_330 : decode code 330 = .ok (.iconst 2, 1) := by decide +kernel
theorem d_La_law_331 : decode code 331 = .ok (.iadd, 1) := by decide +kernel
theorem d_La_law_332 : decode code 332 = .ok (.iaload, 1) := by decide +kernel
theorem d_La_law_333 : decode code 333 = .ok (.aload_n 0, 1) := by decide +kernel
theorem d_La_law_334 : decode code 334 = .ok (.iload 5, 2) := by decide +kernel
theorem d_La_law_336 : decode code 336 = .ok (.iconst 3, 1) := by decide +kernel
theorem d_La_law_337 : decode code 337 = .ok (.iadd, 1) := by decide +kernel
theorem d_La_law_338 : decode code 338 = .ok (.iaload, 1) := by decide +kernel
theorem d_La_law_339 : decode code 339 = .ok (.i2d, 1) := by decide +kernel
theorem d_La_law_340 : decode code 340 = .ok (.ldc2_w 82, 3) := by decide +kernel
theorem d_La_law_343 : decode code 343 = .ok (.dmul, 1) := by decide +kernel
theorem d_La_law_344 : decode code 344 = .ok (.aload_n 3, 1) := by decide +kernel
theorem d_La_law_345 : decode code 345 = .ok (.invokestatic 88, 3) := by decide +kernel
theorem d_La_law_348 : decode code 348 = .ok (.istore 6, 2) := by decide +kernel
theorem d_La_law_350 : decode code 350 = .ok (.aload_n 2, 1) := by decide +kernel
theorem d_La_law_351 : decode code 351 = .ok (.aload_n 0, 1) := by decide +kernel
theorem d_La_law_352 : decode code 352 = .ok (.iload 5, 2) := by decide +kernel
theorem d_La_law_354 : decode code 354 = .ok (.iconst 1, 1) := by decide +kernel
theorem d_La_law_355 : decode code 355 = .ok (.iadd, 1) := by decide +kernel
theorem d_La_law_356 : decode code 356 = .ok (.iaload, 1) := by decide +kernel
theorem d_La_law_357 : decode code 357 = .ok (.aload_n 0, 1) := by decide +kernel
theorem d_La_law_358 : decode code 358 = .ok (.iload 5, 2) := by decide +kernel
theorem d_La_law_360 : decode code 360 = .ok (.iconst 2, 1) := by decide +kernel
theorem d_La_law_361 : decode code 361 = .ok (.iadd, 1) := by decide +kernel
theorem d_La_law_362 : decode code 362 = .ok (.iaload, 1) := by decide +kernel
theorem d_La_law_363 : decode code 363 = .ok (.aload_n 0, 1) := by decide +kernel
theorem d_La_law_364 : decode code 364 = .ok (.iload 5, 2) := by decide +kernel
theorem d_La_law_366 : decode code 366 = .ok (.iconst 3, 1) := by decide +kernel
theorem d_La_law_367 : decode code 367 = .ok (.iadd, 1) := by decide +kernel
theorem d_La_law_368 : decode code 368 = .ok (.iaload, 1) := by decide +kernel
theorem d_La_law_369 : decode code 369 = .ok (.i2d, 1) := by decide +kernel
theorem d_La_law_370 : decode code 370 = .ok (.ldc2_w 82, 3) := by decide +kernel
theorem d_La_law_373 : decode code 373 = .ok (.dmul, 1) := by decide +kernel
theorem d_La_law_374 : decode code 374 = .ok (.invokevirtual 91, 3) := by decide +kernel
theorem d_La_law_377 : decode code 377 = .ok (.istore 7, 2) := by decide +kernel
theorem d_La_law_379 : decode code 379 = .ok (.aload_n 2, 1) := by decide +kernel
theorem d_La_law_380 : decode code 380 = .ok (.invokevirtual 78, 3) := by decide +kernel
theorem d_La_law_383 : decode code 383 = .ok (.iload 6, 2) := by decide +kernel
theorem d_La_law_385 : decode code 385 = .ok (.if_icmp .eq 5, 3) := by decide +kernel
theorem d_La_law_388 : decode code 388 = .ok (.iconst 0, 1) := by decide +kernel
theorem d_La_law_389 : decode code 389 = .ok (.ireturn, 1) := by decide +kernel
theorem d_La_law_390 : decode code 390 = .ok (.iload 6, 2) := by decide +kernel
theorem d_La_law_392 : decode code 392 = .ok (.ifCond .ne 15, 3) := by decide +kernel
theorem d_La_law_395 : decode code 395 = .ok (.aload_n 3, 1) := by decide +kernel
theorem d_La_law_396 : decode code 396 = .ok (.iconst 0, 1) := by decide +kernel
theorem d_La_law_397 : decode code 397 = .ok (.laload, 1) := by decide +kernel
theorem d_La_law_398 : decode code 398 = .ok (.iload 7, 2) := by decide +kernel
theorem d_La_law_400 : decode code 400 = .ok (.i2l, 1) := by decide +kernel
theorem d_La_law_401 : decode code 401 = .ok (.lcmp, 1) := by decide +kernel
theorem d_La_law_402 : decode code 402 = .ok (.ifCond .eq 5, 3) := by decide +kernel
theorem d_La_law_405 : decode code 405 = .ok (.iconst 0, 1) := by decide +kernel
theorem d_La_law_406 : decode code 406 = .ok (.ireturn, 1) := by decide +kernel
theorem d_La_law_407 : decode code 407 = .ok (.goto 751, 3) := by decide +kernel
theorem d_La_law_410 : decode code 410 = .ok (.aload_n 1, 1) := by decide +kernel
theorem d_La_law_411 : decode code 411 = .ok (.aload_n 0, 1) := by decide +kernel
theorem d_La_law_412 : decode code 412 = .ok (.iload 5, 2) := by decide +kernel
theorem d_La_law_414 : decode code 414 = .ok (.iconst 1, 1) := by decide +kernel
theorem d_La_law_415 : decode code 415 = .ok (.iadd, 1) := by decide +kernel
theorem d_La_law_416 : decode code 416 = .ok (.iaload, 1) := by decide +kernel
theorem d_La_law_417 : decode code 417 = .ok (.aload_n 0, 1) := by decide +kernel
theorem d_La_law_418 : decode code 418 = .ok (.iload 5, 2) := by decide +kernel
theorem d_La_law_420 : decode code 420 = .ok (.iconst 2, 1) := by decide +kernel
theorem d_La_law_421 : decode code 421 = .ok (.iadd, 1) := by decide +kernel
theorem d_La_law_422 : decode code 422 = .ok (.iaload, 1) := by decide +kernel
theorem d_La_law_423 : decode code 423 = .ok (.aload_n 0, 1) := by decide +kernel
theorem d_La_law_424 : decode code 424 = .ok (.iload 5, 2) := by decide +kernel
theorem d_La_law_426 : decode code 426 = .ok (.iconst 3, 1) := by decide +kernel
theorem d_La_law_427 : decode code 427 = .ok (.iadd, 1) := by decide +kernel
theorem d_La_law_428 : decode code 428 = .ok (.iaload, 1) := by decide +kernel
theorem d_La_law_429 : decode code 429 = .ok (.aload_n 0, 1) := by decide +kernel
theorem d_La_law_430 : decode code 430 = .ok (.iload 5, 2) := by decide +kernel
theorem d_La_law_432 : decode code 432 = .ok (.iconst 4, 1) := by decide +kernel
theorem d_La_law_433 : decode code 433 = .ok (.iadd, 1) := by decide +kernel
theorem d_La_law_434 : decode code 434 = .ok (.iaload, 1) := by decide +kernel
theorem d_La_law_435 : decode code 435 = .ok (.i2d, 1) := by decide +kernel
theorem d_La_law_436 : decode code 436 = .ok (.ldc2_w 82, 3) := by decide +kernel
theorem d_La_law_439 : decode code 439 = .ok (.dmul, 1) := by decide +kernel
theorem d_La_law_440 : decode code 440 = .ok (.aload_n 3, 1) := by decide +kernel
theorem d_La_law_441 : decode code 441 = .ok (.invokestatic 92, 3) := by decide +kernel
theorem d_La_law_444 : decode code 444 = .ok (.istore 6, 2) := by decide +kernel
theorem d_La_law_446 : decode code 446 = .ok (.aload_n 2, 1) := by decide +kernel
theorem d_La_law_447 : decode code 447 = .ok (.aload_n 0, 1) := by decide +kernel
theorem d_La_law_448 : decode code 448 = .ok (.iload 5, 2) := by decide +kernel
theorem d_La_law_450 : decode code 450 = .ok (.iconst 1, 1) := by decide +kernel
theorem d_La_law_451 : decode code 451 = .ok (.iadd, 1) := by decide +kernel
theorem d_La_law_452 : decode code 452 = .ok (.iaload, 1) := by decide +kernel
theorem d_La_law_453 : decode code 453 = .ok (.aload_n 0, 1) := by decide +kernel
theorem d_La_law_454 : decode code 454 = .ok (.iload 5, 2) := by decide +kernel
theorem d_La_law_456 : decode code 456 = .ok (.iconst 2, 1) := by decide +kernel
theorem d_La_law_457 : decode code 457 = .ok (.iadd, 1) := by decide +kernel
theorem d_La_law_458 : decode code 458 = .ok (.iaload, 1) := by decide +kernel
theorem d_La_law_459 : decode code 459 = .ok (.aload_n 0, 1) := by decide +kernel
theorem d_La_law_460 : decode code 460 = .ok (.iload 5, 2) := by decide +kernel
theorem d_La_law_462 : decode code 462 = .ok (.iconst 3, 1) := by decide +kernel
theorem d_La_law_463 : decode code 463 = .ok (.iadd, 1) := by decide +kernel
theorem d_La_law_464 : decode code 464 = .ok (.iaload, 1) := by decide +kernel
theorem d_La_law_465 : decode code 465 = .ok (.aload_n 0, 1) := by decide +kernel
theorem d_La_law_466 : decode code 466 = .ok (.iload 5, 2) := by decide +kernel
theorem d_La_law_468 : decode code 468 = .ok (.iconst 4, 1) := by decide +kernel
theorem d_La_law_469 : decode code 469 = .ok (.iadd, 1) := by decide +kernel
theorem d_La_law_470 : decode code 470 = .ok (.iaload, 1) := by decide +kernel
theorem d_La_law_471 : decode code 471 = .ok (.i2d, 1) := by decide +kernel
theorem d_La_law_472 : decode code 472 = .ok (.ldc2_w 82, 3) := by decide +kernel
theorem d_La_law_475 : decode code 475 = .ok (.dmul, 1) := by decide +kernel
theorem d_La_law_476 : decode code 476 = .ok (.invokevirtual 95, 3) := by decide +kernel
theorem d_La_law_479 : decode code 479 = .ok (.istore 7, 2) := by decide +kernel
theorem d_La_law_481 : decode code 481 = .ok (.aload_n 2, 1) := by decide +kernel
theorem d_La_law_482 : decode code 482 = .ok (.invokevirtual 78, 3) := by decide +kernel
theorem d_La_law_485 : decode code 485 = .ok (.iload 6, 2) := by decide +kernel
theorem d_La_law_487 : decode code 487 = .ok (.if_icmp .eq 5, 3) := by decide +kernel
theorem d_La_law_490 : decode code 490 = .ok (.iconst 0, 1) := by decide +kernel
theorem d_La_law_491 : decode code 491 = .ok (.ireturn, 1) := by decide +kernel
theorem d_La_law_492 : decode code 492 = .ok (.iload 6, 2) := by decide +kernel
theorem d_La_law_494 : decode code 494 = .ok (.ifCond .ne 15, 3) := by decide +kernel
theorem d_La_law_497 : decode code 497 = .ok (.aload_n 3, 1) := by decide +kernel
theorem d_La_law_498 : decode code 498 = .ok (.iconst 0, 1) := by decide +kernel
theorem d_La_law_499 : decode code 499 = .ok (.laload, 1) := by decide +kernel
theorem d_La_law_500 : decode code 500 = .ok (.iload 7, 2) := by decide +kernel
theorem d_La_law_502 : decode code 502 = .ok (.i2l, 1) := by decide +kernel
theorem d_La_law_503 : decode code 503 = .ok (.lcmp, 1) := by decide +kernel
theorem d_La_law_504 : decode code 504 = .ok (.ifCond .eq 5, 3) := by decide +kernel
theorem d_La_law_507 : decode code 507 = .ok (.iconst 0, 1) := by decide +kernel
theorem d_La_law_508 : decode code 508 = .ok (.ireturn, 1) := by decide +kernel
theorem d_La_law_509 : decode code 509 = .ok (.goto 649, 3) := by decide +kernel
theorem d_La_law_512 : decode code 512 = .ok (.aload_n 1, 1) := by decide +kernel
theorem d_La_law_513 : decode code 513 = .ok (.aload_n 0, 1) := by decide +kernel
theorem d_La_law_514 : decode code 514 = .ok (.iload 5, 2) := by decide +kernel
theorem d_La_law_516 : decode code 516 = .ok (.iconst 1, 1) := by decide +kernel
theorem d_La_law_517 : decode code 517 = .ok (.iadd, 1) := by decide +kernel
theorem d_La_law_518 : decode code 518 = .ok (.iaload, 1) := by decide +kernel
theorem d_La_law_519 : decode code 519 = .ok (.aload_n 0, 1) := by decide +kernel
theorem d_La_law_520 : decode code 520 = .ok (.iload 5, 2) := by decide +kernel
theorem d_La_law_522 : decode code 522 = .ok (.iconst 2, 1) := by decide +kernel
theorem d_La_law_523 : decode code 523 = .ok (.iadd, 1) := by decide +kernel
theorem d_La_law_524 : decode code 524 = .ok (.iaload, 1) := by decide +kernel
theorem d_La_law_525 : decode code 525 = .ok (.aload_n 0, 1) := by decide +kernel
theorem d_La_law_526 : decode code 526 = .ok (.iload 5, 2) := by decide +kernel
theorem d_La_law_528 : decode code 528 = .ok (.iconst 3, 1) := by decide +kernel
theorem d_La_law_529 : decode code 529 = .ok (.iadd, 1) := by decide +kernel
theorem d_La_law_530 : decode code 530 = .ok (.iaload, 1) := by decide +kernel
theorem d_La_law_531 : decode code 531 = .ok (.i2d, 1) := by decide +kernel
theorem d_La_law_532 : decode code 532 = .ok (.ldc2_w 82, 3) := by decide +kernel
theorem d_La_law_535 : decode code 535 = .ok (.dmul, 1) := by decide +kernel
theorem d_La_law_536 : decode code 536 = .ok (.aload_n 3, 1) := by decide +kernel
theorem d_La_law_537 : decode code 537 = .ok (.invokestatic 96, 3) := by decide +kernel
theorem d_La_law_540 : decode code 540 = .ok (.istore 6, 2) := by decide +kernel
theorem d_La_law_542 : decode code 542 = .ok (.aload_n 2, 1) := by decide +kernel
theorem d_La_law_543 : decode code 543 = .ok (.aload_n 0, 1) := by decide +kernel
theorem d_La_law_544 : decode code 544 = .ok (.iload 5, 2) := by decide +kernel
theorem d_La_law_546 : decode code 546 = .ok (.iconst 1, 1) := by decide +kernel
theorem d_La_law_547 : decode code 547 = .ok (.iadd, 1) := by decide +kernel
theorem d_La_law_548 : decode code 548 = .ok (.iaload, 1) := by decide +kernel
theorem d_La_law_549 : decode code 549 = .ok (.aload_n 0, 1) := by decide +kernel
theorem d_La_law_550 : decode code 550 = .ok (.iload 5, 2) := by decide +kernel
theorem d_La_law_552 : decode code 552 = .ok (.iconst 2, 1) := by decide +kernel
theorem d_La_law_553 : decode code 553 = .ok (.iadd, 1) := by decide +kernel
theorem d_La_law_554 : decode code 554 = .ok (.iaload, 1) := by decide +kernel
theorem d_La_law_555 : decode code 555 = .ok (.aload_n 0, 1) := by decide +kernel
theorem d_La_law_556 : decode code 556 = .ok (.iload 5, 2) := by decide +kernel
theorem d_La_law_558 : decode code 558 = .ok (.iconst 3, 1) := by decide +kernel
theorem d_La_law_559 : decode code 559 = .ok (.iadd, 1) := by decide +kernel
theorem d_La_law_560 : decode code 560 = .ok (.iaload, 1) := by decide +kernel
theorem d_La_law_561 : decode code 561 = .ok (.i2d, 1) := by decide +kernel
theorem d_La_law_562 : decode code 562 = .ok (.ldc2_w 82, 3) := by decide +kernel
theorem d_La_law_565 : decode code 565 = .ok (.dmul, 1) := by decide +kernel
theorem d_La_law_566 : decode code 566 = .ok (.invokevirtual 98, 3) := by decide +kernel
theorem d_La_law_569 : decode code 569 = .ok (.istore 7, 2) := by decide +kernel
theorem d_La_law_571 : decode code 571 = .ok (.aload_n 2, 1) := by decide +kernel
theorem d_La_law_572 : decode code 572 = .ok (.invokevirtual 78, 3) := by decide +kernel
theorem d_La_law_575 : decode code 575 = .ok (.iload 6, 2) := by decide +kernel
theorem d_La_law_577 : decode code 577 = .ok (.if_icmp .eq 5, 3) := by decide +kernel
theorem d_La_law_580 : decode code 580 = .ok (.iconst 0, 1) := by decide +kernel
theorem d_La_law_581 : decode code 581 = .ok (.ireturn, 1) := by decide +kernel
theorem d_La_law_582 : decode code 582 = .ok (.iload 6, 2) := by decide +kernel
theorem d_La_law_584 : decode code 584 = .ok (.ifCond .ne 15, 3) := by decide +kernel
theorem d_La_law_587 : decode code 587 = .ok (.aload_n 3, 1) := by decide +kernel
theorem d_La_law_588 : decode code 588 = .ok (.iconst 0, 1) := by decide +kernel
theorem d_La_law_589 : decode code 589 = .ok (.laload, 1) := by decide +kernel
theorem d_La_law_590 : decode code 590 = .ok (.iload 7, 2) := by decide +kernel
theorem d_La_law_592 : decode code 592 = .ok (.i2l, 1) := by decide +kernel
theorem d_La_law_593 : decode code 593 = .ok (.lcmp, 1) := by decide +kernel
theorem d_La_law_594 : decode code 594 = .ok (.ifCond .eq 5, 3) := by decide +kernel
theorem d_La_law_597 : decode code 597 = .ok (.iconst 0, 1) := by decide +kernel
theorem d_La_law_598 : decode code 598 = .ok (.ireturn, 1) := by decide +kernel
theorem d_La_law_599 : decode code 599 = .ok (.goto 559, 3) := by decide +kernel
theorem d_La_law_602 : decode code 602 = .ok (.aload_n 1, 1) := by decide +kernel
theorem d_La_law_603 : decode code 603 = .ok (.aload_n 0, 1) := by decide +kernel
theorem d_La_law_604 : decode code 604 = .ok (.iload 5, 2) := by decide +kernel
theorem d_La_law_606 : decode code 606 = .ok (.iconst 1, 1) := by decide +kernel
theorem d_La_law_607 : decode code 607 = .ok (.iadd, 1) := by decide +kernel
theorem d_La_law_608 : decode code 608 = .ok (.iaload, 1) := by decide +kernel
theorem d_La_law_609 : decode code 609 = .ok (.aload_n 3, 1) := by decide +kernel
theorem d_La_law_610 : decode code 610 = .ok (.invokestatic 99, 3) := by decide +kernel
theorem d_La_law_613 : decode code 613 = .ok (.istore 6, 2) := by decide +kernel
theorem d_La_law_615 : decode code 615 = .ok (.aload_n 2, 1) := by decide +kernel
theorem d_La_law_616 : decode code 616 = .ok (.aload_n 0, 1) := by decide +kernel
theorem d_La_law_617 : decode code 617 = .ok (.iload 5, 2) := by decide +kernel
theorem d_La_law_619 : decode code 619 = .ok (.iconst 1, 1) := by decide +kernel
theorem d_La_law_620 : decode code 620 = .ok (.iadd, 1) := by decide +kernel
theorem d_La_law_621 : decode code 621 = .ok (.iaload, 1) := by decide +kernel
theorem d_La_law_622 : decode code 622 = .ok (.invokevirtual 102, 3) := by decide +kernel
theorem d_La_law_625 : decode code 625 = .ok (.istore 7, 2) := by decide +kernel
theorem d_La_law_627 : decode code 627 = .ok (.aload_n 2, 1) := by decide +kernel
theorem d_La_law_628 : decode code 628 = .ok (.invokevirtual 78, 3) := by decide +kernel
theorem d_La_law_631 : decode code 631 = .ok (.iload 6, 2) := by decide +kernel
theorem d_La_law_633 : decode code 633 = .ok (.if_icmp .eq 5, 3) := by decide +kernel
theorem d_La_law_636 : decode code 636 = .ok (.iconst 0, 1) := by decide +kernel
theorem d_La_law_637 : decode code 637 = .ok (.ireturn, 1) := by decide +kernel
theorem d_La_law_638 : decode code 638 = .ok (.iload 6, 2) := by decide +kernel
theorem d_La_law_640 : decode code 640 = .ok (.ifCond .ne 15, 3) := by decide +kernel
theorem d_La_law_643 : decode code 643 = .ok (.aload_n 3, 1) := by decide +kernel
theorem d_La_law_644 : decode code 644 = .ok (.iconst 0, 1) := by decide +kernel
theorem d_La_law_645 : decode code 645 = .ok (.laload, 1) := by decide +kernel
theorem d_La_law_646 : decode code 646 = .ok (.iload 7, 2) := by decide +kernel
theorem d_La_law_648 : decode code 648 = .ok (.i2l, 1) := by decide +kernel
theorem d_La_law_649 : decode code 649 = .ok (.lcmp, 1) := by decide +kernel
theorem d_La_law_650 : decode code 650 = .ok (.ifCond .eq 5, 3) := by decide +kernel
theorem d_La_law_653 : decode code 653 = .ok (.iconst 0, 1) := by decide +kernel
theorem d_La_law_654 : decode code 654 = .ok (.ireturn, 1) := by decide +kernel
theorem d_La_law_655 : decode code 655 = .ok (.goto 503, 3) := by decide +kernel
theorem d_La_law_658 : decode code 658 = .ok (.aload_n 1, 1) := by decide +kernel
theorem d_La_law_659 : decode code 659 = .ok (.aload_n 0, 1) := by decide +kernel
theorem d_La_law_660 : decode code 660 = .ok (.iload 5, 2) := by decide +kernel
theorem d_La_law_662 : decode code 662 = .ok (.iconst 1, 1) := by decide +kernel
theorem d_La_law_663 : decode code 663 = .ok (.iadd, 1) := by decide +kernel
theorem d_La_law_664 : decode code 664 = .ok (.iaload, 1) := by decide +kernel
theorem d_La_law_665 : decode code 665 = .ok (.aload_n 3, 1) := by decide +kernel
theorem d_La_law_666 : decode code 666 = .ok (.invokestatic 103, 3) := by decide +kernel
theorem d_La_law_669 : decode code 669 = .ok (.istore 6, 2) := by decide +kernel
theorem d_La_law_671 : decode code 671 = .ok (.aload_n 2, 1) := by decide +kernel
theorem d_La_law_672 : decode code 672 = .ok (.aload_n 0, 1) := by decide +kernel
theorem d_La_law_673 : decode code 673 = .ok (.iload 5, 2) := by decide +kernel
theorem d_La_law_675 : decode code 675 = .ok (.iconst 1, 1) := by decide +kernel
theorem d_La_law_676 : decode code 676 = .ok (.iadd, 1) := by decide +kernel
theorem d_La_law_677 : decode code 677 = .ok (.iaload, 1) := by decide +kernel
theorem d_La_law_678 : decode code 678 = .ok (.invokevirtual 105, 3) := by decide +kernel
theorem d_La_law_681 : decode code 681 = .ok (.istore 7, 2) := by decide +kernel
theorem d_La_law_683 : decode code 683 = .ok (.aload_n 2, 1) := by decide +kernel
theorem d_La_law_684 : decode code 684 = .ok (.invokevirtual 78, 3) := by decide +kernel
theorem d_La_law_687 : decode code 687 = .ok (.iload 6, 2) := by decide +kernel
theorem d_La_law_689 : decode code 689 = .ok (.if_icmp .eq 5, 3) := by decide +kernel
theorem d_La_law_692 : decode code 692 = .ok (.iconst 0, 1) := by decide +kernel
theorem d_La_law_693 : decode code 693 = .ok (.ireturn, 1) := by decide +kernel
theorem d_La_law_694 : decode code 694 = .ok (.iload 6, 2) := by decide +kernel
theorem d_La_law_696 : decode code 696 = .ok (.ifCond .ne 15, 3) := by decide +kernel
theorem d_La_law_699 : decode code 699 = .ok (.aload_n 3, 1) := by decide +kernel
theorem d_La_law_700 : decode code 700 = .ok (.iconst 0, 1) := by decide +kernel
theorem d_La_law_701 : decode code 701 = .ok (.laload, 1) := by decide +kernel
theorem d_La_law_702 : decode code 702 = .ok (.iload 7, 2) := by decide +kernel
theorem d_La_law_704 : decode code 704 = .ok (.i2l, 1) := by decide +kernel
theorem d_La_law_705 : decode code 705 = .ok (.lcmp, 1) := by decide +kernel
theorem d_La_law_706 : decode code 706 = .ok (.ifCond .eq 5, 3) := by decide +kernel
theorem d_La_law_709 : decode code 709 = .ok (.iconst 0, 1) := by decide +kernel
theorem d_La_law_710 : decode code 710 = .ok (.ireturn, 1) := by decide +kernel
theorem d_La_law_711 : decode code 711 = .ok (.goto 447, 3) := by decide +kernel
theorem d_La_law_714 : decode code 714 = .ok (.aload_n 1, 1) := by decide +kernel
theorem d_La_law_715 : decode code 715 = .ok (.aload_n 0, 1) := by decide +kernel
theorem d_La_law_716 : decode code 716 = .ok (.iload 5, 2) := by decide +kernel
theorem d_La_law_718 : decode code 718 = .ok (.iconst 1, 1) := by decide +kernel
theorem d_La_law_719 : decode code 719 = .ok (.iadd, 1) := by decide +kernel
theorem d_La_law_720 : decode code 720 = .ok (.iaload, 1) := by decide +kernel
theorem d_La_law_721 : decode code 721 = .ok (.i2d, 1) := by decide +kernel
theorem d_La_law_722 : decode code 722 = .ok (.ldc2_w 82, 3) := by decide +kernel
theorem d_La_law_725 : decode code 725 = .ok (.dmul, 1) := by decide +kernel
theorem d_La_law_726 : decode code 726 = .ok (.aload_n 3, 1) := by decide +kernel
theorem d_La_law_727 : decode code 727 = .ok (.invokestatic 106, 3) := by decide +kernel
theorem d_La_law_730 : decode code 730 = .ok (.istore 6, 2) := by decide +kernel
theorem d_La_law_732 : decode code 732 = .ok (.aload_n 2, 1) := by decide +kernel
theorem d_La_law_733 : decode code 733 = .ok (.aload_n 0, 1) := by decide +kernel
theorem d_La_law_734 : decode code 734 = .ok (.iload 5, 2) := by decide +kernel
theorem d_La_law_736 : decode code 736 = .ok (.iconst 1, 1) := by decide +kernel
theorem d_La_law_737 : decode code 737 = .ok (.iadd, 1) := by decide +kernel
theorem d_La_law_738 : decode code 738 = .ok (.iaload, 1) := by decide +kernel
theorem d_La_law_739 : decode code 739 = .ok (.i2d, 1) := by decide +kernel
theorem d_La_law_740 : decode code 740 = .ok (.ldc2_w 82, 3) := by decide +kernel
theorem d_La_law_743 : decode code 743 = .ok (.dmul, 1) := by decide +kernel
theorem d_La_law_744 : decode code 744 = .ok (.invokevirtual 109, 3) := by decide +kernel
theorem d_La_law_747 : decode code 747 = .ok (.istore 7, 2) := by decide +kernel
theorem d_La_law_749 : decode code 749 = .ok (.aload_n 2, 1) := by decide +kernel
theorem d_La_law_750 : decode code 750 = .ok (.invokevirtual 78, 3) := by decide +kernel
theorem d_La_law_753 : decode code 753 = .ok (.iload 6, 2) := by decide +kernel
theorem d_La_law_755 : decode code 755 = .ok (.if_icmp .eq 5, 3) := by decide +kernel
theorem d_La_law_758 : decode code 758 = .ok (.iconst 0, 1) := by decide +kernel
theorem d_La_law_759 : decode code 759 = .ok (.ireturn, 1) := by decide +kernel
theorem d_La_law_760 : decode code 760 = .ok (.iload 6, 2) := by decide +kernel
theorem d_La_law_762 : decode code 762 = .ok (.ifCond .ne 15, 3) := by decide +kernel
theorem d_La_law_765 : decode code 765 = .ok (.aload_n 3, 1) := by decide +kernel
theorem d_La_law_766 : decode code 766 = .ok (.iconst 0, 1) := by decide +kernel
theorem d_La_law_767 : decode code 767 = .ok (.laload, 1) := by decide +kernel
theorem d_La_law_768 : decode code 768 = .ok (.iload 7, 2) := by decide +kernel
theorem d_La_law_770 : decode code 770 = .ok (.i2l, 1) := by decide +kernel
theorem d_La_law_771 : decode code 771 = .ok (.lcmp, 1) := by decide +kernel
theorem d_La_law_772 : decode code 772 = .ok (.ifCond .eq 5, 3) := by decide +kernel
theorem d_La_law_775 : decode code 775 = .ok (.iconst 0, 1) := by decide +kernel
theorem d_La_law_776 : decode code 776 = .ok (.ireturn, 1) := by decide +kernel
theorem d_La_law_777 : decode code 777 = .ok (.goto 381, 3) := by decide +kernel
theorem d_La_law_780 : decode code 780 = .ok (.aload_n 1, 1) := by decide +kernel
theorem d_La_law_781 : decode code 781 = .ok (.aload_n 0, 1) := by decide +kernel
theorem d_La_law_782 : decode code 782 = .ok (.iload 5, 2) := by decide +kernel
theorem d_La_law_784 : decode code 784 = .ok (.iconst 1, 1) := by decide +kernel
theorem d_La_law_785 : decode code 785 = .ok (.iadd, 1) := by decide +kernel
theorem d_La_law_786 : decode code 786 = .ok (.iaload, 1) := by decide +kernel
theorem d_La_law_787 : decode code 787 = .ok (.aload_n 3, 1) := by decide +kernel
theorem d_La_law_788 : decode code 788 = .ok (.invokestatic 110, 3) := by decide +kernel
theorem d_La_law_791 : decode code 791 = .ok (.istore 6, 2) := by decide +kernel
theorem d_La_law_793 : decode code 793 = .ok (.aload_n 2, 1) := by decide +kernel
theorem d_La_law_794 : decode code 794 = .ok (.aload_n 0, 1) := by decide +kernel
theorem d_La_law_795 : decode code 795 = .ok (.iload 5, 2) := by decide +kernel
theorem d_La_law_797 : decode code 797 = .ok (.iconst 1, 1) := by decide +kernel
theorem d_La_law_798 : decode code 798 = .ok (.iadd, 1) := by decide +kernel
theorem d_La_law_799 : decode code 799 = .ok (.iaload, 1) := by decide +kernel
theorem d_La_law_800 : decode code 800 = .ok (.invokevirtual 112, 3) := by decide +kernel
theorem d_La_law_803 : decode code 803 = .ok (.istore 7, 2) := by decide +kernel
theorem d_La_law_805 : decode code 805 = .ok (.aload_n 2, 1) := by decide +kernel
theorem d_La_law_806 : decode code 806 = .ok (.invokevirtual 78, 3) := by decide +kernel
theorem d_La_law_809 : decode code 809 = .ok (.iload 6, 2) := by decide +kernel
theorem d_La_law_811 : decode code 811 = .ok (.if_icmp .eq 5, 3) := by decide +kernel
theorem d_La_law_814 : decode code 814 = .ok (.iconst 0, 1) := by decide +kernel
theorem d_La_law_815 : decode code 815 = .ok (.ireturn, 1) := by decide +kernel
theorem d_La_law_816 : decode code 816 = .ok (.iload 6, 2) := by decide +kernel
theorem d_La_law_818 : decode code 818 = .ok (.ifCond .ne 15, 3) := by decide +kernel
theorem d_La_law_821 : decode code 821 = .ok (.aload_n 3, 1) := by decide +kernel
theorem d_La_law_822 : decode code 822 = .ok (.iconst 0, 1) := by decide +kernel
theorem d_La_law_823 : decode code 823 = .ok (.laload, 1) := by decide +kernel
theorem d_La_law_824 : decode code 824 = .ok (.iload 7, 2) := by decide +kernel
theorem d_La_law_826 : decode code 826 = .ok (.i2l, 1) := by decide +kernel
theorem d_La_law_827 : decode code 827 = .ok (.lcmp, 1) := by decide +kernel
theorem d_La_law_828 : decode code 828 = .ok (.ifCond .eq 5, 3) := by decide +kernel
theorem d_La_law_831 : decode code 831 = .ok (.iconst 0, 1) := by decide +kernel
theorem d_La_law_832 : decode code 832 = .ok (.ireturn, 1) := by decide +kernel
theorem d_La_law_833 : decode code 833 = .ok (.goto 325, 3) := by decide +kernel
theorem d_La_law_836 : decode code 836 = .ok (.aload_n 1, 1) := by decide +kernel
theorem d_La_law_837 : decode code 837 = .ok (.aload_n 0, 1) := by decide +kernel
theorem d_La_law_838 : decode code 838 = .ok (.iload 5, 2) := by decide +kernel
theorem d_La_law_840 : decode code 840 = .ok (.iconst 1, 1) := by decide +kernel
theorem d_La_law_841 : decode code 841 = .ok (.iadd, 1) := by decide +kernel
theorem d_La_law_842 : decode code 842 = .ok (.iaload, 1) := by decide +kernel
theorem d_La_law_843 : decode code 843 = .ok (.aload_n 0, 1) := by decide +kernel
theorem d_La_law_844 : decode code 844 = .ok (.iload 5, 2) := by decide +kernel
theorem d_La_law_846 : decode code 846 = .ok (.iconst 2, 1) := by decide +kernel
theorem d_La_law_847 : decode code 847 = .ok (.iadd, 1) := by decide +kernel
theorem d_La_law_848 : decode code 848 = .ok (.iaload, 1) := by decide +kernel
theorem d_La_law_849 : decode code 849 = .ok (.aload_n 3, 1) := by decide +kernel
theorem d_La_law_850 : decode code 850 = .ok (.invokestatic 113, 3) := by decide +kernel
theorem d_La_law_853 : decode code 853 = .ok (.istore 6, 2) := by decide +kernel
theorem d_La_law_855 : decode code 855 = .ok (.aload_n 2, 1) := by decide +kernel
theorem d_La_law_856 : decode code 856 = .ok (.aload_n 0, 1) := by decide +kernel
theorem d_La_law_857 : decode code 857 = .ok (.iload 5, 2) := by decide +kernel
theorem d_La_law_859 : decode code 859 = .ok (.iconst 1, 1) := by decide +kernel
theorem d_La_law_860 : decode code 860 = .ok (.iadd, 1) := by decide +kernel
theorem d_La_law_861 : decode code 861 = .ok (.iaload, 1) := by decide +kernel
theorem d_La_law_862 : decode code 862 = .ok (.aload_n 0, 1) := by decide +kernel
theorem d_La_law_863 : decode code 863 = .ok (.iload 5, 2) := by decide +kernel
theorem d_La_law_865 : decode code 865 = .ok (.iconst 2, 1) := by decide +kernel
theorem d_La_law_866 : decode code 866 = .ok (.iadd, 1) := by decide +kernel
theorem d_La_law_867 : decode code 867 = .ok (.iaload, 1) := by decide +kernel
theorem d_La_law_868 : decode code 868 = .ok (.invokevirtual 116, 3) := by decide +kernel
theorem d_La_law_871 : decode code 871 = .ok (.istore 7, 2) := by decide +kernel
theorem d_La_law_873 : decode code 873 = .ok (.aload_n 2, 1) := by decide +kernel
theorem d_La_law_874 : decode code 874 = .ok (.invokevirtual 78, 3) := by decide +kernel
theorem d_La_law_877 : decode code 877 = .ok (.iload 6, 2) := by decide +kernel
theorem d_La_law_879 : decode code 879 = .ok (.if_icmp .eq 5, 3) := by decide +kernel
theorem d_La_law_882 : decode code 882 = .ok (.iconst 0, 1) := by decide +kernel
theorem d_La_law_883 : decode code 883 = .ok (.ireturn, 1) := by decide +kernel
theorem d_La_law_884 : decode code 884 = .ok (.iload 6, 2) := by decide +kernel
theorem d_La_law_886 : decode code 886 = .ok (.ifCond .ne 15, 3) := by decide +kernel
theorem d_La_law_889 : decode code 889 = .ok (.aload_n 3, 1) := by decide +kernel
theorem d_La_law_890 : decode code 890 = .ok (.iconst 0, 1) := by decide +kernel
theorem d_La_law_891 : decode code 891 = .ok (.laload, 1) := by decide +kernel
theorem d_La_law_892 : decode code 892 = .ok (.iload 7, 2) := by decide +kernel
theorem d_La_law_894 : decode code 894 = .ok (.i2l, 1) := by decide +kernel
theorem d_La_law_895 : decode code 895 = .ok (.lcmp, 1) := by decide +kernel
theorem d_La_law_896 : decode code 896 = .ok (.ifCond .eq 5, 3) := by decide +kernel
theorem d_La_law_899 : decode code 899 = .ok (.iconst 0, 1) := by decide +kernel
theorem d_La_law_900 : decode code 900 = .ok (.ireturn, 1) := by decide +kernel
theorem d_La_law_901 : decode code 901 = .ok (.goto 257, 3) := by decide +kernel
theorem d_La_law_904 : decode code 904 = .ok (.aload_n 1, 1) := by decide +kernel
theorem d_La_law_905 : decode code 905 = .ok (.aload_n 0, 1) := by decide +kernel
theorem d_La_law_906 : decode code 906 = .ok (.iload 5, 2) := by decide +kernel
theorem d_La_law_908 : decode code 908 = .ok (.iconst 1, 1) := by decide +kernel
theorem d_La_law_909 : decode code 909 = .ok (.iadd, 1) := by decide +kernel
theorem d_La_law_910 : decode code 910 = .ok (.iaload, 1) := by decide +kernel
theorem d_La_law_911 : decode code 911 = .ok (.aload_n 0, 1) := by decide +kernel
theorem d_La_law_912 : decode code 912 = .ok (.iload 5, 2) := by decide +kernel
theorem d_La_law_914 : decode code 914 = .ok (.iconst 2, 1) := by decide +kernel
theorem d_La_law_915 : decode code 915 = .ok (.iadd, 1) := by decide +kernel
theorem d_La_law_916 : decode code 916 = .ok (.iaload, 1) := by decide +kernel
theorem d_La_law_917 : decode code 917 = .ok (.aload_n 3, 1) := by decide +kernel
theorem d_La_law_918 : decode code 918 = .ok (.invokestatic 117, 3) := by decide +kernel
theorem d_La_law_921 : decode code 921 = .ok (.istore 6, 2) := by decide +kernel
theorem d_La_law_923 : decode code 923 = .ok (.aload_n 2, 1) := by decide +kernel
theorem d_La_law_924 : decode code 924 = .ok (.aload_n 0, 1) := by decide +kernel
theorem d_La_law_925 : decode code 925 = .ok (.iload 5, 2) := by decide +kernel
theorem d_La_law_927 : decode code 927 = .ok (.iconst 1, 1) := by decide +kernel
theorem d_La_law_928 : decode code 928 = .ok (.iadd, 1) := by decide +kernel
theorem d_La_law_929 : decode code 929 = .ok (.iaload, 1) := by decide +kernel
theorem d_La_law_930 : decode code 930 = .ok (.aload_n 0, 1) := by decide +kernel
theorem d_La_law_931 : decode code 931 = .ok (.iload 5, 2) := by decide +kernel
theorem d_La_law_933 : decode code 933 = .ok (.iconst 2, 1) := by decide +kernel
theorem d_La_law_934 : decode code 934 = .ok (.iadd, 1) := by decide +kernel
theorem d_La_law_935 : decode code 935 = .ok (.iaload, 1) := by decide +kernel
theorem d_La_law_936 : decode code 936 = .ok (.invokevirtual 119, 3) := by decide +kernel
theorem d_La_law_939 : decode code 939 = .ok (.istore 7, 2) := by decide +kernel
theorem d_La_law_941 : decode code 941 = .ok (.aload_n 2, 1) := by decide +kernel
theorem d_La_law_942 : decode code 942 = .ok (.invokevirtual 78, 3) := by decide +kernel
theorem d_La_law_945 : decode code 945 = .ok (.iload 6, 2) := by decide +kernel
theorem d_La_law_947 : decode code 947 = .ok (.if_icmp .eq 5, 3) := by decide +kernel
theorem d_La_law_950 : decode code 950 = .ok (.iconst 0, 1) := by decide +kernel
theorem d_La_law_951 : decode code 951 = .ok (.ireturn, 1) := by decide +kernel
theorem d_La_law_952 : decode code 952 = .ok (.iload 6, 2) := by decide +kernel
theorem d_La_law_954 : decode code 954 = .ok (.ifCond .ne 15, 3) := by decide +kernel
theorem d_La_law_957 : decode code 957 = .ok (.aload_n 3, 1) := by decide +kernel
theorem d_La_law_958 : decode code 958 = .ok (.iconst 0, 1) := by decide +kernel
theorem d_La_law_959 : decode code 959 = .ok (.laload, 1) := by decide +kernel
theorem d_La_law_960 : decode code 960 = .ok (.iload 7, 2) := by decide +kernel
theorem d_La_law_962 : decode code 962 = .ok (.i2l, 1) := by decide +kernel
theorem d_La_law_963 : decode code 963 = .ok (.lcmp, 1) := by decide +kernel
theorem d_La_law_964 : decode code 964 = .ok (.ifCond .eq 5, 3) := by decide +kernel
theorem d_La_law_967 : decode code 967 = .ok (.iconst 0, 1) := by decide +kernel
theorem d_La_law_968 : decode code 968 = .ok (.ireturn, 1) := by decide +kernel
theorem d_La_law_969 : decode code 969 = .ok (.goto 189, 3) := by decide +kernel
theorem d_La_law_972 : decode code 972 = .ok (.aload_n 1, 1) := by decide +kernel
theorem d_La_law_973 : decode code 973 = .ok (.aload_n 0, 1) := by decide +kernel
theorem d_La_law_974 : decode code 974 = .ok (.iload 5, 2) := by decide +kernel
theorem d_La_law_976 : decode code 976 = .ok (.iconst 1, 1) := by decide +kernel
theorem d_La_law_977 : decode code 977 = .ok (.iadd, 1) := by decide +kernel
theorem d_La_law_978 : decode code 978 = .ok (.iaload, 1) := by decide +kernel
theorem d_La_law_979 : decode code 979 = .ok (.aload_n 0, 1) := by decide +kernel
theorem d_La_law_980 : decode code 980 = .ok (.iload 5, 2) := by decide +kernel
theorem d_La_law_982 : decode code 982 = .ok (.iconst 2, 1) := by decide +kernel
theorem d_La_law_983 : decode code 983 = .ok (.iadd, 1) := by decide +kernel
theorem d_La_law_984 : decode code 984 = .ok (.iaload, 1) := by decide +kernel
theorem d_La_law_985 : decode code 985 = .ok (.aload_n 3, 1) := by decide +kernel
theorem d_La_law_986 : decode code 986 = .ok (.invokestatic 120, 3) := by decide +kernel
theorem d_La_law_989 : decode code 989 = .ok (.istore 6, 2) := by decide +kernel
theorem d_La_law_991 : decode code 991 = .ok (.aload_n 2, 1) := by decide +kernel
theorem d_La_law_992 : decode code 992 = .ok (.aload_n 0, 1) := by decide +kernel
theorem d_La_law_993 : decode code 993 = .ok (.iload 5, 2) := by decide +kernel
theorem d_La_law_995 : decode code 995 = .ok (.iconst 1, 1) := by decide +kernel
theorem d_La_law_996 : decode code 996 = .ok (.iadd, 1) := by decide +kernel
theorem d_La_law_997 : decode code 997 = .ok (.iaload, 1) := by decide +kernel
theorem d_La_law_998 : decode code 998 = .ok (.aload_n 0, 1) := by decide +kernel
theorem d_La_law_999 : decode code 999 = .ok (.iload 5, 2) := by decide +kernel
theorem d_La_law_1001 : decode code 1001 = .ok (.iconst 2, 1) := by decide +kernel
theorem d_La_law_1002 : decode code 1002 = .ok (.iadd, 1) := by decide +kernel
theorem d_La_law_1003 : decode code 1003 = .ok (.iaload, 1) := by decide +kernel
theorem d_La_law_1004 : decode code 1004 = .ok (.invokevirtual 122, 3) := by decide +kernel
theorem d_La_law_1007 : decode code 1007 = .ok (.istore 7, 2) := by decide +kernel
theorem d_La_law_1009 : decode code 1009 = .ok (.aload_n 2, 1) := by decide +kernel
theorem d_La_law_1010 : decode code 1010 = .ok (.invokevirtual 78, 3) := by decide +kernel
theorem d_La_law_1013 : decode code 1013 = .ok (.iload 6, 2) := by decide +kernel
theorem d_La_law_1015 : decode code 1015 = .ok (.if_icmp .eq 5, 3) := by decide +kernel
theorem d_La_law_1018 : decode code 1018 = .ok (.iconst 0, 1) := by decide +kernel
theorem d_La_law_1019 : decode code 1019 = .ok (.ireturn, 1) := by decide +kernel
theorem d_La_law_1020 : decode code 1020 = .ok (.iload 6, 2) := by decide +kernel
theorem d_La_law_1022 : decode code 1022 = .ok (.ifCond .ne 15, 3) := by decide +kernel
theorem d_La_law_1025 : decode code 1025 = .ok (.aload_n 3, 1) := by decide +kernel
theorem d_La_law_1026 : decode code 1026 = .ok (.iconst 0, 1) := by decide +kernel
theorem d_La_law_1027 : decode code 1027 = .ok (.laload, 1) := by decide +kernel
theorem d_La_law_1028 : decode code 1028 = .ok (.iload 7, 2) := by decide +kernel
theorem d_La_law_1030 : decode code 1030 = .ok (.i2l, 1) := by decide +kernel
theorem d_La_law_1031 : decode code 1031 = .ok (.lcmp, 1) := by decide +kernel
theorem d_La_law_1032 : decode code 1032 = .ok (.ifCond .eq 5, 3) := by decide +kernel
theorem d_La_law_1035 : decode code 1035 = .ok (.iconst 0, 1) := by decide +kernel
theorem d_La_law_1036 : decode code 1036 = .ok (.ireturn, 1) := by decide +kernel
theorem d_La_law_1037 : decode code 1037 = .ok (.goto 121, 3) := by decide +kernel
theorem d_La_law_1040 : decode code 1040 = .ok (.aload_n 1, 1) := by decide +kernel
theorem d_La_law_1041 : decode code 1041 = .ok (.aload_n 0, 1) := by decide +kernel
theorem d_La_law_1042 : decode code 1042 = .ok (.iload 5, 2) := by decide +kernel
theorem d_La_law_1044 : decode code 1044 = .ok (.iconst 1, 1) := by decide +kernel
theorem d_La_law_1045 : decode code 1045 = .ok (.iadd, 1) := by decide +kernel
theorem d_La_law_1046 : decode code 1046 = .ok (.iaload, 1) := by decide +kernel
theorem d_La_law_1047 : decode code 1047 = .ok (.aload 4, 2) := by decide +kernel
theorem d_La_law_1049 : decode code 1049 = .ok (.invokestatic 123, 3) := by decide +kernel
theorem d_La_law_1052 : decode code 1052 = .ok (.istore 6, 2) := by decide +kernel
theorem d_La_law_1054 : decode code 1054 = .ok (.aload_n 2, 1) := by decide +kernel
theorem d_La_law_1055 : decode code 1055 = .ok (.aload_n 0, 1) := by decide +kernel
theorem d_La_law_1056 : decode code 1056 = .ok (.iload 5, 2) := by decide +kernel
theorem d_La_law_1058 : decode code 1058 = .ok (.iconst 1, 1) := by decide +kernel
theorem d_La_law_1059 : decode code 1059 = .ok (.iadd, 1) := by decide +kernel
theorem d_La_law_1060 : decode code 1060 = .ok (.iaload, 1) := by decide +kernel
theorem d_La_law_1061 : decode code 1061 = .ok (.invokevirtual 126, 3) := by decide +kernel
theorem d_La_law_1064 : decode code 1064 = .ok (.dstore 7, 2) := by decide +kernel
theorem d_La_law_1066 : decode code 1066 = .ok (.aload_n 2, 1) := by decide +kernel
theorem d_La_law_1067 : decode code 1067 = .ok (.invokevirtual 78, 3) := by decide +kernel
theorem d_La_law_1070 : decode code 1070 = .ok (.iload 6, 2) := by decide +kernel
theorem d_La_law_1072 : decode code 1072 = .ok (.if_icmp .eq 5, 3) := by decide +kernel
theorem d_La_law_1075 : decode code 1075 = .ok (.iconst 0, 1) := by decide +kernel
theorem d_La_law_1076 : decode code 1076 = .ok (.ireturn, 1) := by decide +kernel
theorem d_La_law_1077 : decode code 1077 = .ok (.iload 6, 2) := by decide +kernel
theorem d_La_law_1079 : decode code 1079 = .ok (.ifCond .ne 35, 3) := by decide +kernel
theorem d_La_law_1082 : decode code 1082 = .ok (.aload 4, 2) := by decide +kernel
theorem d_La_law_1084 : decode code 1084 = .ok (.iconst 0, 1) := by decide +kernel
theorem d_La_law_1085 : decode code 1085 = .ok (.daload, 1) := by decide +kernel
theorem d_La_law_1086 : decode code 1086 = .ok (.dload 7, 2) := by decide +kernel
theorem d_La_law_1088 : decode code 1088 = .ok (.dcmp .l, 1) := by decide +kernel
theorem d_La_law_1089 : decode code 1089 = .ok (.ifCond .eq 25, 3) := by decide +kernel
theorem d_La_law_1092 : decode code 1092 = .ok (.aload 4, 2) := by decide +kernel
theorem d_La_law_1094 : decode code 1094 = .ok (.iconst 0, 1) := by decide +kernel
theorem d_La_law_1095 : decode code 1095 = .ok (.daload, 1) := by decide +kernel
theorem d_La_law_1096 : decode code 1096 = .ok (.aload 4, 2) := by decide +kernel
theorem d_La_law_1098 : decode code 1098 = .ok (.iconst 0, 1) := by decide +kernel
theorem d_La_law_1099 : decode code 1099 = .ok (.daload, 1) := by decide +kernel
theorem d_La_law_1100 : decode code 1100 = .ok (.dcmp .l, 1) := by decide +kernel
theorem d_La_law_1101 : decode code 1101 = .ok (.ifCond .eq 11, 3) := by decide +kernel
theorem d_La_law_1104 : decode code 1104 = .ok (.dload 7, 2) := by decide +kernel
theorem d_La_law_1106 : decode code 1106 = .ok (.dload 7, 2) := by decide +kernel
theorem d_La_law_1108 : decode code 1108 = .ok (.dcmp .l, 1) := by decide +kernel
theorem d_La_law_1109 : decode code 1109 = .ok (.ifCond .ne 5, 3) := by decide +kernel
theorem d_La_law_1112 : decode code 1112 = .ok (.iconst 0, 1) := by decide +kernel
theorem d_La_law_1113 : decode code 1113 = .ok (.ireturn, 1) := by decide +kernel
theorem d_La_law_1114 : decode code 1114 = .ok (.goto 44, 3) := by decide +kernel
theorem d_La_law_1117 : decode code 1117 = .ok (.aload_n 1, 1) := by decide +kernel
theorem d_La_law_1118 : decode code 1118 = .ok (.invokevirtual 127, 3) := by decide +kernel
theorem d_La_law_1121 : decode code 1121 = .ok (.dstore 6, 2) := by decide +kernel
theorem d_La_law_1123 : decode code 1123 = .ok (.aload_n 2, 1) := by decide +kernel
theorem d_La_law_1124 : decode code 1124 = .ok (.invokevirtual 131, 3) := by decide +kernel
theorem d_La_law_1127 : decode code 1127 = .ok (.dstore 8, 2) := by decide +kernel
theorem d_La_law_1129 : decode code 1129 = .ok (.dload 6, 2) := by decide +kernel
theorem d_La_law_1131 : decode code 1131 = .ok (.dload 8, 2) := by decide +kernel
theorem d_La_law_1133 : decode code 1133 = .ok (.dcmp .l, 1) := by decide +kernel
theorem d_La_law_1134 : decode code 1134 = .ok (.ifCond .eq 21, 3) := by decide +kernel
theorem d_La_law_1137 : decode code 1137 = .ok (.dload 6, 2) := by decide +kernel
theorem d_La_law_1139 : decode code 1139 = .ok (.dload 6, 2) := by decide +kernel
theorem d_La_law_1141 : decode code 1141 = .ok (.dcmp .l, 1) := by decide +kernel
theorem d_La_law_1142 : decode code 1142 = .ok (.ifCond .eq 11, 3) := by decide +kernel
theorem d_La_law_1145 : decode code 1145 = .ok (.dload 8, 2) := by decide +kernel
theorem d_La_law_1147 : decode code 1147 = .ok (.dload 8, 2) := by decide +kernel
theorem d_La_law_1149 : decode code 1149 = .ok (.dcmp .l, 1) := by decide +kernel
theorem d_La_law_1150 : decode code 1150 = .ok (.ifCond .ne 5, 3) := by decide +kernel
theorem d_La_law_1153 : decode code 1153 = .ok (.iconst 0, 1) := by decide +kernel
theorem d_La_law_1154 : decode code 1154 = .ok (.ireturn, 1) := by decide +kernel
theorem d_La_law_1155 : decode code 1155 = .ok (.goto 3, 3) := by decide +kernel
theorem d_La_law_1158 : decode code 1158 = .ok (.iinc 5 6, 3) := by decide +kernel
theorem d_La_law_1161 : decode code 1161 = .ok (.goto (-1133), 3) := by decide +kernel
theorem d_La_law_1164 : decode code 1164 = .ok (.iconst 1, 1) := by decide +kernel
theorem d_La_law_1165 : decode code 1165 = .ok (.ireturn, 1) := by decide +kernel
def wp_La_law_1158 (G ca : Nat → Nat) (L : Nat) (xs : Nat → Int32) (k_16 : hM → Nat → Nat → Nat → Nat → Int32 → Prop) (M : hM) (l1b1158 : Nat) (l2b1158 : Nat) (l3b1158 : Nat) (l4b1158 : Nat) (l5b1158 : Int32) : Prop := k_16 M l1b1158 l2b1158 l3b1158 l4b1158 (l5b1158 + 6)
def wp_La_law_1155 (G ca : Nat → Nat) (L : Nat) (xs : Nat → Int32) (k_16 : hM → Nat → Nat → Nat → Nat → Int32 → Prop) (M : hM) (l1b1155 : Nat) (l2b1155 : Nat) (l3b1155 : Nat) (l4b1155 : Nat) (l5b1155 : Int32) : Prop := wp_La_law_1158 G ca L xs k_16 M l1b1155 l2b1155 l3b1155 l4b1155 l5b1155
def wp_La_law_1153 (G ca : Nat → Nat) (L : Nat) (xs : Nat → Int32) (M : hM)  : Prop := False
def wp_La_law_1114 (G ca : Nat → Nat) (L : Nat) (xs : Nat → Int32) (k_16 : hM → Nat → Nat → Nat → Nat → Int32 → Prop) (M : hM) (l1b1114 : Nat) (l2b1114 : Nat) (l3b1114 : Nat) (l4b1114 : Nat) (l5b1114 : Int32) : Prop := wp_La_law_1158 G ca L xs k_16 M l1b1114 l2b1114 l3b1114 l4b1114 l5b1114
def wp_La_law_1112 (G ca : Nat → Nat) (L : Nat) (xs : Nat → Int32) (M : hM)  : Prop := False
def wp_La_law_1037 (G ca : Nat → Nat) (L : Nat) (xs : Nat → Int32) (k_16 : hM → Nat → Nat → Nat → Nat → Int32 → Prop) (M : hM) (l1b1037 : Nat) (l2b1037 : Nat) (l3b1037 : Nat) (l4b1037 : Nat) (l5b1037 : Int32) : Prop := wp_La_law_1158 G ca L xs k_16 M l1b1037 l2b1037 l3b1037 l4b1037 l5b1037
def wp_La_law_969 (G ca : Nat → Nat) (L : Nat) (xs : Nat → Int32) (k_16 : hM → Nat → Nat → Nat → Nat → Int32 → Prop) (M : hM) (l1b969 : Nat) (l2b969 : Nat) (l3b969 : Nat) (l4b969 : Nat) (l5b969 : Int32) : Prop := wp_La_law_1158 G ca L xs k_16 M l1b969 l2b969 l3b969 l4b969 l5b969
def wp_La_law_901 (G ca : Nat → Nat) (L : Nat) (xs : Nat → Int32) (k_16 : hM → Nat → Nat → Nat → Nat → Int32 → Prop) (M : hM) (l1b901 : Nat) (l2b901 : Nat) (l3b901 : Nat) (l4b901 : Nat) (l5b901 : Int32) : Prop := wp_La_law_1158 G ca L xs k_16 M l1b901 l2b901 l3b901 l4b901 l5b901
def wp_La_law_833 (G ca : Nat → Nat) (L : Nat) (xs : Nat → Int32) (k_16 : hM → Nat → Nat → Nat → Nat → Int32 → Prop) (M : hM) (l1b833 : Nat) (l2b833 : Nat) (l3b833 : Nat) (l4b833 : Nat) (l5b833 : Int32) : Prop := wp_La_law_1158 G ca L xs k_16 M l1b833 l2b833 l3b833 l4b833 l5b833
def wp_La_law_777 (G ca : Nat → Nat) (L : Nat) (xs : Nat → Int32) (k_16 : hM → Nat → Nat → Nat → Nat → Int32 → Prop) (M : hM) (l1b777 : Nat) (l2b777 : Nat) (l3b777 : Nat) (l4b777 : Nat) (l5b777 : Int32) : Prop := wp_La_law_1158 G ca L xs k_16 M l1b777 l2b777 l3b777 l4b777 l5b777
def wp_La_law_711 (G ca : Nat → Nat) (L : Nat) (xs : Nat → Int32) (k_16 : hM → Nat → Nat → Nat → Nat → Int32 → Prop) (M : hM) (l1b711 : Nat) (l2b711 : Nat) (l3b711 : Nat) (l4b711 : Nat) (l5b711 : Int32) : Prop := wp_La_law_1158 G ca L xs k_16 M l1b711 l2b711 l3b711 l4b711 l5b711
def wp_La_law_655 (G ca : Nat → Nat) (L : Nat) (xs : Nat → Int32) (k_16 : hM → Nat → Nat → Nat → Nat → Int32 → Prop) (M : hM) (l1b655 : Nat) (l2b655 : Nat) (l3b655 : Nat) (l4b655 : Nat) (l5b655 : Int32) : Prop := wp_La_law_1158 G ca L xs k_16 M l1b655 l2b655 l3b655 l4b655 l5b655
def wp_La_law_599 (G ca : Nat → Nat) (L : Nat) (xs : Nat → Int32) (k_16 : hM → Nat → Nat → Nat → Nat → Int32 → Prop) (M : hM) (l1b599 : Nat) (l2b599 : Nat) (l3b599 : Nat) (l4b599 : Nat) (l5b599 : Int32) : Prop := wp_La_law_1158 G ca L xs k_16 M l1b599 l2b599 l3b599 l4b599 l5b599
def wp_La_law_509 (G ca : Nat → Nat) (L : Nat) (xs : Nat → Int32) (k_16 : hM → Nat → Nat → Nat → Nat → Int32 → Prop) (M : hM) (l1b509 : Nat) (l2b509 : Nat) (l3b509 : Nat) (l4b509 : Nat) (l5b509 : Int32) : Prop := wp_La_law_1158 G ca L xs k_16 M l1b509 l2b509 l3b509 l4b509 l5b509
def wp_La_law_407 (G ca : Nat → Nat) (L : Nat) (xs : Nat → Int32) (k_16 : hM → Nat → Nat → Nat → Nat → Int32 → Prop) (M : hM) (l1b407 : Nat) (l2b407 : Nat) (l3b407 : Nat) (l4b407 : Nat) (l5b407 : Int32) : Prop := wp_La_law_1158 G ca L xs k_16 M l1b407 l2b407 l3b407 l4b407 l5b407
def wp_La_law_317 (G ca : Nat → Nat) (L : Nat) (xs : Nat → Int32) (k_16 : hM → Nat → Nat → Nat → Nat → Int32 → Prop) (M : hM) (l1b317 : Nat) (l2b317 : Nat) (l3b317 : Nat) (l4b317 : Nat) (l5b317 : Int32) : Prop := wp_La_law_1158 G ca L xs k_16 M l1b317 l2b317 l3b317 l4b317 l5b317
def wp_La_law_193 (G ca : Nat → Nat) (L : Nat) (xs : Nat → Int32) (k_16 : hM → Nat → Nat → Nat → Nat → Int32 → Prop) (M : hM) (l1b193 : Nat) (l2b193 : Nat) (l3b193 : Nat) (l4b193 : Nat) (l5b193 : Int32) : Prop := wp_La_law_1158 G ca L xs k_16 M l1b193 l2b193 l3b193 l4b193 l5b193
def wp_La_law_28 (G ca : Nat → Nat) (L : Nat) (xs : Nat → Int32) : Nat → hM → Nat → Nat → Nat → Nat → Int32 → Prop
  | 0, _, _, _, _, _, _ => False
  | n + 1, M, l1b28, l2b28, l3b28, l4b28, l5b28 => (((Int32.ofNat L) - 6) < l5b28 → True) ∧ (¬ ((Int32.ofNat L) - 6) < l5b28 → 0 < n ∧ vp_in l5b28 L ∧ ∀ v342 : Int32, v342 = xs ((l5b28) : Int32).toNatClampNeg → ((v342 &&& 15) = 0 → vp_in (l5b28 + 1) L ∧ ∀ v343 : Int32, v343 = xs ((l5b28 + 1) : Int32).toNatClampNeg → vp_in (l5b28 + 2) L ∧ ∀ v344 : Int32, v344 = xs ((l5b28 + 2) : Int32).toNatClampNeg → vp_in (l5b28 + 3) L ∧ ∀ v345 : Int32, v345 = xs ((l5b28 + 3) : Int32).toNatClampNeg → spl M fun Ma348 Mb349 => wp_La_make G ca (fun r346 Mc350 => dis Mc350 Mb349 → ∀ M347 : hM, M347 = uni Mc350 Mb349 → vp_in (l5b28 + 1) L ∧ ∀ v351 : Int32, v351 = xs ((l5b28 + 1) : Int32).toNatClampNeg → vp_in (l5b28 + 2) L ∧ ∀ v352 : Int32, v352 = xs ((l5b28 + 2) : Int32).toNatClampNeg → vp_in (l5b28 + 3) L ∧ ∀ v353 : Int32, v353 = xs ((l5b28 + 3) : Int32).toNatClampNeg → spl M347 fun Ma356 Mb357 => rC Ma356 l2b28 5 (wp_Mo_make G ca (fun r354 Mc358 => dis Mc358 Mb357 → ∀ M355 : hM, M355 = uni Mc358 Mb357 → spl M355 fun Ma361 Mb362 => rC Ma361 l2b28 5 (wp_Mo_thrown G ca (fun r359 Mc363 => dis Mc363 Mb362 → ∀ M360 : hM, M360 = uni Mc363 Mb362 → (r359 = r346 → (¬ r346 = 0 → wp_La_law_193 G ca L xs (wp_La_law_28 G ca L xs n) M360 l1b28 l2b28 l3b28 l4b28 l5b28) ∧ (r346 = 0 → aJ M360 l3b28 (ca 3) 0 fun v366 => ((lg_cmp v366 r354.toInt64) = 0 → wp_La_law_193 G ca L xs (wp_La_law_28 G ca L xs n) M360 l1b28 l2b28 l3b28 l4b28 l5b28) ∧ (¬ (lg_cmp v366 r354.toInt64) = 0 → False))) ∧ (¬ r359 = r346 → False)) Ma361 l2b28)) Ma356 l2b28 v351 v352 v353)) Ma348 (some l1b28) v343 v344 v345 (some l3b28)) ∧ (¬ (v342 &&& 15) = 0 → ((v342 &&& 15) = 1 → vp_in (l5b28 + 1) L ∧ ∀ v368 : Int32, v368 = xs ((l5b28 + 1) : Int32).toNatClampNeg → vp_in (l5b28 + 2) L ∧ ∀ v369 : Int32, v369 = xs ((l5b28 + 2) : Int32).toNatClampNeg → vp_in (l5b28 + 3) L ∧ ∀ v370 : Int32, v370 = xs ((l5b28 + 3) : Int32).toNatClampNeg → vp_in (l5b28 + 4) L ∧ ∀ v371 : Int32, v371 = xs ((l5b28 + 4) : Int32).toNatClampNeg → nD (FP.dmul (FP.i2d v371) 4593671619917905920) (vp_in (l5b28 + 5) L ∧ ∀ v372 : Int32, v372 = xs ((l5b28 + 5) : Int32).toNatClampNeg → nD (FP.dmul (FP.i2d v372) 4593671619917905920) (spl M fun Ma375 Mb376 => wp_La_give G ca (fun r373 Mc377 => dis Mc377 Mb376 → ∀ M374 : hM, M374 = uni Mc377 Mb376 → vp_in (l5b28 + 1) L ∧ ∀ v378 : Int32, v378 = xs ((l5b28 + 1) : Int32).toNatClampNeg → vp_in (l5b28 + 2) L ∧ ∀ v379 : Int32, v379 = xs ((l5b28 + 2) : Int32).toNatClampNeg → vp_in (l5b28 + 3) L ∧ ∀ v380 : Int32, v380 = xs ((l5b28 + 3) : Int32).toNatClampNeg → vp_in (l5b28 + 4) L ∧ ∀ v381 : Int32, v381 = xs ((l5b28 + 4) : Int32).toNatClampNeg → nD (FP.dmul (FP.i2d v381) 4593671619917905920) (vp_in (l5b28 + 5) L ∧ ∀ v382 : Int32, v382 = xs ((l5b28 + 5) : Int32).toNatClampNeg → nD (FP.dmul (FP.i2d v382) 4593671619917905920) (spl M374 fun Ma385 Mb386 => rC Ma385 l2b28 5 (wp_Mo_give G ca (fun r383 Mc387 => dis Mc387 Mb386 → ∀ M384 : hM, M384 = uni Mc387 Mb386 → spl M384 fun Ma390 Mb391 => rC Ma390 l2b28 5 (wp_Mo_thrown G ca (fun r388 Mc392 => dis Mc392 Mb391 → ∀ M389 : hM, M389 = uni Mc392 Mb391 → (r388 = r373 → (¬ r373 = 0 → wp_La_law_317 G ca L xs (wp_La_law_28 G ca L xs n) M389 l1b28 l2b28 l3b28 l4b28 l5b28) ∧ (r373 = 0 → aJ M389 l3b28 (ca 3) 0 fun v395 => ((lg_cmp v395 r383.toInt64) = 0 → wp_La_law_317 G ca L xs (wp_La_law_28 G ca L xs n) M389 l1b28 l2b28 l3b28 l4b28 l5b28) ∧ (¬ (lg_cmp v395 r383.toInt64) = 0 → False))) ∧ (¬ r388 = r373 → False)) Ma390 l2b28)) Ma385 l2b28 v378 v379 v380 (FP.dmul (FP.i2d v381) 4593671619917905920) (FP.dmul (FP.i2d v382) 4593671619917905920))))) Ma375 (some l1b28) v368 v369 v370 (FP.dmul (FP.i2d v371) 4593671619917905920) (FP.dmul (FP.i2d v372) 4593671619917905920) (some l3b28)))) ∧ (¬ (v342 &&& 15) = 1 → ((v342 &&& 15) = 2 → vp_in (l5b28 + 1) L ∧ ∀ v397 : Int32, v397 = xs ((l5b28 + 1) : Int32).toNatClampNeg → vp_in (l5b28 + 2) L ∧ ∀ v398 : Int32, v398 = xs ((l5b28 + 2) : Int32).toNatClampNeg → vp_in (l5b28 + 3) L ∧ ∀ v399 : Int32, v399 = xs ((l5b28 + 3) : Int32).toNatClampNeg → nD (FP.dmul (FP.i2d v399) 4593671619917905920) (spl M fun Ma402 Mb403 => wp_La_take G ca (fun r400 Mc404 => dis Mc404 Mb403 → ∀ M401 : hM, M401 = uni Mc404 Mb403 → vp_in (l5b28 + 1) L ∧ ∀ v405 : Int32, v405 = xs ((l5b28 + 1) : Int32).toNatClampNeg → vp_in (l5b28 + 2) L ∧ ∀ v406 : Int32, v406 = xs ((l5b28 + 2) : Int32).toNatClampNeg → vp_in (l5b28 + 3) L ∧ ∀ v407 : Int32, v407 = xs ((l5b28 + 3) : Int32).toNatClampNeg → nD (FP.dmul (FP.i2d v407) 4593671619917905920) (spl M401 fun Ma410 Mb411 => rC Ma410 l2b28 5 (wp_Mo_take G ca (fun r408 Mc412 => dis Mc412 Mb411 → ∀ M409 : hM, M409 = uni Mc412 Mb411 → spl M409 fun Ma415 Mb416 => rC Ma415 l2b28 5 (wp_Mo_thrown G ca (fun r413 Mc417 => dis Mc417 Mb416 → ∀ M414 : hM, M414 = uni Mc417 Mb416 → (r413 = r400 → (¬ r400 = 0 → wp_La_law_407 G ca L xs (wp_La_law_28 G ca L xs n) M414 l1b28 l2b28 l3b28 l4b28 l5b28) ∧ (r400 = 0 → aJ M414 l3b28 (ca 3) 0 fun v420 => ((lg_cmp v420 r408.toInt64) = 0 → wp_La_law_407 G ca L xs (wp_La_law_28 G ca L xs n) M414 l1b28 l2b28 l3b28 l4b28 l5b28) ∧ (¬ (lg_cmp v420 r408.toInt64) = 0 → False))) ∧ (¬ r413 = r400 → False)) Ma415 l2b28)) Ma410 l2b28 v405 v406 (FP.dmul (FP.i2d v407) 4593671619917905920)))) Ma402 (some l1b28) v397 v398 (FP.dmul (FP.i2d v399) 4593671619917905920) (some l3b28))) ∧ (¬ (v342 &&& 15) = 2 → ((v342 &&& 15) = 3 → vp_in (l5b28 + 1) L ∧ ∀ v422 : Int32, v422 = xs ((l5b28 + 1) : Int32).toNatClampNeg → vp_in (l5b28 + 2) L ∧ ∀ v423 : Int32, v423 = xs ((l5b28 + 2) : Int32).toNatClampNeg → vp_in (l5b28 + 3) L ∧ ∀ v424 : Int32, v424 = xs ((l5b28 + 3) : Int32).toNatClampNeg → vp_in (l5b28 + 4) L ∧ ∀ v425 : Int32, v425 = xs ((l5b28 + 4) : Int32).toNatClampNeg → nD (FP.dmul (FP.i2d v425) 4593671619917905920) (spl M fun Ma428 Mb429 => wp_La_swap G ca (fun r426 Mc430 => dis Mc430 Mb429 → ∀ M427 : hM, M427 = uni Mc430 Mb429 → vp_in (l5b28 + 1) L ∧ ∀ v431 : Int32, v431 = xs ((l5b28 + 1) : Int32).toNatClampNeg → vp_in (l5b28 + 2) L ∧ ∀ v432 : Int32, v432 = xs ((l5b28 + 2) : Int32).toNatClampNeg → vp_in (l5b28 + 3) L ∧ ∀ v433 : Int32, v433 = xs ((l5b28 + 3) : Int32).toNatClampNeg → vp_in (l5b28 + 4) L ∧ ∀ v434 : Int32, v434 = xs ((l5b28 + 4) : Int32).toNatClampNeg → nD (FP.dmul (FP.i2d v434) 4593671619917905920) (spl M427 fun Ma437 Mb438 => rC Ma437 l2b28 5 (wp_Mo_swap G ca (fun r435 Mc439 => dis Mc439 Mb438 → ∀ M436 : hM, M436 = uni Mc439 Mb438 → spl M436 fun Ma442 Mb443 => rC Ma442 l2b28 5 (wp_Mo_thrown G ca (fun r440 Mc444 => dis Mc444 Mb443 → ∀ M441 : hM, M441 = uni Mc444 Mb443 → (r440 = r426 → (¬ r426 = 0 → wp_La_law_509 G ca L xs (wp_La_law_28 G ca L xs n) M441 l1b28 l2b28 l3b28 l4b28 l5b28) ∧ (r426 = 0 → aJ M441 l3b28 (ca 3) 0 fun v447 => ((lg_cmp v447 r435.toInt64) = 0 → wp_La_law_509 G ca L xs (wp_La_law_28 G ca L xs n) M441 l1b28 l2b28 l3b28 l4b28 l5b28) ∧ (¬ (lg_cmp v447 r435.toInt64) = 0 → False))) ∧ (¬ r440 = r426 → False)) Ma442 l2b28)) Ma437 l2b28 v431 v432 v433 (FP.dmul (FP.i2d v434) 4593671619917905920)))) Ma428 (some l1b28) v422 v423 v424 (FP.dmul (FP.i2d v425) 4593671619917905920) (some l3b28))) ∧ (¬ (v342 &&& 15) = 3 → ((v342 &&& 15) = 4 → vp_in (l5b28 + 1) L ∧ ∀ v449 : Int32, v449 = xs ((l5b28 + 1) : Int32).toNatClampNeg → vp_in (l5b28 + 2) L ∧ ∀ v450 : Int32, v450 = xs ((l5b28 + 2) : Int32).toNatClampNeg → vp_in (l5b28 + 3) L ∧ ∀ v451 : Int32, v451 = xs ((l5b28 + 3) : Int32).toNatClampNeg → nD (FP.dmul (FP.i2d v451) 4593671619917905920) (spl M fun Ma454 Mb455 => wp_La_arrive G ca (fun r452 Mc456 => dis Mc456 Mb455 → ∀ M453 : hM, M453 = uni Mc456 Mb455 → vp_in (l5b28 + 1) L ∧ ∀ v457 : Int32, v457 = xs ((l5b28 + 1) : Int32).toNatClampNeg → vp_in (l5b28 + 2) L ∧ ∀ v458 : Int32, v458 = xs ((l5b28 + 2) : Int32).toNatClampNeg → vp_in (l5b28 + 3) L ∧ ∀ v459 : Int32, v459 = xs ((l5b28 + 3) : Int32).toNatClampNeg → nD (FP.dmul (FP.i2d v459) 4593671619917905920) (spl M453 fun Ma462 Mb463 => rC Ma462 l2b28 5 (wp_Mo_arrive G ca (fun r460 Mc464 => dis Mc464 Mb463 → ∀ M461 : hM, M461 = uni Mc464 Mb463 → spl M461 fun Ma467 Mb468 => rC Ma467 l2b28 5 (wp_Mo_thrown G ca (fun r465 Mc469 => dis Mc469 Mb468 → ∀ M466 : hM, M466 = uni Mc469 Mb468 → (r465 = r452 → (¬ r452 = 0 → wp_La_law_599 G ca L xs (wp_La_law_28 G ca L xs n) M466 l1b28 l2b28 l3b28 l4b28 l5b28) ∧ (r452 = 0 → aJ M466 l3b28 (ca 3) 0 fun v472 => ((lg_cmp v472 r460.toInt64) = 0 → wp_La_law_599 G ca L xs (wp_La_law_28 G ca L xs n) M466 l1b28 l2b28 l3b28 l4b28 l5b28) ∧ (¬ (lg_cmp v472 r460.toInt64) = 0 → False))) ∧ (¬ r465 = r452 → False)) Ma467 l2b28)) Ma462 l2b28 v457 v458 (FP.dmul (FP.i2d v459) 4593671619917905920)))) Ma454 (some l1b28) v449 v450 (FP.dmul (FP.i2d v451) 4593671619917905920) (some l3b28))) ∧ (¬ (v342 &&& 15) = 4 → ((v342 &&& 15) = 5 → vp_in (l5b28 + 1) L ∧ ∀ v474 : Int32, v474 = xs ((l5b28 + 1) : Int32).toNatClampNeg → spl M fun Ma477 Mb478 => wp_La_reset G ca (fun r475 Mc479 => dis Mc479 Mb478 → ∀ M476 : hM, M476 = uni Mc479 Mb478 → vp_in (l5b28 + 1) L ∧ ∀ v480 : Int32, v480 = xs ((l5b28 + 1) : Int32).toNatClampNeg → spl M476 fun Ma483 Mb484 => rC Ma483 l2b28 5 (wp_Mo_reset G ca (fun r481 Mc485 => dis Mc485 Mb484 → ∀ M482 : hM, M482 = uni Mc485 Mb484 → spl M482 fun Ma488 Mb489 => rC Ma488 l2b28 5 (wp_Mo_thrown G ca (fun r486 Mc490 => dis Mc490 Mb489 → ∀ M487 : hM, M487 = uni Mc490 Mb489 → (r486 = r475 → (¬ r475 = 0 → wp_La_law_655 G ca L xs (wp_La_law_28 G ca L xs n) M487 l1b28 l2b28 l3b28 l4b28 l5b28) ∧ (r475 = 0 → aJ M487 l3b28 (ca 3) 0 fun v493 => ((lg_cmp v493 r481.toInt64) = 0 → wp_La_law_655 G ca L xs (wp_La_law_28 G ca L xs n) M487 l1b28 l2b28 l3b28 l4b28 l5b28) ∧ (¬ (lg_cmp v493 r481.toInt64) = 0 → False))) ∧ (¬ r486 = r475 → False)) Ma488 l2b28)) Ma483 l2b28 v480)) Ma477 (some l1b28) v474 (some l3b28)) ∧ (¬ (v342 &&& 15) = 5 → ((v342 &&& 15) = 6 → vp_in (l5b28 + 1) L ∧ ∀ v495 : Int32, v495 = xs ((l5b28 + 1) : Int32).toNatClampNeg → spl M fun Ma498 Mb499 => wp_La_interrupt G ca (fun r496 Mc500 => dis Mc500 Mb499 → ∀ M497 : hM, M497 = uni Mc500 Mb499 → vp_in (l5b28 + 1) L ∧ ∀ v501 : Int32, v501 = xs ((l5b28 + 1) : Int32).toNatClampNeg → spl M497 fun Ma504 Mb505 => rC Ma504 l2b28 5 (wp_Mo_interrupt G ca (fun r502 Mc506 => dis Mc506 Mb505 → ∀ M503 : hM, M503 = uni Mc506 Mb505 → spl M503 fun Ma509 Mb510 => rC Ma509 l2b28 5 (wp_Mo_thrown G ca (fun r507 Mc511 => dis Mc511 Mb510 → ∀ M508 : hM, M508 = uni Mc511 Mb510 → (r507 = r496 → (¬ r496 = 0 → wp_La_law_711 G ca L xs (wp_La_law_28 G ca L xs n) M508 l1b28 l2b28 l3b28 l4b28 l5b28) ∧ (r496 = 0 → aJ M508 l3b28 (ca 3) 0 fun v514 => ((lg_cmp v514 r502.toInt64) = 0 → wp_La_law_711 G ca L xs (wp_La_law_28 G ca L xs n) M508 l1b28 l2b28 l3b28 l4b28 l5b28) ∧ (¬ (lg_cmp v514 r502.toInt64) = 0 → False))) ∧ (¬ r507 = r496 → False)) Ma509 l2b28)) Ma504 l2b28 v501)) Ma498 (some l1b28) v495 (some l3b28)) ∧ (¬ (v342 &&& 15) = 6 → ((v342 &&& 15) = 7 → vp_in (l5b28 + 1) L ∧ ∀ v516 : Int32, v516 = xs ((l5b28 + 1) : Int32).toNatClampNeg → nD (FP.dmul (FP.i2d v516) 4593671619917905920) (spl M fun Ma519 Mb520 => wp_La_tick G ca (fun r517 Mc521 => dis Mc521 Mb520 → ∀ M518 : hM, M518 = uni Mc521 Mb520 → vp_in (l5b28 + 1) L ∧ ∀ v522 : Int32, v522 = xs ((l5b28 + 1) : Int32).toNatClampNeg → nD (FP.dmul (FP.i2d v522) 4593671619917905920) (spl M518 fun Ma525 Mb526 => rC Ma525 l2b28 5 (wp_Mo_tick G ca (fun r523 Mc527 => dis Mc527 Mb526 → ∀ M524 : hM, M524 = uni Mc527 Mb526 → spl M524 fun Ma530 Mb531 => rC Ma530 l2b28 5 (wp_Mo_thrown G ca (fun r528 Mc532 => dis Mc532 Mb531 → ∀ M529 : hM, M529 = uni Mc532 Mb531 → (r528 = r517 → (¬ r517 = 0 → wp_La_law_777 G ca L xs (wp_La_law_28 G ca L xs n) M529 l1b28 l2b28 l3b28 l4b28 l5b28) ∧ (r517 = 0 → aJ M529 l3b28 (ca 3) 0 fun v535 => ((lg_cmp v535 r523.toInt64) = 0 → wp_La_law_777 G ca L xs (wp_La_law_28 G ca L xs n) M529 l1b28 l2b28 l3b28 l4b28 l5b28) ∧ (¬ (lg_cmp v535 r523.toInt64) = 0 → False))) ∧ (¬ r528 = r517 → False)) Ma530 l2b28)) Ma525 l2b28 (FP.dmul (FP.i2d v522) 4593671619917905920)))) Ma519 (some l1b28) (FP.dmul (FP.i2d v516) 4593671619917905920) (some l3b28))) ∧ (¬ (v342 &&& 15) = 7 → ((v342 &&& 15) = 8 → vp_in (l5b28 + 1) L ∧ ∀ v537 : Int32, v537 = xs ((l5b28 + 1) : Int32).toNatClampNeg → spl M fun Ma540 Mb541 => wp_La_got G ca (fun r538 Mc542 => dis Mc542 Mb541 → ∀ M539 : hM, M539 = uni Mc542 Mb541 → vp_in (l5b28 + 1) L ∧ ∀ v543 : Int32, v543 = xs ((l5b28 + 1) : Int32).toNatClampNeg → spl M539 fun Ma546 Mb547 => rC Ma546 l2b28 5 (wp_Mo_got G ca (fun r544 Mc548 => dis Mc548 Mb547 → ∀ M545 : hM, M545 = uni Mc548 Mb547 → spl M545 fun Ma551 Mb552 => rC Ma551 l2b28 5 (wp_Mo_thrown G ca (fun r549 Mc553 => dis Mc553 Mb552 → ∀ M550 : hM, M550 = uni Mc553 Mb552 → (r549 = r538 → (¬ r538 = 0 → wp_La_law_833 G ca L xs (wp_La_law_28 G ca L xs n) M550 l1b28 l2b28 l3b28 l4b28 l5b28) ∧ (r538 = 0 → aJ M550 l3b28 (ca 3) 0 fun v556 => ((lg_cmp v556 r544.toInt64) = 0 → wp_La_law_833 G ca L xs (wp_La_law_28 G ca L xs n) M550 l1b28 l2b28 l3b28 l4b28 l5b28) ∧ (¬ (lg_cmp v556 r544.toInt64) = 0 → False))) ∧ (¬ r549 = r538 → False)) Ma551 l2b28)) Ma546 l2b28 v543)) Ma540 (some l1b28) v537 (some l3b28)) ∧ (¬ (v342 &&& 15) = 8 → ((v342 &&& 15) = 9 → vp_in (l5b28 + 1) L ∧ ∀ v558 : Int32, v558 = xs ((l5b28 + 1) : Int32).toNatClampNeg → vp_in (l5b28 + 2) L ∧ ∀ v559 : Int32, v559 = xs ((l5b28 + 2) : Int32).toNatClampNeg → spl M fun Ma562 Mb563 => wp_La_thread G ca (fun r560 Mc564 => dis Mc564 Mb563 → ∀ M561 : hM, M561 = uni Mc564 Mb563 → vp_in (l5b28 + 1) L ∧ ∀ v565 : Int32, v565 = xs ((l5b28 + 1) : Int32).toNatClampNeg → vp_in (l5b28 + 2) L ∧ ∀ v566 : Int32, v566 = xs ((l5b28 + 2) : Int32).toNatClampNeg → spl M561 fun Ma569 Mb570 => rC Ma569 l2b28 5 (wp_Mo_thread G ca (fun r567 Mc571 => dis Mc571 Mb570 → ∀ M568 : hM, M568 = uni Mc571 Mb570 → spl M568 fun Ma574 Mb575 => rC Ma574 l2b28 5 (wp_Mo_thrown G ca (fun r572 Mc576 => dis Mc576 Mb575 → ∀ M573 : hM, M573 = uni Mc576 Mb575 → (r572 = r560 → (¬ r560 = 0 → wp_La_law_901 G ca L xs (wp_La_law_28 G ca L xs n) M573 l1b28 l2b28 l3b28 l4b28 l5b28) ∧ (r560 = 0 → aJ M573 l3b28 (ca 3) 0 fun v579 => ((lg_cmp v579 r567.toInt64) = 0 → wp_La_law_901 G ca L xs (wp_La_law_28 G ca L xs n) M573 l1b28 l2b28 l3b28 l4b28 l5b28) ∧ (¬ (lg_cmp v579 r567.toInt64) = 0 → False))) ∧ (¬ r572 = r560 → False)) Ma574 l2b28)) Ma569 l2b28 v565 v566)) Ma562 (some l1b28) v558 v559 (some l3b28)) ∧ (¬ (v342 &&& 15) = 9 → ((v342 &&& 15) = 10 → vp_in (l5b28 + 1) L ∧ ∀ v581 : Int32, v581 = xs ((l5b28 + 1) : Int32).toNatClampNeg → vp_in (l5b28 + 2) L ∧ ∀ v582 : Int32, v582 = xs ((l5b28 + 2) : Int32).toNatClampNeg → spl M fun Ma585 Mb586 => wp_La_channel G ca (fun r583 Mc587 => dis Mc587 Mb586 → ∀ M584 : hM, M584 = uni Mc587 Mb586 → vp_in (l5b28 + 1) L ∧ ∀ v588 : Int32, v588 = xs ((l5b28 + 1) : Int32).toNatClampNeg → vp_in (l5b28 + 2) L ∧ ∀ v589 : Int32, v589 = xs ((l5b28 + 2) : Int32).toNatClampNeg → spl M584 fun Ma592 Mb593 => rC Ma592 l2b28 5 (wp_Mo_channel G ca (fun r590 Mc594 => dis Mc594 Mb593 → ∀ M591 : hM, M591 = uni Mc594 Mb593 → spl M591 fun Ma597 Mb598 => rC Ma597 l2b28 5 (wp_Mo_thrown G ca (fun r595 Mc599 => dis Mc599 Mb598 → ∀ M596 : hM, M596 = uni Mc599 Mb598 → (r595 = r583 → (¬ r583 = 0 → wp_La_law_969 G ca L xs (wp_La_law_28 G ca L xs n) M596 l1b28 l2b28 l3b28 l4b28 l5b28) ∧ (r583 = 0 → aJ M596 l3b28 (ca 3) 0 fun v602 => ((lg_cmp v602 r590.toInt64) = 0 → wp_La_law_969 G ca L xs (wp_La_law_28 G ca L xs n) M596 l1b28 l2b28 l3b28 l4b28 l5b28) ∧ (¬ (lg_cmp v602 r590.toInt64) = 0 → False))) ∧ (¬ r595 = r583 → False)) Ma597 l2b28)) Ma592 l2b28 v588 v589)) Ma585 (some l1b28) v581 v582 (some l3b28)) ∧ (¬ (v342 &&& 15) = 10 → ((v342 &&& 15) = 11 → vp_in (l5b28 + 1) L ∧ ∀ v604 : Int32, v604 = xs ((l5b28 + 1) : Int32).toNatClampNeg → vp_in (l5b28 + 2) L ∧ ∀ v605 : Int32, v605 = xs ((l5b28 + 2) : Int32).toNatClampNeg → spl M fun Ma608 Mb609 => wp_La_item G ca (fun r606 Mc610 => dis Mc610 Mb609 → ∀ M607 : hM, M607 = uni Mc610 Mb609 → vp_in (l5b28 + 1) L ∧ ∀ v611 : Int32, v611 = xs ((l5b28 + 1) : Int32).toNatClampNeg → vp_in (l5b28 + 2) L ∧ ∀ v612 : Int32, v612 = xs ((l5b28 + 2) : Int32).toNatClampNeg → spl M607 fun Ma615 Mb616 => rC Ma615 l2b28 5 (wp_Mo_item G ca (fun r613 Mc617 => dis Mc617 Mb616 → ∀ M614 : hM, M614 = uni Mc617 Mb616 → spl M614 fun Ma620 Mb621 => rC Ma620 l2b28 5 (wp_Mo_thrown G ca (fun r618 Mc622 => dis Mc622 Mb621 → ∀ M619 : hM, M619 = uni Mc622 Mb621 → (r618 = r606 → (¬ r606 = 0 → wp_La_law_1037 G ca L xs (wp_La_law_28 G ca L xs n) M619 l1b28 l2b28 l3b28 l4b28 l5b28) ∧ (r606 = 0 → aJ M619 l3b28 (ca 3) 0 fun v625 => ((lg_cmp v625 r613.toInt64) = 0 → wp_La_law_1037 G ca L xs (wp_La_law_28 G ca L xs n) M619 l1b28 l2b28 l3b28 l4b28 l5b28) ∧ (¬ (lg_cmp v625 r613.toInt64) = 0 → False))) ∧ (¬ r618 = r606 → False)) Ma620 l2b28)) Ma615 l2b28 v611 v612)) Ma608 (some l1b28) v604 v605 (some l3b28)) ∧ (¬ (v342 &&& 15) = 11 → ((v342 &&& 15) = 12 → vp_in (l5b28 + 1) L ∧ ∀ v627 : Int32, v627 = xs ((l5b28 + 1) : Int32).toNatClampNeg → spl M fun Ma630 Mb631 => wp_La_stay G ca (fun r628 Mc632 => dis Mc632 Mb631 → ∀ M629 : hM, M629 = uni Mc632 Mb631 → vp_in (l5b28 + 1) L ∧ ∀ v633 : Int32, v633 = xs ((l5b28 + 1) : Int32).toNatClampNeg → spl M629 fun Ma636 Mb637 => rC Ma636 l2b28 5 (wp_Mo_stay G ca (fun r634 Mc638 => dis Mc638 Mb637 → ∀ M635 : hM, M635 = uni Mc638 Mb637 → spl M635 fun Ma641 Mb642 => rC Ma641 l2b28 5 (wp_Mo_thrown G ca (fun r639 Mc643 => dis Mc643 Mb642 → ∀ M640 : hM, M640 = uni Mc643 Mb642 → (r639 = r628 → (¬ r628 = 0 → wp_La_law_1114 G ca L xs (wp_La_law_28 G ca L xs n) M640 l1b28 l2b28 l3b28 l4b28 l5b28) ∧ (r628 = 0 → aD M640 l4b28 (ca 4) 0 fun v646 => ((Op.cmpValue (FP.dcmp v646 r634) .l) = 0 → wp_La_law_1114 G ca L xs (wp_La_law_28 G ca L xs n) M640 l1b28 l2b28 l3b28 l4b28 l5b28) ∧ (¬ (Op.cmpValue (FP.dcmp v646 r634) .l) = 0 → aD M640 l4b28 (ca 4) 0 fun v648 => aD M640 l4b28 (ca 4) 0 fun v649 => ((Op.cmpValue (FP.dcmp v648 v649) .l) = 0 → wp_La_law_1112 G ca L xs M640) ∧ (¬ (Op.cmpValue (FP.dcmp v648 v649) .l) = 0 → (¬ (Op.cmpValue (FP.dcmp r634 r634) .l) = 0 → wp_La_law_1114 G ca L xs (wp_La_law_28 G ca L xs n) M640 l1b28 l2b28 l3b28 l4b28 l5b28) ∧ ((Op.cmpValue (FP.dcmp r634 r634) .l) = 0 → wp_La_law_1112 G ca L xs M640))))) ∧ (¬ r639 = r628 → False)) Ma641 l2b28)) Ma636 l2b28 v633)) Ma630 (some l1b28) v627 (some l4b28)) ∧ (¬ (v342 &&& 15) = 12 → ((v342 &&& 15) = 13 → spl M fun Ma654 Mb655 => rC Ma654 l1b28 3 (wp_Ha_time G ca (fun r652 Mc656 => dis Mc656 Mb655 → ∀ M653 : hM, M653 = uni Mc656 Mb655 → spl M653 fun Ma659 Mb660 => rC Ma659 l2b28 5 (wp_Mo_time G ca (fun r657 Mc661 => dis Mc661 Mb660 → ∀ M658 : hM, M658 = uni Mc661 Mb660 → ((Op.cmpValue (FP.dcmp r652 r657) .l) = 0 → wp_La_law_1155 G ca L xs (wp_La_law_28 G ca L xs n) M658 l1b28 l2b28 l3b28 l4b28 l5b28) ∧ (¬ (Op.cmpValue (FP.dcmp r652 r657) .l) = 0 → ((Op.cmpValue (FP.dcmp r652 r652) .l) = 0 → wp_La_law_1153 G ca L xs M658) ∧ (¬ (Op.cmpValue (FP.dcmp r652 r652) .l) = 0 → (¬ (Op.cmpValue (FP.dcmp r657 r657) .l) = 0 → wp_La_law_1155 G ca L xs (wp_La_law_28 G ca L xs n) M658 l1b28 l2b28 l3b28 l4b28 l5b28) ∧ ((Op.cmpValue (FP.dcmp r657 r657) .l) = 0 → wp_La_law_1153 G ca L xs M658)))) Ma659 l2b28)) Ma654 l1b28)) ∧ (¬ (v342 &&& 15) = 13 → wp_La_law_1158 G ca L xs (wp_La_law_28 G ca L xs n) M l1b28 l2b28 l3b28 l4b28 l5b28)))))))))))))))
def wp_La_law (G ca : Nat → Nat) (L : Nat) (xs : Nat → Int32) (M : hM)  : Prop := nO M (.inr (3, [.null, .null, .int 0, .double FP.dconst0])) fun q665 M666 => spl M666 fun Ma668 Mb669 => wp_Ha_init G ca (fun Mc670 => dis Mc670 Mb669 → ∀ M667 : hM, M667 = uni Mc670 Mb669 → nO M667 (.inr (5, [.int 0, .null, .null, .null, .null, .null, .null, .null, .null, .null, .null, .null, .double FP.dconst0, .null, .null, .null, .null, .null, .null, .null, .null, .null, .null, .null, .null, .null])) fun q671 M672 => spl M672 fun Ma674 Mb675 => wp_Mo_init G ca (fun Mc676 => dis Mc676 Mb675 → ∀ M673 : hM, M673 = uni Mc676 Mb675 → nA M673 1 1 (fun N => .inl (ca 3, N, .inr (.inl (fun _ => 0)))) fun q677 M678 => nA M678 1 1 (fun N => .inl (ca 4, N, .inr (.inr (.inr (.inl (fun _ => FP.dconst0)))))) fun q679 M680 => ∃ n, n ≤ 513 ∧ wp_La_law_28 G ca L xs n M680 q665 q671 q677 q679 0) Ma674 q671) Ma668 q665
set_option maxHeartbeats 4000000 in
set_option maxRecDepth 200000 in
theorem l_La_law_1158 {p : Program} {l : Launch} {e : Env} {s : State} {m : MethodId} {b L : Nat} {xs : Nat → Int32} {below : List Frame} {meth : Method} {c : Code} {D : va_G} {ca G : Nat → Nat} {A : Nat → Prop} (C0 : hC p s m #[Value.ref b] meth c D ca G code 10 (ret) "ChannelHallLaw" A) (hl0 : l.stackTraces = false) (hq : hQ s) (hXs : va_X b L xs s s.heap) (hbl : b < s.heap.size) (hbA : ¬ A b) (hAf : ∀ q, A q → s.heap.size ≤ q) {k_16 : hM → Nat → Nat → Nat → Nat → Int32 → Prop} {n_16 : Nat} (hk_16 : ∀ (M : hM) (H : Heap) (locs : List Loc) (ls : Array Slot) (cells slots : Nat) (l1b28 : Nat) (l2b28 : Nat) (l3b28 : Nat) (l4b28 : Nat) (l5b28 : Int32), cells + n_16 * 1009 ≤ 517653 → slots + n_16 * 12606 ≤ 6467680 → k_16 M l1b28 l2b28 l3b28 l4b28 l5b28 → hw D wCl A M H → va_S A s.heap H locs → lv_has ls 10 [(0, .ref b), (1, .ref l1b28), (2, .ref l2b28), (3, .ref l3b28), (4, .ref l4b28), (5, .int l5b28)] → W p l e room_1 s m #[Value.ref b] below meth c H locs cells slots (lw_Z below #[Value.ref b] s) (F0 m 28 ls [])) (hn_16 : 0 < n_16) {M : hM} {H : Heap} {locs : List Loc} {ls : Array Slot} {cells slots : Nat} (l1b1158 : Nat) (l2b1158 : Nat) (l3b1158 : Nat) (l4b1158 : Nat) (l5b1158 : Int32) (hc : cells + n_16 * 1009 ≤ 517653) (hs : slots + n_16 * 12606 ≤ 6467680) (h : wp_La_law_1158 G ca L xs k_16 M l1b1158 l2b1158 l3b1158 l4b1158 l5b1158) (hW : hw D wCl A M H) (hS : va_S A s.heap H locs) (hl : lv_has ls 10 [(0, .ref b), (1, .ref l1b1158), (2, .ref l2b1158), (3, .ref l3b1158), (4, .ref l4b1158), (5, .int l5b1158)]) : W p l e room_1 s m #[Value.ref b] below meth c H locs cells slots (lw_Z below #[Value.ref b] s) (F0 m 1158 ls []) := by
  obtain ⟨hx, hb, hr, hml, hown, hts, hlocks, hK, hA, hZ0⟩ := id C0
  refine lv_iinc (v := l5b1158 + 6) (lv' := [(5, .int (l5b1158 + 6)), (0, .ref b), (1, .ref l1b1158), (2, .ref l2b1158), (3, .ref l3b1158), (4, .ref l4b1158)]) hx hb d_La_law_1158 hl (k := 5) rfl rfl (by decide) rfl (fun ls hl => ?_)
  refine lv_goto (tgt := 28) hx hb d_La_law_1161 (by decide) ?_
  exact hk_16 _ _ _ _ _ _ l1b1158 l2b1158 l3b1158 l4b1158 (l5b1158 + 6) (by omega) (by omega) h hW hS (lv_sub hl [1, 2, 3, 4, 5, 0] rfl)
set_option maxHeartbeats 4000000 in
set_option maxRecDepth 200000 in
theorem l_La_law_1155 {p : Program} {l : Launch} {e : Env} {s : State} {m : MethodId} {b L : Nat} {xs : Nat → Int32} {below : List Frame} {meth : Method} {c : Code} {D : va_G} {ca G : Nat → Nat} {A : Nat → Prop} (C0 : hC p s m #[Value.ref b] meth c D ca G code 10 (ret) "ChannelHallLaw" A) (hl0 : l.stackTraces = false) (hq : hQ s) (hXs : va_X b L xs s s.heap) (hbl : b < s.heap.size) (hbA : ¬ A b) (hAf : ∀ q, A q → s.heap.size ≤ q) {k_16 : hM → Nat → Nat → Nat → Nat → Int32 → Prop} {n_16 : Nat} (hk_16 : ∀ (M : hM) (H : Heap) (locs : List Loc) (ls : Array Slot) (cells slots : Nat) (l1b28 : Nat) (l2b28 : Nat) (l3b28 : Nat) (l4b28 : Nat) (l5b28 : Int32), cells + n_16 * 1009 ≤ 517653 → slots + n_16 * 12606 ≤ 6467680 → k_16 M l1b28 l2b28 l3b28 l4b28 l5b28 → hw D wCl A M H → va_S A s.heap H locs → lv_has ls 10 [(0, .ref b), (1, .ref l1b28), (2, .ref l2b28), (3, .ref l3b28), (4, .ref l4b28), (5, .int l5b28)] → W p l e room_1 s m #[Value.ref b] below meth c H locs cells slots (lw_Z below #[Value.ref b] s) (F0 m 28 ls [])) (hn_16 : 0 < n_16) {M : hM} {H : Heap} {locs : List Loc} {ls : Array Slot} {cells slots : Nat} (l1b1155 : Nat) (l2b1155 : Nat) (l3b1155 : Nat) (l4b1155 : Nat) (l5b1155 : Int32) (hc : cells + n_16 * 1009 ≤ 516644) (hs : slots + n_16 * 12606 ≤ 6455074) (h : wp_La_law_1155 G ca L xs k_16 M l1b1155 l2b1155 l3b1155 l4b1155 l5b1155) (hW : hw D wCl A M H) (hS : va_S A s.heap H locs) (hl : lv_has ls 10 [(0, .ref b), (1, .ref l1b1155), (2, .ref l2b1155), (3, .ref l3b1155), (4, .ref l4b1155), (5, .int l5b1155)]) : W p l e room_1 s m #[Value.ref b] below meth c H locs cells slots (lw_Z below #[Value.ref b] s) (F0 m 1155 ls []) := by
  obtain ⟨hx, hb, hr, hml, hown, hts, hlocks, hK, hA, hZ0⟩ := id C0
  refine lv_goto (tgt := 1158) hx hb d_La_law_1155 (by decide) ?_
  exact l_La_law_1158 C0 hl0 hq hXs hbl hbA hAf hk_16 hn_16 l1b1155 l2b1155 l3b1155 l4b1155 l5b1155 (by omega) (by omega) h hW hS (lv_sub hl [0, 1, 2, 3, 4, 5] rfl)
set_option maxHeartbeats 4000000 in
set_option maxRecDepth 200000 in
theorem l_La_law_1153 {p : Program} {l : Launch} {e : Env} {s : State} {m : MethodId} {b L : Nat} {xs : Nat → Int32} {below : List Frame} {meth : Method} {c : Code} {D : va_G} {ca G : Nat → Nat} {A : Nat → Prop} (C0 : hC p s m #[Value.ref b] meth c D ca G code 10 (ret) "ChannelHallLaw" A) (hl0 : l.stackTraces = false) (hq : hQ s) (hXs : va_X b L xs s s.heap) (hbl : b < s.heap.size) (hbA : ¬ A b) (hAf : ∀ q, A q → s.heap.size ≤ q) {M : hM} {H : Heap} {locs : List Loc} {ls : Array Slot} {cells slots : Nat}  (hc : cells ≤ 515635) (hs : slots ≤ 6442468) (h : wp_La_law_1153 G ca L xs M) (hW : hw D wCl A M H) (hS : va_S A s.heap H locs) (hl : lv_has ls 10 []) : W p l e room_1 s m #[Value.ref b] below meth c H locs cells slots (lw_Z below #[Value.ref b] s) (F0 m 1153 ls []) := by
  obtain ⟨hx, hb, hr, hml, hown, hts, hlocks, hK, hA, hZ0⟩ := id C0
  refine lv_iconst (v := 0) hx hb d_La_law_1153 (by decide) ?_
  exact False.elim h
set_option maxHeartbeats 4000000 in
set_option maxRecDepth 200000 in
theorem l_La_law_1114 {p : Program} {l : Launch} {e : Env} {s : State} {m : MethodId} {b L : Nat} {xs : Nat → Int32} {below : List Frame} {meth : Method} {c : Code} {D : va_G} {ca G : Nat → Nat} {A : Nat → Prop} (C0 : hC p s m #[Value.ref b] meth c D ca G code 10 (ret) "ChannelHallLaw" A) (hl0 : l.stackTraces = false) (hq : hQ s) (hXs : va_X b L xs s s.heap) (hbl : b < s.heap.size) (hbA : ¬ A b) (hAf : ∀ q, A q → s.heap.size ≤ q) {k_16 : hM → Nat → Nat → Nat → Nat → Int32 → Prop} {n_16 : Nat} (hk_16 : ∀ (M : hM) (H : Heap) (locs : List Loc) (ls : Array Slot) (cells slots : Nat) (l1b28 : Nat) (l2b28 : Nat) (l3b28 : Nat) (l4b28 : Nat) (l5b28 : Int32), cells + n_16 * 1009 ≤ 517653 → slots + n_16 * 12606 ≤ 6467680 → k_16 M l1b28 l2b28 l3b28 l4b28 l5b28 → hw D wCl A M H → va_S A s.heap H locs → lv_has ls 10 [(0, .ref b), (1, .ref l1b28), (2, .ref l2b28), (3, .ref l3b28), (4, .ref l4b28), (5, .int l5b28)] → W p l e room_1 s m #[Value.ref b] below meth c H locs cells slots (lw_Z below #[Value.ref b] s) (F0 m 28 ls [])) (hn_16 : 0 < n_16) {M : hM} {H : Heap} {locs : List Loc} {ls : Array Slot} {cells slots : Nat} (l1b1114 : Nat) (l2b1114 : Nat) (l3b1114 : Nat) (l4b1114 : Nat) (l5b1114 : Int32) (hc : cells + n_16 * 1009 ≤ 516647) (hs : slots + n_16 * 12606 ≤ 6455092) (h : wp_La_law_1114 G ca L xs k_16 M l1b1114 l2b1114 l3b1114 l4b1114 l5b1114) (hW : hw D wCl A M H) (hS : va_S A s.heap H locs) (hl : lv_has ls 10 [(0, .ref b), (1, .ref l1b1114), (2, .ref l2b1114), (3, .ref l3b1114), (4, .ref l4b1114), (5, .int l5b1114)]) : W p l e room_1 s m #[Value.ref b] below meth c H locs cells slots (lw_Z below #[Value.ref b] s) (F0 m 1114 ls []) := by
  obtain ⟨hx, hb, hr, hml, hown, hts, hlocks, hK, hA, hZ0⟩ := id C0
  refine lv_goto (tgt := 1158) hx hb d_La_law_1114 (by decide) ?_
  exact l_La_law_1158 C0 hl0 hq hXs hbl hbA hAf hk_16 hn_16 l1b1114 l2b1114 l3b1114 l4b1114 l5b1114 (by omega) (by omega) h hW hS (lv_sub hl [0, 1, 2, 3, 4, 5] rfl)
set_option maxHeartbeats 4000000 in
set_option maxRecDepth 200000 in
theorem l_La_law_1112 {p : Program} {l : Launch} {e : Env} {s : State} {m : MethodId} {b L : Nat} {xs : Nat → Int32} {below : List Frame} {meth : Method} {c : Code} {D : va_G} {ca G : Nat → Nat} {A : Nat → Prop} (C0 : hC p s m #[Value.ref b] meth c D ca G code 10 (ret) "ChannelHallLaw" A) (hl0 : l.stackTraces = false) (hq : hQ s) (hXs : va_X b L xs s s.heap) (hbl : b < s.heap.size) (hbA : ¬ A b) (hAf : ∀ q, A q → s.heap.size ≤ q) {M : hM} {H : Heap} {locs : List Loc} {ls : Array Slot} {cells slots : Nat}  (hc : cells ≤ 515638) (hs : slots ≤ 6442486) (h : wp_La_law_1112 G ca L xs M) (hW : hw D wCl A M H) (hS : va_S A s.heap H locs) (hl : lv_has ls 10 []) : W p l e room_1 s m #[Value.ref b] below meth c H locs cells slots (lw_Z below #[Value.ref b] s) (F0 m 1112 ls []) := by
  obtain ⟨hx, hb, hr, hml, hown, hts, hlocks, hK, hA, hZ0⟩ := id C0
  refine lv_iconst (v := 0) hx hb d_La_law_1112 (by decide) ?_
  exact False.elim h
set_option maxHeartbeats 4000000 in
set_option maxRecDepth 200000 in
theorem l_La_law_1037 {p : Program} {l : Launch} {e : Env} {s : State} {m : MethodId} {b L : Nat} {xs : Nat → Int32} {below : List Frame} {meth : Method} {c : Code} {D : va_G} {ca G : Nat → Nat} {A : Nat → Prop} (C0 : hC p s m #[Value.ref b] meth c D ca G code 10 (ret) "ChannelHallLaw" A) (hl0 : l.stackTraces = false) (hq : hQ s) (hXs : va_X b L xs s s.heap) (hbl : b < s.heap.size) (hbA : ¬ A b) (hAf : ∀ q, A q → s.heap.size ≤ q) {k_16 : hM → Nat → Nat → Nat → Nat → Int32 → Prop} {n_16 : Nat} (hk_16 : ∀ (M : hM) (H : Heap) (locs : List Loc) (ls : Array Slot) (cells slots : Nat) (l1b28 : Nat) (l2b28 : Nat) (l3b28 : Nat) (l4b28 : Nat) (l5b28 : Int32), cells + n_16 * 1009 ≤ 517653 → slots + n_16 * 12606 ≤ 6467680 → k_16 M l1b28 l2b28 l3b28 l4b28 l5b28 → hw D wCl A M H → va_S A s.heap H locs → lv_has ls 10 [(0, .ref b), (1, .ref l1b28), (2, .ref l2b28), (3, .ref l3b28), (4, .ref l4b28), (5, .int l5b28)] → W p l e room_1 s m #[Value.ref b] below meth c H locs cells slots (lw_Z below #[Value.ref b] s) (F0 m 28 ls [])) (hn_16 : 0 < n_16) {M : hM} {H : Heap} {locs : List Loc} {ls : Array Slot} {cells slots : Nat} (l1b1037 : Nat) (l2b1037 : Nat) (l3b1037 : Nat) (l4b1037 : Nat) (l5b1037 : Int32) (hc : cells + n_16 * 1009 ≤ 516647) (hs : slots + n_16 * 12606 ≤ 6455092) (h : wp_La_law_1037 G ca L xs k_16 M l1b1037 l2b1037 l3b1037 l4b1037 l5b1037) (hW : hw D wCl A M H) (hS : va_S A s.heap H locs) (hl : lv_has ls 10 [(0, .ref b), (1, .ref l1b1037), (2, .ref l2b1037), (3, .ref l3b1037), (4, .ref l4b1037), (5, .int l5b1037)]) : W p l e room_1 s m #[Value.ref b] below meth c H locs cells slots (lw_Z below #[Value.ref b] s) (F0 m 1037 ls []) := by
  obtain ⟨hx, hb, hr, hml, hown, hts, hlocks, hK, hA, hZ0⟩ := id C0
  refine lv_goto (tgt := 1158) hx hb d_La_law_1037 (by decide) ?_
  exact l_La_law_1158 C0 hl0 hq hXs hbl hbA hAf hk_16 hn_16 l1b1037 l2b1037 l3b1037 l4b1037 l5b1037 (by omega) (by omega) h hW hS (lv_sub hl [0, 1, 2, 3, 4, 5] rfl)
set_option maxHeartbeats 4000000 in
set_option maxRecDepth 200000 in
theorem l_La_law_969 {p : Program} {l : Launch} {e : Env} {s : State} {m : MethodId} {b L : Nat} {xs : Nat → Int32} {below : List Frame} {meth : Method} {c : Code} {D : va_G} {ca G : Nat → Nat} {A : Nat → Prop} (C0 : hC p s m #[Value.ref b] meth c D ca G code 10 (ret) "ChannelHallLaw" A) (hl0 : l.stackTraces = false) (hq : hQ s) (hXs : va_X b L xs s s.heap) (hbl : b < s.heap.size) (hbA : ¬ A b) (hAf : ∀ q, A q → s.heap.size ≤ q) {k_16 : hM → Nat → Nat → Nat → Nat → Int32 → Prop} {n_16 : Nat} (hk_16 : ∀ (M : hM) (H : Heap) (locs : List Loc) (ls : Array Slot) (cells slots : Nat) (l1b28 : Nat) (l2b28 : Nat) (l3b28 : Nat) (l4b28 : Nat) (l5b28 : Int32), cells + n_16 * 1009 ≤ 517653 → slots + n_16 * 12606 ≤ 6467680 → k_16 M l1b28 l2b28 l3b28 l4b28 l5b28 → hw D wCl A M H → va_S A s.heap H locs → lv_has ls 10 [(0, .ref b), (1, .ref l1b28), (2, .ref l2b28), (3, .ref l3b28), (4, .ref l4b28), (5, .int l5b28)] → W p l e room_1 s m #[Value.ref b] below meth c H locs cells slots (lw_Z below #[Value.ref b] s) (F0 m 28 ls [])) (hn_16 : 0 < n_16) {M : hM} {H : Heap} {locs : List Loc} {ls : Array Slot} {cells slots : Nat} (l1b969 : Nat) (l2b969 : Nat) (l3b969 : Nat) (l4b969 : Nat) (l5b969 : Int32) (hc : cells + n_16 * 1009 ≤ 516646) (hs : slots + n_16 * 12606 ≤ 6455086) (h : wp_La_law_969 G ca L xs k_16 M l1b969 l2b969 l3b969 l4b969 l5b969) (hW : hw D wCl A M H) (hS : va_S A s.heap H locs) (hl : lv_has ls 10 [(0, .ref b), (1, .ref l1b969), (2, .ref l2b969), (3, .ref l3b969), (4, .ref l4b969), (5, .int l5b969)]) : W p l e room_1 s m #[Value.ref b] below meth c H locs cells slots (lw_Z below #[Value.ref b] s) (F0 m 969 ls []) := by
  obtain ⟨hx, hb, hr, hml, hown, hts, hlocks, hK, hA, hZ0⟩ := id C0
  refine lv_goto (tgt := 1158) hx hb d_La_law_969 (by decide) ?_
  exact l_La_law_1158 C0 hl0 hq hXs hbl hbA hAf hk_16 hn_16 l1b969 l2b969 l3b969 l4b969 l5b969 (by omega) (by omega) h hW hS (lv_sub hl [0, 1, 2, 3, 4, 5] rfl)
set_option maxHeartbeats 4000000 in
set_option maxRecDepth 200000 in
theorem l_La_law_901 {p : Program} {l : Launch} {e : Env} {s : State} {m : MethodId} {b L : Nat} {xs : Nat → Int32} {below : List Frame} {meth : Method} {c : Code} {D : va_G} {ca G : Nat → Nat} {A : Nat → Prop} (C0 : hC p s m #[Value.ref b] meth c D ca G code 10 (ret) "ChannelHallLaw" A) (hl0 : l.stackTraces = false) (hq : hQ s) (hXs : va_X b L xs s s.heap) (hbl : b < s.heap.size) (hbA : ¬ A b) (hAf : ∀ q, A q → s.heap.size ≤ q) {k_16 : hM → Nat → Nat → Nat → Nat → Int32 → Prop} {n_16 : Nat} (hk_16 : ∀ (M : hM) (H : Heap) (locs : List Loc) (ls : Array Slot) (cells slots : Nat) (l1b28 : Nat) (l2b28 : Nat) (l3b28 : Nat) (l4b28 : Nat) (l5b28 : Int32), cells + n_16 * 1009 ≤ 517653 → slots + n_16 * 12606 ≤ 6467680 → k_16 M l1b28 l2b28 l3b28 l4b28 l5b28 → hw D wCl A M H → va_S A s.heap H locs → lv_has ls 10 [(0, .ref b), (1, .ref l1b28), (2, .ref l2b28), (3, .ref l3b28), (4, .ref l4b28), (5, .int l5b28)] → W p l e room_1 s m #[Value.ref b] below meth c H locs cells slots (lw_Z below #[Value.ref b] s) (F0 m 28 ls [])) (hn_16 : 0 < n_16) {M : hM} {H : Heap} {locs : List Loc} {ls : Array Slot} {cells slots : Nat} (l1b901 : Nat) (l2b901 : Nat) (l3b901 : Nat) (l4b901 : Nat) (l5b901 : Int32) (hc : cells + n_16 * 1009 ≤ 516645) (hs : slots + n_16 * 12606 ≤ 6455080) (h : wp_La_law_901 G ca L xs k_16 M l1b901 l2b901 l3b901 l4b901 l5b901) (hW : hw D wCl A M H) (hS : va_S A s.heap H locs) (hl : lv_has ls 10 [(0, .ref b), (1, .ref l1b901), (2, .ref l2b901), (3, .ref l3b901), (4, .ref l4b901), (5, .int l5b901)]) : W p l e room_1 s m #[Value.ref b] below meth c H locs cells slots (lw_Z below #[Value.ref b] s) (F0 m 901 ls []) := by
  obtain ⟨hx, hb, hr, hml, hown, hts, hlocks, hK, hA, hZ0⟩ := id C0
  refine lv_goto (tgt := 1158) hx hb d_La_law_901 (by decide) ?_
  exact l_La_law_1158 C0 hl0 hq hXs hbl hbA hAf hk_16 hn_16 l1b901 l2b901 l3b901 l4b901 l5b901 (by omega) (by omega) h hW hS (lv_sub hl [0, 1, 2, 3, 4, 5] rfl)
set_option maxHeartbeats 4000000 in
set_option maxRecDepth 200000 in
theorem l_La_law_833 {p : Program} {l : Launch} {e : Env} {s : State} {m : MethodId} {b L : Nat} {xs : Nat → Int32} {below : List Frame} {meth : Method} {c : Code} {D : va_G} {ca G : Nat → Nat} {A : Nat → Prop} (C0 : hC p s m #[Value.ref b] meth c D ca G code 10 (ret) "ChannelHallLaw" A) (hl0 : l.stackTraces = false) (hq : hQ s) (hXs : va_X b L xs s s.heap) (hbl : b < s.heap.size) (hbA : ¬ A b) (hAf : ∀ q, A q → s.heap.size ≤ q) {k_16 : hM → Nat → Nat → Nat → Nat → Int32 → Prop} {n_16 : Nat} (hk_16 : ∀ (M : hM) (H : Heap) (locs : List Loc) (ls : Array Slot) (cells slots : Nat) (l1b28 : Nat) (l2b28 : Nat) (l3b28 : Nat) (l4b28 : Nat) (l5b28 : Int32), cells + n_16 * 1009 ≤ 517653 → slots + n_16 * 12606 ≤ 6467680 → k_16 M l1b28 l2b28 l3b28 l4b28 l5b28 → hw D wCl A M H → va_S A s.heap H locs → lv_has ls 10 [(0, .ref b), (1, .ref l1b28), (2, .ref l2b28), (3, .ref l3b28), (4, .ref l4b28), (5, .int l5b28)] → W p l e room_1 s m #[Value.ref b] below meth c H locs cells slots (lw_Z below #[Value.ref b] s) (F0 m 28 ls [])) (hn_16 : 0 < n_16) {M : hM} {H : Heap} {locs : List Loc} {ls : Array Slot} {cells slots : Nat} (l1b833 : Nat) (l2b833 : Nat) (l3b833 : Nat) (l4b833 : Nat) (l5b833 : Int32) (hc : cells + n_16 * 1009 ≤ 516646) (hs : slots + n_16 * 12606 ≤ 6455086) (h : wp_La_law_833 G ca L xs k_16 M l1b833 l2b833 l3b833 l4b833 l5b833) (hW : hw D wCl A M H) (hS : va_S A s.heap H locs) (hl : lv_has ls 10 [(0, .ref b), (1, .ref l1b833), (2, .ref l2b833), (3, .ref l3b833), (4, .ref l4b833), (5, .int l5b833)]) : W p l e room_1 s m #[Value.ref b] below meth c H locs cells slots (lw_Z below #[Value.ref b] s) (F0 m 833 ls []) := by
  obtain ⟨hx, hb, hr, hml, hown, hts, hlocks, hK, hA, hZ0⟩ := id C0
  refine lv_goto (tgt := 1158) hx hb d_La_law_833 (by decide) ?_
  exact l_La_law_1158 C0 hl0 hq hXs hbl hbA hAf hk_16 hn_16 l1b833 l2b833 l3b833 l4b833 l5b833 (by omega) (by omega) h hW hS (lv_sub hl [0, 1, 2, 3, 4, 5] rfl)
set_option maxHeartbeats 4000000 in
set_option maxRecDepth 200000 in
theorem l_La_law_777 {p : Program} {l : Launch} {e : Env} {s : State} {m : MethodId} {b L : Nat} {xs : Nat → Int32} {below : List Frame} {meth : Method} {c : Code} {D : va_G} {ca G : Nat → Nat} {A : Nat → Prop} (C0 : hC p s m #[Value.ref b] meth c D ca G code 10 (ret) "ChannelHallLaw" A) (hl0 : l.stackTraces = false) (hq : hQ s) (hXs : va_X b L xs s s.heap) (hbl : b < s.heap.size) (hbA : ¬ A b) (hAf : ∀ q, A q → s.heap.size ≤ q) {k_16 : hM → Nat → Nat → Nat → Nat → Int32 → Prop} {n_16 : Nat} (hk_16 : ∀ (M : hM) (H : Heap) (locs : List Loc) (ls : Array Slot) (cells slots : Nat) (l1b28 : Nat) (l2b28 : Nat) (l3b28 : Nat) (l4b28 : Nat) (l5b28 : Int32), cells + n_16 * 1009 ≤ 517653 → slots + n_16 * 12606 ≤ 6467680 → k_16 M l1b28 l2b28 l3b28 l4b28 l5b28 → hw D wCl A M H → va_S A s.heap H locs → lv_has ls 10 [(0, .ref b), (1, .ref l1b28), (2, .ref l2b28), (3, .ref l3b28), (4, .ref l4b28), (5, .int l5b28)] → W p l e room_1 s m #[Value.ref b] below meth c H locs cells slots (lw_Z below #[Value.ref b] s) (F0 m 28 ls [])) (hn_16 : 0 < n_16) {M : hM} {H : Heap} {locs : List Loc} {ls : Array Slot} {cells slots : Nat} (l1b777 : Nat) (l2b777 : Nat) (l3b777 : Nat) (l4b777 : Nat) (l5b777 : Int32) (hc : cells + n_16 * 1009 ≤ 517653) (hs : slots + n_16 * 12606 ≤ 6467680) (h : wp_La_law_777 G ca L xs k_16 M l1b777 l2b777 l3b777 l4b777 l5b777) (hW : hw D wCl A M H) (hS : va_S A s.heap H locs) (hl : lv_has ls 10 [(0, .ref b), (1, .ref l1b777), (2, .ref l2b777), (3, .ref l3b777), (4, .ref l4b777), (5, .int l5b777)]) : W p l e room_1 s m #[Value.ref b] below meth c H locs cells slots (lw_Z below #[Value.ref b] s) (F0 m 777 ls []) := by
  obtain ⟨hx, hb, hr, hml, hown, hts, hlocks, hK, hA, hZ0⟩ := id C0
  refine lv_goto (tgt := 1158) hx hb d_La_law_777 (by decide) ?_
  exact l_La_law_1158 C0 hl0 hq hXs hbl hbA hAf hk_16 hn_16 l1b777 l2b777 l3b777 l4b777 l5b777 (by omega) (by omega) h hW hS (lv_sub hl [0, 1, 2, 3, 4, 5] rfl)
set_option maxHeartbeats 4000000 in
set_option maxRecDepth 200000 in
theorem l_La_law_711 {p : Program} {l : Launch} {e : Env} {s : State} {m : MethodId} {b L : Nat} {xs : Nat → Int32} {below : List Frame} {meth : Method} {c : Code} {D : va_G} {ca G : Nat → Nat} {A : Nat → Prop} (C0 : hC p s m #[Value.ref b] meth c D ca G code 10 (ret) "ChannelHallLaw" A) (hl0 : l.stackTraces = false) (hq : hQ s) (hXs : va_X b L xs s s.heap) (hbl : b < s.heap.size) (hbA : ¬ A b) (hAf : ∀ q, A q → s.heap.size ≤ q) {k_16 : hM → Nat → Nat → Nat → Nat → Int32 → Prop} {n_16 : Nat} (hk_16 : ∀ (M : hM) (H : Heap) (locs : List Loc) (ls : Array Slot) (cells slots : Nat) (l1b28 : Nat) (l2b28 : Nat) (l3b28 : Nat) (l4b28 : Nat) (l5b28 : Int32), cells + n_16 * 1009 ≤ 517653 → slots + n_16 * 12606 ≤ 6467680 → k_16 M l1b28 l2b28 l3b28 l4b28 l5b28 → hw D wCl A M H → va_S A s.heap H locs → lv_has ls 10 [(0, .ref b), (1, .ref l1b28), (2, .ref l2b28), (3, .ref l3b28), (4, .ref l4b28), (5, .int l5b28)] → W p l e room_1 s m #[Value.ref b] below meth c H locs cells slots (lw_Z below #[Value.ref b] s) (F0 m 28 ls [])) (hn_16 : 0 < n_16) {M : hM} {H : Heap} {locs : List Loc} {ls : Array Slot} {cells slots : Nat} (l1b711 : Nat) (l2b711 : Nat) (l3b711 : Nat) (l4b711 : Nat) (l5b711 : Int32) (hc : cells + n_16 * 1009 ≤ 516657) (hs : slots + n_16 * 12606 ≤ 6455230) (h : wp_La_law_711 G ca L xs k_16 M l1b711 l2b711 l3b711 l4b711 l5b711) (hW : hw D wCl A M H) (hS : va_S A s.heap H locs) (hl : lv_has ls 10 [(0, .ref b), (1, .ref l1b711), (2, .ref l2b711), (3, .ref l3b711), (4, .ref l4b711), (5, .int l5b711)]) : W p l e room_1 s m #[Value.ref b] below meth c H locs cells slots (lw_Z below #[Value.ref b] s) (F0 m 711 ls []) := by
  obtain ⟨hx, hb, hr, hml, hown, hts, hlocks, hK, hA, hZ0⟩ := id C0
  refine lv_goto (tgt := 1158) hx hb d_La_law_711 (by decide) ?_
  exact l_La_law_1158 C0 hl0 hq hXs hbl hbA hAf hk_16 hn_16 l1b711 l2b711 l3b711 l4b711 l5b711 (by omega) (by omega) h hW hS (lv_sub hl [0, 1, 2, 3, 4, 5] rfl)
set_option maxHeartbeats 4000000 in
set_option maxRecDepth 200000 in
theorem l_La_law_655 {p : Program} {l : Launch} {e : Env} {s : State} {m : MethodId} {b L : Nat} {xs : Nat → Int32} {below : List Frame} {meth : Method} {c : Code} {D : va_G} {ca G : Nat → Nat} {A : Nat → Prop} (C0 : hC p s m #[Value.ref b] meth c D ca G code 10 (ret) "ChannelHallLaw" A) (hl0 : l.stackTraces = false) (hq : hQ s) (hXs : va_X b L xs s s.heap) (hbl : b < s.heap.size) (hbA : ¬ A b) (hAf : ∀ q, A q → s.heap.size ≤ q) {k_16 : hM → Nat → Nat → Nat → Nat → Int32 → Prop} {n_16 : Nat} (hk_16 : ∀ (M : hM) (H : Heap) (locs : List Loc) (ls : Array Slot) (cells slots : Nat) (l1b28 : Nat) (l2b28 : Nat) (l3b28 : Nat) (l4b28 : Nat) (l5b28 : Int32), cells + n_16 * 1009 ≤ 517653 → slots + n_16 * 12606 ≤ 6467680 → k_16 M l1b28 l2b28 l3b28 l4b28 l5b28 → hw D wCl A M H → va_S A s.heap H locs → lv_has ls 10 [(0, .ref b), (1, .ref l1b28), (2, .ref l2b28), (3, .ref l3b28), (4, .ref l4b28), (5, .int l5b28)] → W p l e room_1 s m #[Value.ref b] below meth c H locs cells slots (lw_Z below #[Value.ref b] s) (F0 m 28 ls [])) (hn_16 : 0 < n_16) {M : hM} {H : Heap} {locs : List Loc} {ls : Array Slot} {cells slots : Nat} (l1b655 : Nat) (l2b655 : Nat) (l3b655 : Nat) (l4b655 : Nat) (l5b655 : Int32) (hc : cells + n_16 * 1009 ≤ 516647) (hs : slots + n_16 * 12606 ≤ 6455092) (h : wp_La_law_655 G ca L xs k_16 M l1b655 l2b655 l3b655 l4b655 l5b655) (hW : hw D wCl A M H) (hS : va_S A s.heap H locs) (hl : lv_has ls 10 [(0, .ref b), (1, .ref l1b655), (2, .ref l2b655), (3, .ref l3b655), (4, .ref l4b655), (5, .int l5b655)]) : W p l e room_1 s m #[Value.ref b] below meth c H locs cells slots (lw_Z below #[Value.ref b] s) (F0 m 655 ls []) := by
  obtain ⟨hx, hb, hr, hml, hown, hts, hlocks, hK, hA, hZ0⟩ := id C0
  refine lv_goto (tgt := 1158) hx hb d_La_law_655 (by decide) ?_
  exact l_La_law_1158 C0 hl0 hq hXs hbl hbA hAf hk_16 hn_16 l1b655 l2b655 l3b655 l4b655 l5b655 (by omega) (by omega) h hW hS (lv_sub hl [0, 1, 2, 3, 4, 5] rfl)
set_option maxHeartbeats 4000000 in
set_option maxRecDepth 200000 in
theorem l_La_law_599 {p : Program} {l : Launch} {e : Env} {s : State} {m : MethodId} {b L : Nat} {xs : Nat → Int32} {below : List Frame} {meth : Method} {c : Code} {D : va_G} {ca G : Nat → Nat} {A : Nat → Prop} (C0 : hC p s m #[Value.ref b] meth c D ca G code 10 (ret) "ChannelHallLaw" A) (hl0 : l.stackTraces = false) (hq : hQ s) (hXs : va_X b L xs s s.heap) (hbl : b < s.heap.size) (hbA : ¬ A b) (hAf : ∀ q, A q → s.heap.size ≤ q) {k_16 : hM → Nat → Nat → Nat → Nat → Int32 → Prop} {n_16 : Nat} (hk_16 : ∀ (M : hM) (H : Heap) (locs : List Loc) (ls : Array Slot) (cells slots : Nat) (l1b28 : Nat) (l2b28 : Nat) (l3b28 : Nat) (l4b28 : Nat) (l5b28 : Int32), cells + n_16 * 1009 ≤ 517653 → slots + n_16 * 12606 ≤ 6467680 → k_16 M l1b28 l2b28 l3b28 l4b28 l5b28 → hw D wCl A M H → va_S A s.heap H locs → lv_has ls 10 [(0, .ref b), (1, .ref l1b28), (2, .ref l2b28), (3, .ref l3b28), (4, .ref l4b28), (5, .int l5b28)] → W p l e room_1 s m #[Value.ref b] below meth c H locs cells slots (lw_Z below #[Value.ref b] s) (F0 m 28 ls [])) (hn_16 : 0 < n_16) {M : hM} {H : Heap} {locs : List Loc} {ls : Array Slot} {cells slots : Nat} (l1b599 : Nat) (l2b599 : Nat) (l3b599 : Nat) (l4b599 : Nat) (l5b599 : Int32) (hc : cells + n_16 * 1009 ≤ 516649) (hs : slots + n_16 * 12606 ≤ 6455120) (h : wp_La_law_599 G ca L xs k_16 M l1b599 l2b599 l3b599 l4b599 l5b599) (hW : hw D wCl A M H) (hS : va_S A s.heap H locs) (hl : lv_has ls 10 [(0, .ref b), (1, .ref l1b599), (2, .ref l2b599), (3, .ref l3b599), (4, .ref l4b599), (5, .int l5b599)]) : W p l e room_1 s m #[Value.ref b] below meth c H locs cells slots (lw_Z below #[Value.ref b] s) (F0 m 599 ls []) := by
  obtain ⟨hx, hb, hr, hml, hown, hts, hlocks, hK, hA, hZ0⟩ := id C0
  refine lv_goto (tgt := 1158) hx hb d_La_law_599 (by decide) ?_
  exact l_La_law_1158 C0 hl0 hq hXs hbl hbA hAf hk_16 hn_16 l1b599 l2b599 l3b599 l4b599 l5b599 (by omega) (by omega) h hW hS (lv_sub hl [0, 1, 2, 3, 4, 5] rfl)
set_option maxHeartbeats 4000000 in
set_option maxRecDepth 200000 in
theorem l_La_law_509 {p : Program} {l : Launch} {e : Env} {s : State} {m : MethodId} {b L : Nat} {xs : Nat → Int32} {below : List Frame} {meth : Method} {c : Code} {D : va_G} {ca G : Nat → Nat} {A : Nat → Prop} (C0 : hC p s m #[Value.ref b] meth c D ca G code 10 (ret) "ChannelHallLaw" A) (hl0 : l.stackTraces = false) (hq : hQ s) (hXs : va_X b L xs s s.heap) (hbl : b < s.heap.size) (hbA : ¬ A b) (hAf : ∀ q, A q → s.heap.size ≤ q) {k_16 : hM → Nat → Nat → Nat → Nat → Int32 → Prop} {n_16 : Nat} (hk_16 : ∀ (M : hM) (H : Heap) (locs : List Loc) (ls : Array Slot) (cells slots : Nat) (l1b28 : Nat) (l2b28 : Nat) (l3b28 : Nat) (l4b28 : Nat) (l5b28 : Int32), cells + n_16 * 1009 ≤ 517653 → slots + n_16 * 12606 ≤ 6467680 → k_16 M l1b28 l2b28 l3b28 l4b28 l5b28 → hw D wCl A M H → va_S A s.heap H locs → lv_has ls 10 [(0, .ref b), (1, .ref l1b28), (2, .ref l2b28), (3, .ref l3b28), (4, .ref l4b28), (5, .int l5b28)] → W p l e room_1 s m #[Value.ref b] below meth c H locs cells slots (lw_Z below #[Value.ref b] s) (F0 m 28 ls [])) (hn_16 : 0 < n_16) {M : hM} {H : Heap} {locs : List Loc} {ls : Array Slot} {cells slots : Nat} (l1b509 : Nat) (l2b509 : Nat) (l3b509 : Nat) (l4b509 : Nat) (l5b509 : Int32) (hc : cells + n_16 * 1009 ≤ 516649) (hs : slots + n_16 * 12606 ≤ 6455120) (h : wp_La_law_509 G ca L xs k_16 M l1b509 l2b509 l3b509 l4b509 l5b509) (hW : hw D wCl A M H) (hS : va_S A s.heap H locs) (hl : lv_has ls 10 [(0, .ref b), (1, .ref l1b509), (2, .ref l2b509), (3, .ref l3b509), (4, .ref l4b509), (5, .int l5b509)]) : W p l e room_1 s m #[Value.ref b] below meth c H locs cells slots (lw_Z below #[Value.ref b] s) (F0 m 509 ls []) := by
  obtain ⟨hx, hb, hr, hml, hown, hts, hlocks, hK, hA, hZ0⟩ := id C0
  refine lv_goto (tgt := 1158) hx hb d_La_law_509 (by decide) ?_
  exact l_La_law_1158 C0 hl0 hq hXs hbl hbA hAf hk_16 hn_16 l1b509 l2b509 l3b509 l4b509 l5b509 (by omega) (by omega) h hW hS (lv_sub hl [0, 1, 2, 3, 4, 5] rfl)
set_option maxHeartbeats 4000000 in
set_option maxRecDepth 200000 in
theorem l_La_law_407 {p : Program} {l : Launch} {e : Env} {s : State} {m : MethodId} {b L : Nat} {xs : Nat → Int32} {below : List Frame} {meth : Method} {c : Code} {D : va_G} {ca G : Nat → Nat} {A : Nat → Prop} (C0 : hC p s m #[Value.ref b] meth c D ca G code 10 (ret) "ChannelHallLaw" A) (hl0 : l.stackTraces = false) (hq : hQ s) (hXs : va_X b L xs s s.heap) (hbl : b < s.heap.size) (hbA : ¬ A b) (hAf : ∀ q, A q → s.heap.size ≤ q) {k_16 : hM → Nat → Nat → Nat → Nat → Int32 → Prop} {n_16 : Nat} (hk_16 : ∀ (M : hM) (H : Heap) (locs : List Loc) (ls : Array Slot) (cells slots : Nat) (l1b28 : Nat) (l2b28 : Nat) (l3b28 : Nat) (l4b28 : Nat) (l5b28 : Int32), cells + n_16 * 1009 ≤ 517653 → slots + n_16 * 12606 ≤ 6467680 → k_16 M l1b28 l2b28 l3b28 l4b28 l5b28 → hw D wCl A M H → va_S A s.heap H locs → lv_has ls 10 [(0, .ref b), (1, .ref l1b28), (2, .ref l2b28), (3, .ref l3b28), (4, .ref l4b28), (5, .int l5b28)] → W p l e room_1 s m #[Value.ref b] below meth c H locs cells slots (lw_Z below #[Value.ref b] s) (F0 m 28 ls [])) (hn_16 : 0 < n_16) {M : hM} {H : Heap} {locs : List Loc} {ls : Array Slot} {cells slots : Nat} (l1b407 : Nat) (l2b407 : Nat) (l3b407 : Nat) (l4b407 : Nat) (l5b407 : Int32) (hc : cells + n_16 * 1009 ≤ 516660) (hs : slots + n_16 * 12606 ≤ 6455248) (h : wp_La_law_407 G ca L xs k_16 M l1b407 l2b407 l3b407 l4b407 l5b407) (hW : hw D wCl A M H) (hS : va_S A s.heap H locs) (hl : lv_has ls 10 [(0, .ref b), (1, .ref l1b407), (2, .ref l2b407), (3, .ref l3b407), (4, .ref l4b407), (5, .int l5b407)]) : W p l e room_1 s m #[Value.ref b] below meth c H locs cells slots (lw_Z below #[Value.ref b] s) (F0 m 407 ls []) := by
  obtain ⟨hx, hb, hr, hml, hown, hts, hlocks, hK, hA, hZ0⟩ := id C0
  refine lv_goto (tgt := 1158) hx hb d_La_law_407 (by decide) ?_
  exact l_La_law_1158 C0 hl0 hq hXs hbl hbA hAf hk_16 hn_16 l1b407 l2b407 l3b407 l4b407 l5b407 (by omega) (by omega) h hW hS (lv_sub hl [0, 1, 2, 3, 4, 5] rfl)
set_option maxHeartbeats 4000000 in
set_option maxRecDepth 200000 in
theorem l_La_law_317 {p : Program} {l : Launch} {e : Env} {s : State} {m : MethodId} {b L : Nat} {xs : Nat → Int32} {below : List Frame} {meth : Method} {c : Code} {D : va_G} {ca G : Nat → Nat} {A : Nat → Prop} (C0 : hC p s m #[Value.ref b] meth c D ca G code 10 (ret) "ChannelHallLaw" A) (hl0 : l.stackTraces = false) (hq : hQ s) (hXs : va_X b L xs s s.heap) (hbl : b < s.heap.size) (hbA : ¬ A b) (hAf : ∀ q, A q → s.heap.size ≤ q) {k_16 : hM → Nat → Nat → Nat → Nat → Int32 → Prop} {n_16 : Nat} (hk_16 : ∀ (M : hM) (H : Heap) (locs : List Loc) (ls : Array Slot) (cells slots : Nat) (l1b28 : Nat) (l2b28 : Nat) (l3b28 : Nat) (l4b28 : Nat) (l5b28 : Int32), cells + n_16 * 1009 ≤ 517653 → slots + n_16 * 12606 ≤ 6467680 → k_16 M l1b28 l2b28 l3b28 l4b28 l5b28 → hw D wCl A M H → va_S A s.heap H locs → lv_has ls 10 [(0, .ref b), (1, .ref l1b28), (2, .ref l2b28), (3, .ref l3b28), (4, .ref l4b28), (5, .int l5b28)] → W p l e room_1 s m #[Value.ref b] below meth c H locs cells slots (lw_Z below #[Value.ref b] s) (F0 m 28 ls [])) (hn_16 : 0 < n_16) {M : hM} {H : Heap} {locs : List Loc} {ls : Array Slot} {cells slots : Nat} (l1b317 : Nat) (l2b317 : Nat) (l3b317 : Nat) (l4b317 : Nat) (l5b317 : Int32) (hc : cells + n_16 * 1009 ≤ 516662) (hs : slots + n_16 * 12606 ≤ 6455273) (h : wp_La_law_317 G ca L xs k_16 M l1b317 l2b317 l3b317 l4b317 l5b317) (hW : hw D wCl A M H) (hS : va_S A s.heap H locs) (hl : lv_has ls 10 [(0, .ref b), (1, .ref l1b317), (2, .ref l2b317), (3, .ref l3b317), (4, .ref l4b317), (5, .int l5b317)]) : W p l e room_1 s m #[Value.ref b] below meth c H locs cells slots (lw_Z below #[Value.ref b] s) (F0 m 317 ls []) := by
  obtain ⟨hx, hb, hr, hml, hown, hts, hlocks, hK, hA, hZ0⟩ := id C0
  refine lv_goto (tgt := 1158) hx hb d_La_law_317 (by decide) ?_
  exact l_La_law_1158 C0 hl0 hq hXs hbl hbA hAf hk_16 hn_16 l1b317 l2b317 l3b317 l4b317 l5b317 (by omega) (by omega) h hW hS (lv_sub hl [0, 1, 2, 3, 4, 5] rfl)
set_option maxHeartbeats 4000000 in
set_option maxRecDepth 200000 in
theorem l_La_law_193 {p : Program} {l : Launch} {e : Env} {s : State} {m : MethodId} {b L : Nat} {xs : Nat → Int32} {below : List Frame} {meth : Method} {c : Code} {D : va_G} {ca G : Nat → Nat} {A : Nat → Prop} (C0 : hC p s m #[Value.ref b] meth c D ca G code 10 (ret) "ChannelHallLaw" A) (hl0 : l.stackTraces = false) (hq : hQ s) (hXs : va_X b L xs s s.heap) (hbl : b < s.heap.size) (hbA : ¬ A b) (hAf : ∀ q, A q → s.heap.size ≤ q) {k_16 : hM → Nat → Nat → Nat → Nat → Int32 → Prop} {n_16 : Nat} (hk_16 : ∀ (M : hM) (H : Heap) (locs : List Loc) (ls : Array Slot) (cells slots : Nat) (l1b28 : Nat) (l2b28 : Nat) (l3b28 : Nat) (l4b28 : Nat) (l5b28 : Int32), cells + n_16 * 1009 ≤ 517653 → slots + n_16 * 12606 ≤ 6467680 → k_16 M l1b28 l2b28 l3b28 l4b28 l5b28 → hw D wCl A M H → va_S A s.heap H locs → lv_has ls 10 [(0, .ref b), (1, .ref l1b28), (2, .ref l2b28), (3, .ref l3b28), (4, .ref l4b28), (5, .int l5b28)] → W p l e room_1 s m #[Value.ref b] below meth c H locs cells slots (lw_Z below #[Value.ref b] s) (F0 m 28 ls [])) (hn_16 : 0 < n_16) {M : hM} {H : Heap} {locs : List Loc} {ls : Array Slot} {cells slots : Nat} (l1b193 : Nat) (l2b193 : Nat) (l3b193 : Nat) (l4b193 : Nat) (l5b193 : Int32) (hc : cells + n_16 * 1009 ≤ 516648) (hs : slots + n_16 * 12606 ≤ 6455096) (h : wp_La_law_193 G ca L xs k_16 M l1b193 l2b193 l3b193 l4b193 l5b193) (hW : hw D wCl A M H) (hS : va_S A s.heap H locs) (hl : lv_has ls 10 [(0, .ref b), (1, .ref l1b193), (2, .ref l2b193), (3, .ref l3b193), (4, .ref l4b193), (5, .int l5b193)]) : W p l e room_1 s m #[Value.ref b] below meth c H locs cells slots (lw_Z below #[Value.ref b] s) (F0 m 193 ls []) := by
  obtain ⟨hx, hb, hr, hml, hown, hts, hlocks, hK, hA, hZ0⟩ := id C0
  refine lv_goto (tgt := 1158) hx hb d_La_law_193 (by decide) ?_
  exact l_La_law_1158 C0 hl0 hq hXs hbl hbA hAf hk_16 hn_16 l1b193 l2b193 l3b193 l4b193 l5b193 (by omega) (by omega) h hW hS (lv_sub hl [0, 1, 2, 3, 4, 5] rfl)
set_option maxHeartbeats 4000000 in
set_option maxRecDepth 200000 in
theorem l_La_law_28 {p : Program} {l : Launch} {e : Env} {s : State} {m : MethodId} {b L : Nat} {xs : Nat → Int32} {below : List Frame} {meth : Method} {c : Code} {D : va_G} {ca G : Nat → Nat} {A : Nat → Prop} (C0 : hC p s m #[Value.ref b] meth c D ca G code 10 (ret) "ChannelHallLaw" A) (hl0 : l.stackTraces = false) (hq : hQ s) (hXs : va_X b L xs s s.heap) (hbl : b < s.heap.size) (hbA : ¬ A b) (hAf : ∀ q, A q → s.heap.size ≤ q) : ∀ (n : Nat) {M : hM} {H : Heap} {locs : List Loc} {ls : Array Slot} {cells slots : Nat} (l1b28 : Nat) (l2b28 : Nat) (l3b28 : Nat) (l4b28 : Nat) (l5b28 : Int32) (hc : cells + n * 1009 ≤ 517653) (hs : slots + n * 12606 ≤ 6467680) (h : wp_La_law_28 G ca L xs n M l1b28 l2b28 l3b28 l4b28 l5b28) (hW : hw D wCl A M H) (hS : va_S A s.heap H locs) (hl : lv_has ls 10 [(0, .ref b), (1, .ref l1b28), (2, .ref l2b28), (3, .ref l3b28), (4, .ref l4b28), (5, .int l5b28)]), W p l e room_1 s m #[Value.ref b] below meth c H locs cells slots (lw_Z below #[Value.ref b] s) (F0 m 28 ls []) := by
  obtain ⟨hx, hb, hr, hml, hown, hts, hlocks, hK, hA, hZ0⟩ := id C0
  intro n
  induction n with
  | zero =>
    intro M H locs ls cells slots l1b28 l2b28 l3b28 l4b28 l5b28 hc hs h
    exact False.elim h
  | succ n ih =>
    intro M H locs ls cells slots l1b28 l2b28 l3b28 l4b28 l5b28 hc hs h hW hS hl
    have hk_16 := fun M H locs ls cells slots l1b28 l2b28 l3b28 l4b28 l5b28 hc hs h hW hS hl => @ih M H locs ls cells slots l1b28 l2b28 l3b28 l4b28 l5b28 hc hs h hW hS hl
    refine lv_iload hx hb d_La_law_28 (lv_at hl 5 rfl) ?_
    refine lv_aload_n hx hb d_La_law_30 rfl (lv_at hl 0 rfl) ?_
    refine va_slen hx hb hXs hbl hbA hS d_La_law_31 ?_
    refine lv_bipush (v := 6) hx hb d_La_law_32 (by decide) ?_
    refine lv_isub hx hb d_La_law_34 ?_
    obtain ⟨h0, h1⟩ := h
    refine lv_icmp_gt (tgt := 1164) hx hb d_La_law_35 (by decide) (fun c341 => ?_) (fun c341 => ?_)
    · have h := h0 c341
      refine lv_iconst (v := 1) hx hb d_La_law_1164 (by decide) ?_
      refine va_forget (fun q hq => hAf _ (hS.2.2 q hq)) ?_
      refine W.widen (k := 717084) (n := 6944853) (by omega) (by omega) ?_
      exact lw_ret hx hb hr hlocks d_La_law_1165
    · have h := h1 c341
      obtain ⟨hn_16, h⟩ := h
      refine lv_aload_n hx hb d_La_law_38 rfl (lv_at hl 0 rfl) ?_
      refine lv_iload hx hb d_La_law_39 (lv_at hl 5 rfl) ?_
      obtain ⟨hi, h⟩ := h
      refine va_sld (i := l5b28) hx hb hXs hbl hbA hS hi d_La_law_41 ?_
      obtain ⟨v342, ev342⟩ : ∃ z, z = xs ((l5b28) : Int32).toNatClampNeg := ⟨_, rfl⟩
      rw [← ev342]
      replace h := h v342 ev342
      refine lv_bipush (v := 15) hx hb d_La_law_42 (by decide) ?_
      refine lv_iand hx hb d_La_law_44 ?_
      obtain ⟨h0, h1⟩ := h
      by_cases c0 : (v342 &&& 15) = 0
      · have h := h0 c0
        rw [c0]
        refine lv_tableIn (off := 71) (tgt := 116) hx hb d_La_law_45 (by decide) (by decide) (by decide) (by decide) ?_
        refine lv_aload_n hx hb d_La_law_116 rfl (lv_at hl 1 rfl) ?_
        refine lv_aload_n hx hb d_La_law_117 rfl (lv_at hl 0 rfl) ?_
        refine lv_iload hx hb d_La_law_118 (lv_at hl 5 rfl) ?_
        refine lv_iconst (v := 1) hx hb d_La_law_120 (by decide) ?_
        refine lv_iadd hx hb d_La_law_121 ?_
        obtain ⟨hi, h⟩ := h
        refine va_sld (i := l5b28 + 1) hx hb hXs hbl hbA hS hi d_La_law_122 ?_
        obtain ⟨v343, ev343⟩ : ∃ z, z = xs ((l5b28 + 1) : Int32).toNatClampNeg := ⟨_, rfl⟩
        rw [← ev343]
        replace h := h v343 ev343
        refine lv_aload_n hx hb d_La_law_123 rfl (lv_at hl 0 rfl) ?_
        refine lv_iload hx hb d_La_law_124 (lv_at hl 5 rfl) ?_
        refine lv_iconst (v := 2) hx hb d_La_law_126 (by decide) ?_
        refine lv_iadd hx hb d_La_law_127 ?_
        obtain ⟨hi, h⟩ := h
        refine va_sld (i := l5b28 + 2) hx hb hXs hbl hbA hS hi d_La_law_128 ?_
        obtain ⟨v344, ev344⟩ : ∃ z, z = xs ((l5b28 + 2) : Int32).toNatClampNeg := ⟨_, rfl⟩
        rw [← ev344]
        replace h := h v344 ev344
        refine lv_aload_n hx hb d_La_law_129 rfl (lv_at hl 0 rfl) ?_
        refine lv_iload hx hb d_La_law_130 (lv_at hl 5 rfl) ?_
        refine lv_iconst (v := 3) hx hb d_La_law_132 (by decide) ?_
        refine lv_iadd hx hb d_La_law_133 ?_
        obtain ⟨hi, h⟩ := h
        refine va_sld (i := l5b28 + 3) hx hb hXs hbl hbA hS hi d_La_law_134 ?_
        obtain ⟨v345, ev345⟩ : ∃ z, z = xs ((l5b28 + 3) : Int32).toNatClampNeg := ⟨_, rfl⟩
        rw [← ev345]
        replace h := h v345 ev345
        refine lv_aload_n hx hb d_La_law_135 rfl (lv_at hl 3 rfl) ?_
        obtain ⟨Ma348, Mb349, hd, he, h7⟩ := h
        subst he
        have h := h7
        clear h7
        have h9 := h
        clear h
        have hW1 := hw_left hW
        have hF := hW1.free hS hA
        refine va_calli (vx_runSW (As := [.ref l1b28, .int v343, .int v344, .int v345, .ref l3b28]) (rest := []) ⟨hx, hb, hml, hown, hts⟩ (c_La_make hl0 _ h9) (vx_cwSW 5 hts (gi_SH bw_117 bw_118 bw_0 bw_119) rfl rfl rfl (by decide +kernel) ⟨Nat.le_of_ble_eq_true rfl, Nat.le_of_ble_eq_true rfl⟩) ⟨hJ.blind, hJ.give hq hW1 hS hA hK hZ0⟩ rfl rfl hl.1 rfl (lv_room (Nat.le_of_ble_eq_true rfl)) d_La_law_136 ⟨(show _ ≤ 717084 by omega), (show _ ≤ 6944853 by omega)⟩) hS (fun q _ z => hF q z) hF (fun r346 Mc350 t H locs ht _ h hB1 _ hk hS => ?_)
        obtain ⟨hd, hW⟩ := hw_join hd hW hF hk ht hB1
        replace h := h hd _ rfl
        generalize uni Mc350 Mb349 = M347 at h hW
        clear h9
        refine lv_istore (lv' := [(6, .int r346), (0, .ref b), (1, .ref l1b28), (2, .ref l2b28), (3, .ref l3b28), (4, .ref l4b28), (5, .int l5b28)]) hx hb d_La_law_139 hl (by decide) rfl (fun ls hl => ?_)
        refine lv_aload_n hx hb d_La_law_141 rfl (lv_at hl 3 rfl) ?_
        refine lv_aload_n hx hb d_La_law_142 rfl (lv_at hl 1 rfl) ?_
        refine lv_iload hx hb d_La_law_143 (lv_at hl 6 rfl) ?_
        refine lv_iconst (v := 1) hx hb d_La_law_145 (by decide) ?_
        refine lv_iadd hx hb d_La_law_146 ?_
        obtain ⟨hi, h⟩ := h
        refine va_sld (i := l5b28 + 1) hx hb hXs hbl hbA hS hi d_La_law_147 ?_
        obtain ⟨v351, ev351⟩ : ∃ z, z = xs ((l5b28 + 1) : Int32).toNatClampNeg := ⟨_, rfl⟩
        rw [← ev351]
        replace h := h v351 ev351
        refine lv_aload_n hx hb d_La_law_148 rfl (lv_at hl 1 rfl) ?_
        refine lv_iload hx hb d_La_law_149 (lv_at hl 6 rfl) ?_
        refine lv_iconst (v := 2) hx hb d_La_law_151 (by decide) ?_
        refine lv_iadd hx hb d_La_law_152 ?_
        obtain ⟨hi, h⟩ := h
        refine va_sld (i := l5b28 + 2) hx hb hXs hbl hbA hS hi d_La_law_153 ?_
        obtain ⟨v352, ev352⟩ : ∃ z, z = xs ((l5b28 + 2) : Int32).toNatClampNeg := ⟨_, rfl⟩
        rw [← ev352]
        replace h := h v352 ev352
        refine lv_aload_n hx hb d_La_law_154 rfl (lv_at hl 1 rfl) ?_
        refine lv_iload hx hb d_La_law_155 (lv_at hl 6 rfl) ?_
        refine lv_iconst (v := 3) hx hb d_La_law_157 (by decide) ?_
        refine lv_iadd hx hb d_La_law_158 ?_
        obtain ⟨hi, h⟩ := h
        refine va_sld (i := l5b28 + 3) hx hb hXs hbl hbA hS hi d_La_law_159 ?_
        obtain ⟨v353, ev353⟩ : ∃ z, z = xs ((l5b28 + 3) : Int32).toNatClampNeg := ⟨_, rfl⟩
        rw [← ev353]
        replace h := h v353 ev353
        obtain ⟨Ma356, Mb357, hd, he, h7⟩ := h
        subst he
        have h := h7
        clear h7
        obtain ⟨⟨fs, h1⟩, h⟩ := h
        have h9 := h
        clear h
        have hW1 := hw_left hW
        have hF := hW1.free hS hA
        refine va_calli (va_runV (As := [.int v351, .int v352, .int v353]) (rest := []) ⟨hx, hb, hml, hown, hts⟩ (c_Mo_make _ h9) (cwV 3 hts (gi_V bw_1060 bw_1061 bw_1062 bw_5 bw_1063) rfl rfl rfl (by decide +kernel) ⟨Nat.le_of_ble_eq_true rfl, Nat.le_of_ble_eq_true rfl⟩) ⟨hI.blind, hw_recv hK hW1 h1 rfl, hI.give hW1 hS hA hK hZ0⟩ rfl rfl hl.1 rfl (lv_room (Nat.le_of_ble_eq_true rfl)) d_La_law_160 ⟨(show _ ≤ 717084 by omega), (show _ ≤ 6944853 by omega)⟩) hS (fun q _ z => hF q z) hF (fun r354 Mc358 t H locs ht _ h hB1 _ hk hS => ?_)
        obtain ⟨hd, hW⟩ := hw_join hd hW hF hk ht hB1
        replace h := h hd _ rfl
        generalize uni Mc358 Mb357 = M355 at h hW
        clear h9
        refine lv_istore (lv' := [(7, .int r354), (6, .int r346), (0, .ref b), (1, .ref l1b28), (2, .ref l2b28), (3, .ref l3b28), (4, .ref l4b28), (5, .int l5b28)]) hx hb d_La_law_163 hl (by decide) rfl (fun ls hl => ?_)
        refine lv_aload_n hx hb d_La_law_165 rfl (lv_at hl 4 rfl) ?_
        obtain ⟨Ma361, Mb362, hd, he, h7⟩ := h
        subst he
        have h := h7
        clear h7
        obtain ⟨⟨fs, h1⟩, h⟩ := h
        have h9 := h
        clear h
        have hW1 := hw_left hW
        have hF := hW1.free hS hA
        refine va_calli (va_runV (As := []) (rest := []) ⟨hx, hb, hml, hown, hts⟩ (c_Mo_thrown _ h9) (cwV 0 hts (gi_V bw_1056 bw_1057 bw_1058 bw_5 bw_1059) rfl rfl rfl (by decide +kernel) ⟨Nat.le_of_ble_eq_true rfl, Nat.le_of_ble_eq_true rfl⟩) ⟨hI.blind, hw_recv hK hW1 h1 rfl, hI.give hW1 hS hA hK hZ0⟩ rfl rfl hl.1 rfl (lv_room (Nat.le_of_ble_eq_true rfl)) d_La_law_166 ⟨(show _ ≤ 717084 by omega), (show _ ≤ 6944853 by omega)⟩) hS (fun q _ z => hF q z) hF (fun r359 Mc363 t H locs ht _ h hB1 _ hk hS => ?_)
        obtain ⟨hd, hW⟩ := hw_join hd hW hF hk ht hB1
        replace h := h hd _ rfl
        generalize uni Mc363 Mb362 = M360 at h hW
        clear h9
        refine lv_iload hx hb d_La_law_169 (lv_at hl 1 rfl) ?_
        obtain ⟨h0, h1⟩ := h
        refine lv_icmp_eq (tgt := 176) hx hb d_La_law_171 (by decide) (fun c364 => ?_) (fun c364 => ?_)
        · have h := h0 c364
          refine lv_iload hx hb d_La_law_176 (lv_at hl 1 rfl) ?_
          obtain ⟨h0, h1⟩ := h
          refine lv_if_ne (tgt := 193) hx hb d_La_law_178 (by decide) (fun c365 => ?_) (fun c365 => ?_)
          · have h := h0 c365
            exact l_La_law_193 C0 hl0 hq hXs hbl hbA hAf hk_16 hn_16 l1b28 l2b28 l3b28 l4b28 l5b28 (by omega) (by omega) h hW hS (lv_sub hl [2, 3, 4, 5, 6, 7] rfl)
          · have h := h1 c365
            refine lv_aload_n hx hb d_La_law_181 rfl (lv_at hl 5 rfl) ?_
            refine lv_iconst (v := 0) hx hb d_La_law_182 (by decide) ?_
            obtain ⟨n, f, h1, h2, h⟩ := h
            refine va_lald hx hb hK (hw_one hW h1) 0 3 rfl rfl h2 d_La_law_183 ?_
            generalize f (0 : Int32).toNatClampNeg = v366 at h ⊢
            refine lv_iload hx hb d_La_law_184 (lv_at hl 0 rfl) ?_
            refine lv_i2l hx hb d_La_law_186 rfl ?_
            refine W.lcmp hx hb d_La_law_187 ?_
            obtain ⟨h0, h1⟩ := h
            refine lv_if_eq (tgt := 193) hx hb d_La_law_188 (by decide) (fun c367 => ?_) (fun c367 => ?_)
            · have h := h0 c367
              exact l_La_law_193 C0 hl0 hq hXs hbl hbA hAf hk_16 hn_16 l1b28 l2b28 l3b28 l4b28 l5b28 (by omega) (by omega) h hW hS (lv_sub hl [2, 3, 4, 5, 6, 7] rfl)
            · have h := h1 c367
              refine lv_iconst (v := 0) hx hb d_La_law_191 (by decide) ?_
              exact False.elim h
        · have h := h1 c364
          refine lv_iconst (v := 0) hx hb d_La_law_174 (by decide) ?_
          exact False.elim h
      · have h := h1 c0
        obtain ⟨h0, h1⟩ := h
        by_cases c1 : (v342 &&& 15) = 1
        · have h := h0 c1
          rw [c1]
          refine lv_tableIn (off := 151) (tgt := 196) hx hb d_La_law_45 (by decide) (by decide) (by decide) (by decide) ?_
          refine lv_aload_n hx hb d_La_law_196 rfl (lv_at hl 1 rfl) ?_
          refine lv_aload_n hx hb d_La_law_197 rfl (lv_at hl 0 rfl) ?_
          refine lv_iload hx hb d_La_law_198 (lv_at hl 5 rfl) ?_
          refine lv_iconst (v := 1) hx hb d_La_law_200 (by decide) ?_
          refine lv_iadd hx hb d_La_law_201 ?_
          obtain ⟨hi, h⟩ := h
          refine va_sld (i := l5b28 + 1) hx hb hXs hbl hbA hS hi d_La_law_202 ?_
          obtain ⟨v368, ev368⟩ : ∃ z, z = xs ((l5b28 + 1) : Int32).toNatClampNeg := ⟨_, rfl⟩
          rw [← ev368]
          replace h := h v368 ev368
          refine lv_aload_n hx hb d_La_law_203 rfl (lv_at hl 0 rfl) ?_
          refine lv_iload hx hb d_La_law_204 (lv_at hl 5 rfl) ?_
          refine lv_iconst (v := 2) hx hb d_La_law_206 (by decide) ?_
          refine lv_iadd hx hb d_La_law_207 ?_
          obtain ⟨hi, h⟩ := h
          refine va_sld (i := l5b28 + 2) hx hb hXs hbl hbA hS hi d_La_law_208 ?_
          obtain ⟨v369, ev369⟩ : ∃ z, z = xs ((l5b28 + 2) : Int32).toNatClampNeg := ⟨_, rfl⟩
          rw [← ev369]
          replace h := h v369 ev369
          refine lv_aload_n hx hb d_La_law_209 rfl (lv_at hl 0 rfl) ?_
          refine lv_iload hx hb d_La_law_210 (lv_at hl 5 rfl) ?_
          refine lv_iconst (v := 3) hx hb d_La_law_212 (by decide) ?_
          refine lv_iadd hx hb d_La_law_213 ?_
          obtain ⟨hi, h⟩ := h
          refine va_sld (i := l5b28 + 3) hx hb hXs hbl hbA hS hi d_La_law_214 ?_
          obtain ⟨v370, ev370⟩ : ∃ z, z = xs ((l5b28 + 3) : Int32).toNatClampNeg := ⟨_, rfl⟩
          rw [← ev370]
          replace h := h v370 ev370
          refine lv_aload_n hx hb d_La_law_215 rfl (lv_at hl 0 rfl) ?_
          refine lv_iload hx hb d_La_law_216 (lv_at hl 5 rfl) ?_
          refine lv_iconst (v := 4) hx hb d_La_law_218 (by decide) ?_
          refine lv_iadd hx hb d_La_law_219 ?_
          obtain ⟨hi, h⟩ := h
          refine va_sld (i := l5b28 + 4) hx hb hXs hbl hbA hS hi d_La_law_220 ?_
          obtain ⟨v371, ev371⟩ : ∃ z, z = xs ((l5b28 + 4) : Int32).toNatClampNeg := ⟨_, rfl⟩
          rw [← ev371]
          replace h := h v371 ev371
          refine lv_i2d hx hb d_La_law_221 ?_
          refine lv_ldc2d (v := 4593671619917905920) hx hb hown (hts _ bw_1190) d_La_law_222 ?_
          obtain ⟨hn, h⟩ := h
          refine lv_dmul hx hb d_La_law_225 hn ?_
          refine lv_aload_n hx hb d_La_law_226 rfl (lv_at hl 0 rfl) ?_
          refine lv_iload hx hb d_La_law_227 (lv_at hl 5 rfl) ?_
          refine lv_iconst (v := 5) hx hb d_La_law_229 (by decide) ?_
          refine lv_iadd hx hb d_La_law_230 ?_
          obtain ⟨hi, h⟩ := h
          refine va_sld (i := l5b28 + 5) hx hb hXs hbl hbA hS hi d_La_law_231 ?_
          obtain ⟨v372, ev372⟩ : ∃ z, z = xs ((l5b28 + 5) : Int32).toNatClampNeg := ⟨_, rfl⟩
          rw [← ev372]
          replace h := h v372 ev372
          refine lv_i2d hx hb d_La_law_232 ?_
          refine lv_ldc2d (v := 4593671619917905920) hx hb hown (hts _ bw_1190) d_La_law_233 ?_
          obtain ⟨hn, h⟩ := h
          refine lv_dmul hx hb d_La_law_236 hn ?_
          refine lv_aload_n hx hb d_La_law_237 rfl (lv_at hl 3 rfl) ?_
          obtain ⟨Ma375, Mb376, hd, he, h7⟩ := h
          subst he
          have h := h7
          clear h7
          have h9 := h
          clear h
          have hW1 := hw_left hW
          have hF := hW1.free hS hA
          refine va_calli (vx_runSW (As := [.ref l1b28, .int v368, .int v369, .int v370, .double (FP.dmul (FP.i2d v371) 4593671619917905920), .double (FP.dmul (FP.i2d v372) 4593671619917905920), .ref l3b28]) (rest := []) ⟨hx, hb, hml, hown, hts⟩ (c_La_give hl0 _ h9) (vx_cwSW 7 hts (gi_SH bw_291 bw_292 bw_0 bw_293) rfl rfl rfl (by decide +kernel) ⟨Nat.le_of_ble_eq_true rfl, Nat.le_of_ble_eq_true rfl⟩) ⟨hJ.blind, hJ.give hq hW1 hS hA hK hZ0⟩ rfl rfl hl.1 rfl (lv_room (Nat.le_of_ble_eq_true rfl)) d_La_law_238 ⟨(show _ ≤ 717084 by omega), (show _ ≤ 6944853 by omega)⟩) hS (fun q _ z => hF q z) hF (fun r373 Mc377 t H locs ht _ h hB1 _ hk hS => ?_)
          obtain ⟨hd, hW⟩ := hw_join hd hW hF hk ht hB1
          replace h := h hd _ rfl
          generalize uni Mc377 Mb376 = M374 at h hW
          clear h9
          refine lv_istore (lv' := [(6, .int r373), (0, .ref b), (1, .ref l1b28), (2, .ref l2b28), (3, .ref l3b28), (4, .ref l4b28), (5, .int l5b28)]) hx hb d_La_law_241 hl (by decide) rfl (fun ls hl => ?_)
          refine lv_aload_n hx hb d_La_law_243 rfl (lv_at hl 3 rfl) ?_
          refine lv_aload_n hx hb d_La_law_244 rfl (lv_at hl 1 rfl) ?_
          refine lv_iload hx hb d_La_law_245 (lv_at hl 6 rfl) ?_
          refine lv_iconst (v := 1) hx hb d_La_law_247 (by decide) ?_
          refine lv_iadd hx hb d_La_law_248 ?_
          obtain ⟨hi, h⟩ := h
          refine va_sld (i := l5b28 + 1) hx hb hXs hbl hbA hS hi d_La_law_249 ?_
          obtain ⟨v378, ev378⟩ : ∃ z, z = xs ((l5b28 + 1) : Int32).toNatClampNeg := ⟨_, rfl⟩
          rw [← ev378]
          replace h := h v378 ev378
          refine lv_aload_n hx hb d_La_law_250 rfl (lv_at hl 1 rfl) ?_
          refine lv_iload hx hb d_La_law_251 (lv_at hl 6 rfl) ?_
          refine lv_iconst (v := 2) hx hb d_La_law_253 (by decide) ?_
          refine lv_iadd hx hb d_La_law_254 ?_
          obtain ⟨hi, h⟩ := h
          refine va_sld (i := l5b28 + 2) hx hb hXs hbl hbA hS hi d_La_law_255 ?_
          obtain ⟨v379, ev379⟩ : ∃ z, z = xs ((l5b28 + 2) : Int32).toNatClampNeg := ⟨_, rfl⟩
          rw [← ev379]
          replace h := h v379 ev379
          refine lv_aload_n hx hb d_La_law_256 rfl (lv_at hl 1 rfl) ?_
          refine lv_iload hx hb d_La_law_257 (lv_at hl 6 rfl) ?_
          refine lv_iconst (v := 3) hx hb d_La_law_259 (by decide) ?_
          refine lv_iadd hx hb d_La_law_260 ?_
          obtain ⟨hi, h⟩ := h
          refine va_sld (i := l5b28 + 3) hx hb hXs hbl hbA hS hi d_La_law_261 ?_
          obtain ⟨v380, ev380⟩ : ∃ z, z = xs ((l5b28 + 3) : Int32).toNatClampNeg := ⟨_, rfl⟩
          rw [← ev380]
          replace h := h v380 ev380
          refine lv_aload_n hx hb d_La_law_262 rfl (lv_at hl 1 rfl) ?_
          refine lv_iload hx hb d_La_law_263 (lv_at hl 6 rfl) ?_
          refine lv_iconst (v := 4) hx hb d_La_law_265 (by decide) ?_
          refine lv_iadd hx hb d_La_law_266 ?_
          obtain ⟨hi, h⟩ := h
          refine va_sld (i := l5b28 + 4) hx hb hXs hbl hbA hS hi d_La_law_267 ?_
          obtain ⟨v381, ev381⟩ : ∃ z, z = xs ((l5b28 + 4) : Int32).toNatClampNeg := ⟨_, rfl⟩
          rw [← ev381]
          replace h := h v381 ev381
          refine lv_i2d hx hb d_La_law_268 ?_
          refine lv_ldc2d (v := 4593671619917905920) hx hb hown (hts _ bw_1190) d_La_law_269 ?_
          obtain ⟨hn, h⟩ := h
          refine lv_dmul hx hb d_La_law_272 hn ?_
          refine lv_aload_n hx hb d_La_law_273 rfl (lv_at hl 1 rfl) ?_
          refine lv_iload hx hb d_La_law_274 (lv_at hl 6 rfl) ?_
          refine lv_iconst (v := 5) hx hb d_La_law_276 (by decide) ?_
          refine lv_iadd hx hb d_La_law_277 ?_
          obtain ⟨hi, h⟩ := h
          refine va_sld (i := l5b28 + 5) hx hb hXs hbl hbA hS hi d_La_law_278 ?_
          obtain ⟨v382, ev382⟩ : ∃ z, z = xs ((l5b28 + 5) : Int32).toNatClampNeg := ⟨_, rfl⟩
          rw [← ev382]
          replace h := h v382 ev382
          refine lv_i2d hx hb d_La_law_279 ?_
          refine lv_ldc2d (v := 4593671619917905920) hx hb hown (hts _ bw_1190) d_La_law_280 ?_
          obtain ⟨hn, h⟩ := h
          refine lv_dmul hx hb d_La_law_283 hn ?_
          obtain ⟨Ma385, Mb386, hd, he, h7⟩ := h
          subst he
          have h := h7
          clear h7
          obtain ⟨⟨fs, h1⟩, h⟩ := h
          have h9 := h
          clear h
          have hW1 := hw_left hW
          have hF := hW1.free hS hA
          refine va_calli (va_runV (As := [.int v378, .int v379, .int v380, .double (FP.dmul (FP.i2d v381) 4593671619917905920), .double (FP.dmul (FP.i2d v382) 4593671619917905920)]) (rest := []) ⟨hx, hb, hml, hown, hts⟩ (c_Mo_give _ h9) (cwV 5 hts (gi_V bw_1072 bw_1073 bw_1074 bw_5 bw_1075) rfl rfl rfl (by decide +kernel) ⟨Nat.le_of_ble_eq_true rfl, Nat.le_of_ble_eq_true rfl⟩) ⟨hI.blind, hw_recv hK hW1 h1 rfl, hI.give hW1 hS hA hK hZ0⟩ rfl rfl hl.1 rfl (lv_room (Nat.le_of_ble_eq_true rfl)) d_La_law_284 ⟨(show _ ≤ 717084 by omega), (show _ ≤ 6944853 by omega)⟩) hS (fun q _ z => hF q z) hF (fun r383 Mc387 t H locs ht _ h hB1 _ hk hS => ?_)
          obtain ⟨hd, hW⟩ := hw_join hd hW hF hk ht hB1
          replace h := h hd _ rfl
          generalize uni Mc387 Mb386 = M384 at h hW
          clear h9
          refine lv_istore (lv' := [(7, .int r383), (6, .int r373), (0, .ref b), (1, .ref l1b28), (2, .ref l2b28), (3, .ref l3b28), (4, .ref l4b28), (5, .int l5b28)]) hx hb d_La_law_287 hl (by decide) rfl (fun ls hl => ?_)
          refine lv_aload_n hx hb d_La_law_289 rfl (lv_at hl 4 rfl) ?_
          obtain ⟨Ma390, Mb391, hd, he, h7⟩ := h
          subst he
          have h := h7
          clear h7
          obtain ⟨⟨fs, h1⟩, h⟩ := h
          have h9 := h
          clear h
          have hW1 := hw_left hW
          have hF := hW1.free hS hA
          refine va_calli (va_runV (As := []) (rest := []) ⟨hx, hb, hml, hown, hts⟩ (c_Mo_thrown _ h9) (cwV 0 hts (gi_V bw_1056 bw_1057 bw_1058 bw_5 bw_1059) rfl rfl rfl (by decide +kernel) ⟨Nat.le_of_ble_eq_true rfl, Nat.le_of_ble_eq_true rfl⟩) ⟨hI.blind, hw_recv hK hW1 h1 rfl, hI.give hW1 hS hA hK hZ0⟩ rfl rfl hl.1 rfl (lv_room (Nat.le_of_ble_eq_true rfl)) d_La_law_290 ⟨(show _ ≤ 717084 by omega), (show _ ≤ 6944853 by omega)⟩) hS (fun q _ z => hF q z) hF (fun r388 Mc392 t H locs ht _ h hB1 _ hk hS => ?_)
          obtain ⟨hd, hW⟩ := hw_join hd hW hF hk ht hB1
          replace h := h hd _ rfl
          generalize uni Mc392 Mb391 = M389 at h hW
          clear h9
          refine lv_iload hx hb d_La_law_293 (lv_at hl 1 rfl) ?_
          obtain ⟨h0, h1⟩ := h
          refine lv_icmp_eq (tgt := 300) hx hb d_La_law_295 (by decide) (fun c393 => ?_) (fun c393 => ?_)
          · have h := h0 c393
            refine lv_iload hx hb d_La_law_300 (lv_at hl 1 rfl) ?_
            obtain ⟨h0, h1⟩ := h
            refine lv_if_ne (tgt := 317) hx hb d_La_law_302 (by decide) (fun c394 => ?_) (fun c394 => ?_)
            · have h := h0 c394
              exact l_La_law_317 C0 hl0 hq hXs hbl hbA hAf hk_16 hn_16 l1b28 l2b28 l3b28 l4b28 l5b28 (by omega) (by omega) h hW hS (lv_sub hl [2, 3, 4, 5, 6, 7] rfl)
            · have h := h1 c394
              refine lv_aload_n hx hb d_La_law_305 rfl (lv_at hl 5 rfl) ?_
              refine lv_iconst (v := 0) hx hb d_La_law_306 (by decide) ?_
              obtain ⟨n, f, h1, h2, h⟩ := h
              refine va_lald hx hb hK (hw_one hW h1) 0 3 rfl rfl h2 d_La_law_307 ?_
              generalize f (0 : Int32).toNatClampNeg = v395 at h ⊢
              refine lv_iload hx hb d_La_law_308 (lv_at hl 0 rfl) ?_
              refine lv_i2l hx hb d_La_law_310 rfl ?_
              refine W.lcmp hx hb d_La_law_311 ?_
              obtain ⟨h0, h1⟩ := h
              refine lv_if_eq (tgt := 317) hx hb d_La_law_312 (by decide) (fun c396 => ?_) (fun c396 => ?_)
              · have h := h0 c396
                exact l_La_law_317 C0 hl0 hq hXs hbl hbA hAf hk_16 hn_16 l1b28 l2b28 l3b28 l4b28 l5b28 (by omega) (by omega) h hW hS (lv_sub hl [2, 3, 4, 5, 6, 7] rfl)
              · have h := h1 c396
                refine lv_iconst (v := 0) hx hb d_La_law_315 (by decide) ?_
                exact False.elim h
          · have h := h1 c393
            refine lv_iconst (v := 0) hx hb d_La_law_298 (by decide) ?_
            exact False.elim h
        · have h := h1 c1
          obtain ⟨h0, h1⟩ := h
          by_cases c2 : (v342 &&& 15) = 2
          · have h := h0 c2
            rw [c2]
            refine lv_tableIn (off := 275) (tgt := 320) hx hb d_La_law_45 (by decide) (by decide) (by decide) (by decide) ?_
            refine lv_aload_n hx hb d_La_law_320 rfl (lv_at hl 1 rfl) ?_
            refine lv_aload_n hx hb d_La_law_321 rfl (lv_at hl 0 rfl) ?_
            refine lv_iload hx hb d_La_law_322 (lv_at hl 5 rfl) ?_
            refine lv_iconst (v := 1) hx hb d_La_law_324 (by decide) ?_
            refine lv_iadd hx hb d_La_law_325 ?_
            obtain ⟨hi, h⟩ := h
            refine va_sld (i := l5b28 + 1) hx hb hXs hbl hbA hS hi d_La_law_326 ?_
            obtain ⟨v397, ev397⟩ : ∃ z, z = xs ((l5b28 + 1) : Int32).toNatClampNeg := ⟨_, rfl⟩
            rw [← ev397]
            replace h := h v397 ev397
            refine lv_aload_n hx hb d_La_law_327 rfl (lv_at hl 0 rfl) ?_
            refine lv_iload hx hb d_La_law_328 (lv_at hl 5 rfl) ?_
            refine lv_iconst (v := 2) hx hb d_La_law_330 (by decide) ?_
            refine lv_iadd hx hb d_La_law_331 ?_
            obtain ⟨hi, h⟩ := h
            refine va_sld (i := l5b28 + 2) hx hb hXs hbl hbA hS hi d_La_law_332 ?_
            obtain ⟨v398, ev398⟩ : ∃ z, z = xs ((l5b28 + 2) : Int32).toNatClampNeg := ⟨_, rfl⟩
            rw [← ev398]
            replace h := h v398 ev398
            refine lv_aload_n hx hb d_La_law_333 rfl (lv_at hl 0 rfl) ?_
            refine lv_iload hx hb d_La_law_334 (lv_at hl 5 rfl) ?_
            refine lv_iconst (v := 3) hx hb d_La_law_336 (by decide) ?_
            refine lv_iadd hx hb d_La_law_337 ?_
            obtain ⟨hi, h⟩ := h
            refine va_sld (i := l5b28 + 3) hx hb hXs hbl hbA hS hi d_La_law_338 ?_
            obtain ⟨v399, ev399⟩ : ∃ z, z = xs ((l5b28 + 3) : Int32).toNatClampNeg := ⟨_, rfl⟩
            rw [← ev399]
            replace h := h v399 ev399
            refine lv_i2d hx hb d_La_law_339 ?_
            refine lv_ldc2d (v := 4593671619917905920) hx hb hown (hts _ bw_1190) d_La_law_340 ?_
            obtain ⟨hn, h⟩ := h
            refine lv_dmul hx hb d_La_law_343 hn ?_
            refine lv_aload_n hx hb d_La_law_344 rfl (lv_at hl 3 rfl) ?_
            obtain ⟨Ma402, Mb403, hd, he, h7⟩ := h
            subst he
            have h := h7
            clear h7
            have h9 := h
            clear h
            have hW1 := hw_left hW
            have hF := hW1.free hS hA
            refine va_calli (vx_runSW (As := [.ref l1b28, .int v397, .int v398, .double (FP.dmul (FP.i2d v399) 4593671619917905920), .ref l3b28]) (rest := []) ⟨hx, hb, hml, hown, hts⟩ (c_La_take hl0 _ h9) (vx_cwSW 5 hts (gi_SH bw_811 bw_812 bw_0 bw_813) rfl rfl rfl (by decide +kernel) ⟨Nat.le_of_ble_eq_true rfl, Nat.le_of_ble_eq_true rfl⟩) ⟨hJ.blind, hJ.give hq hW1 hS hA hK hZ0⟩ rfl rfl hl.1 rfl (lv_room (Nat.le_of_ble_eq_true rfl)) d_La_law_345 ⟨(show _ ≤ 717084 by omega), (show _ ≤ 6944853 by omega)⟩) hS (fun q _ z => hF q z) hF (fun r400 Mc404 t H locs ht _ h hB1 _ hk hS => ?_)
            obtain ⟨hd, hW⟩ := hw_join hd hW hF hk ht hB1
            replace h := h hd _ rfl
            generalize uni Mc404 Mb403 = M401 at h hW
            clear h9
            refine lv_istore (lv' := [(6, .int r400), (0, .ref b), (1, .ref l1b28), (2, .ref l2b28), (3, .ref l3b28), (4, .ref l4b28), (5, .int l5b28)]) hx hb d_La_law_348 hl (by decide) rfl (fun ls hl => ?_)
            refine lv_aload_n hx hb d_La_law_350 rfl (lv_at hl 3 rfl) ?_
            refine lv_aload_n hx hb d_La_law_351 rfl (lv_at hl 1 rfl) ?_
            refine lv_iload hx hb d_La_law_352 (lv_at hl 6 rfl) ?_
            refine lv_iconst (v := 1) hx hb d_La_law_354 (by decide) ?_
            refine lv_iadd hx hb d_La_law_355 ?_
            obtain ⟨hi, h⟩ := h
            refine va_sld (i := l5b28 + 1) hx hb hXs hbl hbA hS hi d_La_law_356 ?_
            obtain ⟨v405, ev405⟩ : ∃ z, z = xs ((l5b28 + 1) : Int32).toNatClampNeg := ⟨_, rfl⟩
            rw [← ev405]
            replace h := h v405 ev405
            refine lv_aload_n hx hb d_La_law_357 rfl (lv_at hl 1 rfl) ?_
            refine lv_iload hx hb d_La_law_358 (lv_at hl 6 rfl) ?_
            refine lv_iconst (v := 2) hx hb d_La_law_360 (by decide) ?_
            refine lv_iadd hx hb d_La_law_361 ?_
            obtain ⟨hi, h⟩ := h
            refine va_sld (i := l5b28 + 2) hx hb hXs hbl hbA hS hi d_La_law_362 ?_
            obtain ⟨v406, ev406⟩ : ∃ z, z = xs ((l5b28 + 2) : Int32).toNatClampNeg := ⟨_, rfl⟩
            rw [← ev406]
            replace h := h v406 ev406
            refine lv_aload_n hx hb d_La_law_363 rfl (lv_at hl 1 rfl) ?_
            refine lv_iload hx hb d_La_law_364 (lv_at hl 6 rfl) ?_
            refine lv_iconst (v := 3) hx hb d_La_law_366 (by decide) ?_
            refine lv_iadd hx hb d_La_law_367 ?_
            obtain ⟨hi, h⟩ := h
            refine va_sld (i := l5b28 + 3) hx hb hXs hbl hbA hS hi d_La_law_368 ?_
            obtain ⟨v407, ev407⟩ : ∃ z, z = xs ((l5b28 + 3) : Int32).toNatClampNeg := ⟨_, rfl⟩
            rw [← ev407]
            replace h := h v407 ev407
            refine lv_i2d hx hb d_La_law_369 ?_
            refine lv_ldc2d (v := 4593671619917905920) hx hb hown (hts _ bw_1190) d_La_law_370 ?_
            obtain ⟨hn, h⟩ := h
            refine lv_dmul hx hb d_La_law_373 hn ?_
            obtain ⟨Ma410, Mb411, hd, he, h7⟩ := h
            subst he
            have h := h7
            clear h7
            obtain ⟨⟨fs, h1⟩, h⟩ := h
            have h9 := h
            clear h
            have hW1 := hw_left hW
            have hF := hW1.free hS hA
            refine va_calli (va_runV (As := [.int v405, .int v406, .double (FP.dmul (FP.i2d v407) 4593671619917905920)]) (rest := []) ⟨hx, hb, hml, hown, hts⟩ (c_Mo_take _ h9) (cwV 3 hts (gi_V bw_1130 bw_1131 bw_1132 bw_5 bw_1133) rfl rfl rfl (by decide +kernel) ⟨Nat.le_of_ble_eq_true rfl, Nat.le_of_ble_eq_true rfl⟩) ⟨hI.blind, hw_recv hK hW1 h1 rfl, hI.give hW1 hS hA hK hZ0⟩ rfl rfl hl.1 rfl (lv_room (Nat.le_of_ble_eq_true rfl)) d_La_law_374 ⟨(show _ ≤ 717084 by omega), (show _ ≤ 6944853 by omega)⟩) hS (fun q _ z => hF q z) hF (fun r408 Mc412 t H locs ht _ h hB1 _ hk hS => ?_)
            obtain ⟨hd, hW⟩ := hw_join hd hW hF hk ht hB1
            replace h := h hd _ rfl
            generalize uni Mc412 Mb411 = M409 at h hW
            clear h9
            refine lv_istore (lv' := [(7, .int r408), (6, .int r400), (0, .ref b), (1, .ref l1b28), (2, .ref l2b28), (3, .ref l3b28), (4, .ref l4b28), (5, .int l5b28)]) hx hb d_La_law_377 hl (by decide) rfl (fun ls hl => ?_)
            refine lv_aload_n hx hb d_La_law_379 rfl (lv_at hl 4 rfl) ?_
            obtain ⟨Ma415, Mb416, hd, he, h7⟩ := h
            subst he
            have h := h7
            clear h7
            obtain ⟨⟨fs, h1⟩, h⟩ := h
            have h9 := h
            clear h
            have hW1 := hw_left hW
            have hF := hW1.free hS hA
            refine va_calli (va_runV (As := []) (rest := []) ⟨hx, hb, hml, hown, hts⟩ (c_Mo_thrown _ h9) (cwV 0 hts (gi_V bw_1056 bw_1057 bw_1058 bw_5 bw_1059) rfl rfl rfl (by decide +kernel) ⟨Nat.le_of_ble_eq_true rfl, Nat.le_of_ble_eq_true rfl⟩) ⟨hI.blind, hw_recv hK hW1 h1 rfl, hI.give hW1 hS hA hK hZ0⟩ rfl rfl hl.1 rfl (lv_room (Nat.le_of_ble_eq_true rfl)) d_La_law_380 ⟨(show _ ≤ 717084 by omega), (show _ ≤ 6944853 by omega)⟩) hS (fun q _ z => hF q z) hF (fun r413 Mc417 t H locs ht _ h hB1 _ hk hS => ?_)
            obtain ⟨hd, hW⟩ := hw_join hd hW hF hk ht hB1
            replace h := h hd _ rfl
            generalize uni Mc417 Mb416 = M414 at h hW
            clear h9
            refine lv_iload hx hb d_La_law_383 (lv_at hl 1 rfl) ?_
            obtain ⟨h0, h1⟩ := h
            refine lv_icmp_eq (tgt := 390) hx hb d_La_law_385 (by decide) (fun c418 => ?_) (fun c418 => ?_)
            · have h := h0 c418
              refine lv_iload hx hb d_La_law_390 (lv_at hl 1 rfl) ?_
              obtain ⟨h0, h1⟩ := h
              refine lv_if_ne (tgt := 407) hx hb d_La_law_392 (by decide) (fun c419 => ?_) (fun c419 => ?_)
              · have h := h0 c419
                exact l_La_law_407 C0 hl0 hq hXs hbl hbA hAf hk_16 hn_16 l1b28 l2b28 l3b28 l4b28 l5b28 (by omega) (by omega) h hW hS (lv_sub hl [2, 3, 4, 5, 6, 7] rfl)
              · have h := h1 c419
                refine lv_aload_n hx hb d_La_law_395 rfl (lv_at hl 5 rfl) ?_
                refine lv_iconst (v := 0) hx hb d_La_law_396 (by decide) ?_
                obtain ⟨n, f, h1, h2, h⟩ := h
                refine va_lald hx hb hK (hw_one hW h1) 0 3 rfl rfl h2 d_La_law_397 ?_
                generalize f (0 : Int32).toNatClampNeg = v420 at h ⊢
                refine lv_iload hx hb d_La_law_398 (lv_at hl 0 rfl) ?_
                refine lv_i2l hx hb d_La_law_400 rfl ?_
                refine W.lcmp hx hb d_La_law_401 ?_
                obtain ⟨h0, h1⟩ := h
                refine lv_if_eq (tgt := 407) hx hb d_La_law_402 (by decide) (fun c421 => ?_) (fun c421 => ?_)
                · have h := h0 c421
                  exact l_La_law_407 C0 hl0 hq hXs hbl hbA hAf hk_16 hn_16 l1b28 l2b28 l3b28 l4b28 l5b28 (by omega) (by omega) h hW hS (lv_sub hl [2, 3, 4, 5, 6, 7] rfl)
                · have h := h1 c421
                  refine lv_iconst (v := 0) hx hb d_La_law_405 (by decide) ?_
                  exact False.elim h
            · have h := h1 c418
              refine lv_iconst (v := 0) hx hb d_La_law_388 (by decide) ?_
              exact False.elim h
          · have h := h1 c2
            obtain ⟨h0, h1⟩ := h
            by_cases c3 : (v342 &&& 15) = 3
            · have h := h0 c3
              rw [c3]
              refine lv_tableIn (off := 365) (tgt := 410) hx hb d_La_law_45 (by decide) (by decide) (by decide) (by decide) ?_
              refine lv_aload_n hx hb d_La_law_410 rfl (lv_at hl 1 rfl) ?_
              refine lv_aload_n hx hb d_La_law_411 rfl (lv_at hl 0 rfl) ?_
              refine lv_iload hx hb d_La_law_412 (lv_at hl 5 rfl) ?_
              refine lv_iconst (v := 1) hx hb d_La_law_414 (by decide) ?_
              refine lv_iadd hx hb d_La_law_415 ?_
              obtain ⟨hi, h⟩ := h
              refine va_sld (i := l5b28 + 1) hx hb hXs hbl hbA hS hi d_La_law_416 ?_
              obtain ⟨v422, ev422⟩ : ∃ z, z = xs ((l5b28 + 1) : Int32).toNatClampNeg := ⟨_, rfl⟩
              rw [← ev422]
              replace h := h v422 ev422
              refine lv_aload_n hx hb d_La_law_417 rfl (lv_at hl 0 rfl) ?_
              refine lv_iload hx hb d_La_law_418 (lv_at hl 5 rfl) ?_
              refine lv_iconst (v := 2) hx hb d_La_law_420 (by decide) ?_
              refine lv_iadd hx hb d_La_law_421 ?_
              obtain ⟨hi, h⟩ := h
              refine va_sld (i := l5b28 + 2) hx hb hXs hbl hbA hS hi d_La_law_422 ?_
              obtain ⟨v423, ev423⟩ : ∃ z, z = xs ((l5b28 + 2) : Int32).toNatClampNeg := ⟨_, rfl⟩
              rw [← ev423]
              replace h := h v423 ev423
              refine lv_aload_n hx hb d_La_law_423 rfl (lv_at hl 0 rfl) ?_
              refine lv_iload hx hb d_La_law_424 (lv_at hl 5 rfl) ?_
              refine lv_iconst (v := 3) hx hb d_La_law_426 (by decide) ?_
              refine lv_iadd hx hb d_La_law_427 ?_
              obtain ⟨hi, h⟩ := h
              refine va_sld (i := l5b28 + 3) hx hb hXs hbl hbA hS hi d_La_law_428 ?_
              obtain ⟨v424, ev424⟩ : ∃ z, z = xs ((l5b28 + 3) : Int32).toNatClampNeg := ⟨_, rfl⟩
              rw [← ev424]
              replace h := h v424 ev424
              refine lv_aload_n hx hb d_La_law_429 rfl (lv_at hl 0 rfl) ?_
              refine lv_iload hx hb d_La_law_430 (lv_at hl 5 rfl) ?_
              refine lv_iconst (v := 4) hx hb d_La_law_432 (by decide) ?_
              refine lv_iadd hx hb d_La_law_433 ?_
              obtain ⟨hi, h⟩ := h
              refine va_sld (i := l5b28 + 4) hx hb hXs hbl hbA hS hi d_La_law_434 ?_
              obtain ⟨v425, ev425⟩ : ∃ z, z = xs ((l5b28 + 4) : Int32).toNatClampNeg := ⟨_, rfl⟩
              rw [← ev425]
              replace h := h v425 ev425
              refine lv_i2d hx hb d_La_law_435 ?_
              refine lv_ldc2d (v := 4593671619917905920) hx hb hown (hts _ bw_1190) d_La_law_436 ?_
              obtain ⟨hn, h⟩ := h
              refine lv_dmul hx hb d_La_law_439 hn ?_
              refine lv_aload_n hx hb d_La_law_440 rfl (lv_at hl 3 rfl) ?_
              obtain ⟨Ma428, Mb429, hd, he, h7⟩ := h
              subst he
              have h := h7
              clear h7
              have h9 := h
              clear h
              have hW1 := hw_left hW
              have hF := hW1.free hS hA
              refine va_calli (vx_runSW (As := [.ref l1b28, .int v422, .int v423, .int v424, .double (FP.dmul (FP.i2d v425) 4593671619917905920), .ref l3b28]) (rest := []) ⟨hx, hb, hml, hown, hts⟩ (c_La_swap hl0 _ h9) (vx_cwSW 6 hts (gi_SH bw_827 bw_828 bw_0 bw_829) rfl rfl rfl (by decide +kernel) ⟨Nat.le_of_ble_eq_true rfl, Nat.le_of_ble_eq_true rfl⟩) ⟨hJ.blind, hJ.give hq hW1 hS hA hK hZ0⟩ rfl rfl hl.1 rfl (lv_room (Nat.le_of_ble_eq_true rfl)) d_La_law_441 ⟨(show _ ≤ 717084 by omega), (show _ ≤ 6944853 by omega)⟩) hS (fun q _ z => hF q z) hF (fun r426 Mc430 t H locs ht _ h hB1 _ hk hS => ?_)
              obtain ⟨hd, hW⟩ := hw_join hd hW hF hk ht hB1
              replace h := h hd _ rfl
              generalize uni Mc430 Mb429 = M427 at h hW
              clear h9
              refine lv_istore (lv' := [(6, .int r426), (0, .ref b), (1, .ref l1b28), (2, .ref l2b28), (3, .ref l3b28), (4, .ref l4b28), (5, .int l5b28)]) hx hb d_La_law_444 hl (by decide) rfl (fun ls hl => ?_)
              refine lv_aload_n hx hb d_La_law_446 rfl (lv_at hl 3 rfl) ?_
              refine lv_aload_n hx hb d_La_law_447 rfl (lv_at hl 1 rfl) ?_
              refine lv_iload hx hb d_La_law_448 (lv_at hl 6 rfl) ?_
              refine lv_iconst (v := 1) hx hb d_La_law_450 (by decide) ?_
              refine lv_iadd hx hb d_La_law_451 ?_
              obtain ⟨hi, h⟩ := h
              refine va_sld (i := l5b28 + 1) hx hb hXs hbl hbA hS hi d_La_law_452 ?_
              obtain ⟨v431, ev431⟩ : ∃ z, z = xs ((l5b28 + 1) : Int32).toNatClampNeg := ⟨_, rfl⟩
              rw [← ev431]
              replace h := h v431 ev431
              refine lv_aload_n hx hb d_La_law_453 rfl (lv_at hl 1 rfl) ?_
              refine lv_iload hx hb d_La_law_454 (lv_at hl 6 rfl) ?_
              refine lv_iconst (v := 2) hx hb d_La_law_456 (by decide) ?_
              refine lv_iadd hx hb d_La_law_457 ?_
              obtain ⟨hi, h⟩ := h
              refine va_sld (i := l5b28 + 2) hx hb hXs hbl hbA hS hi d_La_law_458 ?_
              obtain ⟨v432, ev432⟩ : ∃ z, z = xs ((l5b28 + 2) : Int32).toNatClampNeg := ⟨_, rfl⟩
              rw [← ev432]
              replace h := h v432 ev432
              refine lv_aload_n hx hb d_La_law_459 rfl (lv_at hl 1 rfl) ?_
              refine lv_iload hx hb d_La_law_460 (lv_at hl 6 rfl) ?_
              refine lv_iconst (v := 3) hx hb d_La_law_462 (by decide) ?_
              refine lv_iadd hx hb d_La_law_463 ?_
              obtain ⟨hi, h⟩ := h
              refine va_sld (i := l5b28 + 3) hx hb hXs hbl hbA hS hi d_La_law_464 ?_
              obtain ⟨v433, ev433⟩ : ∃ z, z = xs ((l5b28 + 3) : Int32).toNatClampNeg := ⟨_, rfl⟩
              rw [← ev433]
              replace h := h v433 ev433
              refine lv_aload_n hx hb d_La_law_465 rfl (lv_at hl 1 rfl) ?_
              refine lv_iload hx hb d_La_law_466 (lv_at hl 6 rfl) ?_
              refine lv_iconst (v := 4) hx hb d_La_law_468 (by decide) ?_
              refine lv_iadd hx hb d_La_law_469 ?_
              obtain ⟨hi, h⟩ := h
              refine va_sld (i := l5b28 + 4) hx hb hXs hbl hbA hS hi d_La_law_470 ?_
              obtain ⟨v434, ev434⟩ : ∃ z, z = xs ((l5b28 + 4) : Int32).toNatClampNeg := ⟨_, rfl⟩
              rw [← ev434]
              replace h := h v434 ev434
              refine lv_i2d hx hb d_La_law_471 ?_
              refine lv_ldc2d (v := 4593671619917905920) hx hb hown (hts _ bw_1190) d_La_law_472 ?_
              obtain ⟨hn, h⟩ := h
              refine lv_dmul hx hb d_La_law_475 hn ?_
              obtain ⟨Ma437, Mb438, hd, he, h7⟩ := h
              subst he
              have h := h7
              clear h7
              obtain ⟨⟨fs, h1⟩, h⟩ := h
              have h9 := h
              clear h
              have hW1 := hw_left hW
              have hF := hW1.free hS hA
              refine va_calli (va_runV (As := [.int v431, .int v432, .int v433, .double (FP.dmul (FP.i2d v434) 4593671619917905920)]) (rest := []) ⟨hx, hb, hml, hown, hts⟩ (c_Mo_swap _ h9) (cwV 4 hts (gi_V bw_1134 bw_1135 bw_1136 bw_5 bw_1137) rfl rfl rfl (by decide +kernel) ⟨Nat.le_of_ble_eq_true rfl, Nat.le_of_ble_eq_true rfl⟩) ⟨hI.blind, hw_recv hK hW1 h1 rfl, hI.give hW1 hS hA hK hZ0⟩ rfl rfl hl.1 rfl (lv_room (Nat.le_of_ble_eq_true rfl)) d_La_law_476 ⟨(show _ ≤ 717084 by omega), (show _ ≤ 6944853 by omega)⟩) hS (fun q _ z => hF q z) hF (fun r435 Mc439 t H locs ht _ h hB1 _ hk hS => ?_)
              obtain ⟨hd, hW⟩ := hw_join hd hW hF hk ht hB1
              replace h := h hd _ rfl
              generalize uni Mc439 Mb438 = M436 at h hW
              clear h9
              refine lv_istore (lv' := [(7, .int r435), (6, .int r426), (0, .ref b), (1, .ref l1b28), (2, .ref l2b28), (3, .ref l3b28), (4, .ref l4b28), (5, .int l5b28)]) hx hb d_La_law_479 hl (by decide) rfl (fun ls hl => ?_)
              refine lv_aload_n hx hb d_La_law_481 rfl (lv_at hl 4 rfl) ?_
              obtain ⟨Ma442, Mb443, hd, he, h7⟩ := h
              subst he
              have h := h7
              clear h7
              obtain ⟨⟨fs, h1⟩, h⟩ := h
              have h9 := h
              clear h
              have hW1 := hw_left hW
              have hF := hW1.free hS hA
              refine va_calli (va_runV (As := []) (rest := []) ⟨hx, hb, hml, hown, hts⟩ (c_Mo_thrown _ h9) (cwV 0 hts (gi_V bw_1056 bw_1057 bw_1058 bw_5 bw_1059) rfl rfl rfl (by decide +kernel) ⟨Nat.le_of_ble_eq_true rfl, Nat.le_of_ble_eq_true rfl⟩) ⟨hI.blind, hw_recv hK hW1 h1 rfl, hI.give hW1 hS hA hK hZ0⟩ rfl rfl hl.1 rfl (lv_room (Nat.le_of_ble_eq_true rfl)) d_La_law_482 ⟨(show _ ≤ 717084 by omega), (show _ ≤ 6944853 by omega)⟩) hS (fun q _ z => hF q z) hF (fun r440 Mc444 t H locs ht _ h hB1 _ hk hS => ?_)
              obtain ⟨hd, hW⟩ := hw_join hd hW hF hk ht hB1
              replace h := h hd _ rfl
              generalize uni Mc444 Mb443 = M441 at h hW
              clear h9
              refine lv_iload hx hb d_La_law_485 (lv_at hl 1 rfl) ?_
              obtain ⟨h0, h1⟩ := h
              refine lv_icmp_eq (tgt := 492) hx hb d_La_law_487 (by decide) (fun c445 => ?_) (fun c445 => ?_)
              · have h := h0 c445
                refine lv_iload hx hb d_La_law_492 (lv_at hl 1 rfl) ?_
                obtain ⟨h0, h1⟩ := h
                refine lv_if_ne (tgt := 509) hx hb d_La_law_494 (by decide) (fun c446 => ?_) (fun c446 => ?_)
                · have h := h0 c446
                  exact l_La_law_509 C0 hl0 hq hXs hbl hbA hAf hk_16 hn_16 l1b28 l2b28 l3b28 l4b28 l5b28 (by omega) (by omega) h hW hS (lv_sub hl [2, 3, 4, 5, 6, 7] rfl)
                · have h := h1 c446
                  refine lv_aload_n hx hb d_La_law_497 rfl (lv_at hl 5 rfl) ?_
                  refine lv_iconst (v := 0) hx hb d_La_law_498 (by decide) ?_
                  obtain ⟨n, f, h1, h2, h⟩ := h
                  refine va_lald hx hb hK (hw_one hW h1) 0 3 rfl rfl h2 d_La_law_499 ?_
                  generalize f (0 : Int32).toNatClampNeg = v447 at h ⊢
                  refine lv_iload hx hb d_La_law_500 (lv_at hl 0 rfl) ?_
                  refine lv_i2l hx hb d_La_law_502 rfl ?_
                  refine W.lcmp hx hb d_La_law_503 ?_
                  obtain ⟨h0, h1⟩ := h
                  refine lv_if_eq (tgt := 509) hx hb d_La_law_504 (by decide) (fun c448 => ?_) (fun c448 => ?_)
                  · have h := h0 c448
                    exact l_La_law_509 C0 hl0 hq hXs hbl hbA hAf hk_16 hn_16 l1b28 l2b28 l3b28 l4b28 l5b28 (by omega) (by omega) h hW hS (lv_sub hl [2, 3, 4, 5, 6, 7] rfl)
                  · have h := h1 c448
                    refine lv_iconst (v := 0) hx hb d_La_law_507 (by decide) ?_
                    exact False.elim h
              · have h := h1 c445
                refine lv_iconst (v := 0) hx hb d_La_law_490 (by decide) ?_
                exact False.elim h
            · have h := h1 c3
              obtain ⟨h0, h1⟩ := h
              by_cases c4 : (v342 &&& 15) = 4
              · have h := h0 c4
                rw [c4]
                refine lv_tableIn (off := 467) (tgt := 512) hx hb d_La_law_45 (by decide) (by decide) (by decide) (by decide) ?_
                refine lv_aload_n hx hb d_La_law_512 rfl (lv_at hl 1 rfl) ?_
                refine lv_aload_n hx hb d_La_law_513 rfl (lv_at hl 0 rfl) ?_
                refine lv_iload hx hb d_La_law_514 (lv_at hl 5 rfl) ?_
                refine lv_iconst (v := 1) hx hb d_La_law_516 (by decide) ?_
                refine lv_iadd hx hb d_La_law_517 ?_
                obtain ⟨hi, h⟩ := h
                refine va_sld (i := l5b28 + 1) hx hb hXs hbl hbA hS hi d_La_law_518 ?_
                obtain ⟨v449, ev449⟩ : ∃ z, z = xs ((l5b28 + 1) : Int32).toNatClampNeg := ⟨_, rfl⟩
                rw [← ev449]
                replace h := h v449 ev449
                refine lv_aload_n hx hb d_La_law_519 rfl (lv_at hl 0 rfl) ?_
                refine lv_iload hx hb d_La_law_520 (lv_at hl 5 rfl) ?_
                refine lv_iconst (v := 2) hx hb d_La_law_522 (by decide) ?_
                refine lv_iadd hx hb d_La_law_523 ?_
                obtain ⟨hi, h⟩ := h
                refine va_sld (i := l5b28 + 2) hx hb hXs hbl hbA hS hi d_La_law_524 ?_
                obtain ⟨v450, ev450⟩ : ∃ z, z = xs ((l5b28 + 2) : Int32).toNatClampNeg := ⟨_, rfl⟩
                rw [← ev450]
                replace h := h v450 ev450
                refine lv_aload_n hx hb d_La_law_525 rfl (lv_at hl 0 rfl) ?_
                refine lv_iload hx hb d_La_law_526 (lv_at hl 5 rfl) ?_
                refine lv_iconst (v := 3) hx hb d_La_law_528 (by decide) ?_
                refine lv_iadd hx hb d_La_law_529 ?_
                obtain ⟨hi, h⟩ := h
                refine va_sld (i := l5b28 + 3) hx hb hXs hbl hbA hS hi d_La_law_530 ?_
                obtain ⟨v451, ev451⟩ : ∃ z, z = xs ((l5b28 + 3) : Int32).toNatClampNeg := ⟨_, rfl⟩
                rw [← ev451]
                replace h := h v451 ev451
                refine lv_i2d hx hb d_La_law_531 ?_
                refine lv_ldc2d (v := 4593671619917905920) hx hb hown (hts _ bw_1190) d_La_law_532 ?_
                obtain ⟨hn, h⟩ := h
                refine lv_dmul hx hb d_La_law_535 hn ?_
                refine lv_aload_n hx hb d_La_law_536 rfl (lv_at hl 3 rfl) ?_
                obtain ⟨Ma454, Mb455, hd, he, h7⟩ := h
                subst he
                have h := h7
                clear h7
                have h9 := h
                clear h
                have hW1 := hw_left hW
                have hF := hW1.free hS hA
                refine va_calli (vx_runSW (As := [.ref l1b28, .int v449, .int v450, .double (FP.dmul (FP.i2d v451) 4593671619917905920), .ref l3b28]) (rest := []) ⟨hx, hb, hml, hown, hts⟩ (c_La_arrive hl0 _ h9) (vx_cwSW 5 hts (gi_SH bw_838 bw_839 bw_0 bw_840) rfl rfl rfl (by decide +kernel) ⟨Nat.le_of_ble_eq_true rfl, Nat.le_of_ble_eq_true rfl⟩) ⟨hJ.blind, hJ.give hq hW1 hS hA hK hZ0⟩ rfl rfl hl.1 rfl (lv_room (Nat.le_of_ble_eq_true rfl)) d_La_law_537 ⟨(show _ ≤ 717084 by omega), (show _ ≤ 6944853 by omega)⟩) hS (fun q _ z => hF q z) hF (fun r452 Mc456 t H locs ht _ h hB1 _ hk hS => ?_)
                obtain ⟨hd, hW⟩ := hw_join hd hW hF hk ht hB1
                replace h := h hd _ rfl
                generalize uni Mc456 Mb455 = M453 at h hW
                clear h9
                refine lv_istore (lv' := [(6, .int r452), (0, .ref b), (1, .ref l1b28), (2, .ref l2b28), (3, .ref l3b28), (4, .ref l4b28), (5, .int l5b28)]) hx hb d_La_law_540 hl (by decide) rfl (fun ls hl => ?_)
                refine lv_aload_n hx hb d_La_law_542 rfl (lv_at hl 3 rfl) ?_
                refine lv_aload_n hx hb d_La_law_543 rfl (lv_at hl 1 rfl) ?_
                refine lv_iload hx hb d_La_law_544 (lv_at hl 6 rfl) ?_
                refine lv_iconst (v := 1) hx hb d_La_law_546 (by decide) ?_
                refine lv_iadd hx hb d_La_law_547 ?_
                obtain ⟨hi, h⟩ := h
                refine va_sld (i := l5b28 + 1) hx hb hXs hbl hbA hS hi d_La_law_548 ?_
                obtain ⟨v457, ev457⟩ : ∃ z, z = xs ((l5b28 + 1) : Int32).toNatClampNeg := ⟨_, rfl⟩
                rw [← ev457]
                replace h := h v457 ev457
                refine lv_aload_n hx hb d_La_law_549 rfl (lv_at hl 1 rfl) ?_
                refine lv_iload hx hb d_La_law_550 (lv_at hl 6 rfl) ?_
                refine lv_iconst (v := 2) hx hb d_La_law_552 (by decide) ?_
                refine lv_iadd hx hb d_La_law_553 ?_
                obtain ⟨hi, h⟩ := h
                refine va_sld (i := l5b28 + 2) hx hb hXs hbl hbA hS hi d_La_law_554 ?_
                obtain ⟨v458, ev458⟩ : ∃ z, z = xs ((l5b28 + 2) : Int32).toNatClampNeg := ⟨_, rfl⟩
                rw [← ev458]
                replace h := h v458 ev458
                refine lv_aload_n hx hb d_La_law_555 rfl (lv_at hl 1 rfl) ?_
                refine lv_iload hx hb d_La_law_556 (lv_at hl 6 rfl) ?_
                refine lv_iconst (v := 3) hx hb d_La_law_558 (by decide) ?_
                refine lv_iadd hx hb d_La_law_559 ?_
                obtain ⟨hi, h⟩ := h
                refine va_sld (i := l5b28 + 3) hx hb hXs hbl hbA hS hi d_La_law_560 ?_
                obtain ⟨v459, ev459⟩ : ∃ z, z = xs ((l5b28 + 3) : Int32).toNatClampNeg := ⟨_, rfl⟩
                rw [← ev459]
                replace h := h v459 ev459
                refine lv_i2d hx hb d_La_law_561 ?_
                refine lv_ldc2d (v := 4593671619917905920) hx hb hown (hts _ bw_1190) d_La_law_562 ?_
                obtain ⟨hn, h⟩ := h
                refine lv_dmul hx hb d_La_law_565 hn ?_
                obtain ⟨Ma462, Mb463, hd, he, h7⟩ := h
                subst he
                have h := h7
                clear h7
                obtain ⟨⟨fs, h1⟩, h⟩ := h
                have h9 := h
                clear h
                have hW1 := hw_left hW
                have hF := hW1.free hS hA
                refine va_calli (va_runV (As := [.int v457, .int v458, .double (FP.dmul (FP.i2d v459) 4593671619917905920)]) (rest := []) ⟨hx, hb, hml, hown, hts⟩ (c_Mo_arrive _ h9) (cwV 3 hts (gi_V bw_1138 bw_1139 bw_1140 bw_5 bw_1141) rfl rfl rfl (by decide +kernel) ⟨Nat.le_of_ble_eq_true rfl, Nat.le_of_ble_eq_true rfl⟩) ⟨hI.blind, hw_recv hK hW1 h1 rfl, hI.give hW1 hS hA hK hZ0⟩ rfl rfl hl.1 rfl (lv_room (Nat.le_of_ble_eq_true rfl)) d_La_law_566 ⟨(show _ ≤ 717084 by omega), (show _ ≤ 6944853 by omega)⟩) hS (fun q _ z => hF q z) hF (fun r460 Mc464 t H locs ht _ h hB1 _ hk hS => ?_)
                obtain ⟨hd, hW⟩ := hw_join hd hW hF hk ht hB1
                replace h := h hd _ rfl
                generalize uni Mc464 Mb463 = M461 at h hW
                clear h9
                refine lv_istore (lv' := [(7, .int r460), (6, .int r452), (0, .ref b), (1, .ref l1b28), (2, .ref l2b28), (3, .ref l3b28), (4, .ref l4b28), (5, .int l5b28)]) hx hb d_La_law_569 hl (by decide) rfl (fun ls hl => ?_)
                refine lv_aload_n hx hb d_La_law_571 rfl (lv_at hl 4 rfl) ?_
                obtain ⟨Ma467, Mb468, hd, he, h7⟩ := h
                subst he
                have h := h7
                clear h7
                obtain ⟨⟨fs, h1⟩, h⟩ := h
                have h9 := h
                clear h
                have hW1 := hw_left hW
                have hF := hW1.free hS hA
                refine va_calli (va_runV (As := []) (rest := []) ⟨hx, hb, hml, hown, hts⟩ (c_Mo_thrown _ h9) (cwV 0 hts (gi_V bw_1056 bw_1057 bw_1058 bw_5 bw_1059) rfl rfl rfl (by decide +kernel) ⟨Nat.le_of_ble_eq_true rfl, Nat.le_of_ble_eq_true rfl⟩) ⟨hI.blind, hw_recv hK hW1 h1 rfl, hI.give hW1 hS hA hK hZ0⟩ rfl rfl hl.1 rfl (lv_room (Nat.le_of_ble_eq_true rfl)) d_La_law_572 ⟨(show _ ≤ 717084 by omega), (show _ ≤ 6944853 by omega)⟩) hS (fun q _ z => hF q z) hF (fun r465 Mc469 t H locs ht _ h hB1 _ hk hS => ?_)
                obtain ⟨hd, hW⟩ := hw_join hd hW hF hk ht hB1
                replace h := h hd _ rfl
                generalize uni Mc469 Mb468 = M466 at h hW
                clear h9
                refine lv_iload hx hb d_La_law_575 (lv_at hl 1 rfl) ?_
                obtain ⟨h0, h1⟩ := h
                refine lv_icmp_eq (tgt := 582) hx hb d_La_law_577 (by decide) (fun c470 => ?_) (fun c470 => ?_)
                · have h := h0 c470
                  refine lv_iload hx hb d_La_law_582 (lv_at hl 1 rfl) ?_
                  obtain ⟨h0, h1⟩ := h
                  refine lv_if_ne (tgt := 599) hx hb d_La_law_584 (by decide) (fun c471 => ?_) (fun c471 => ?_)
                  · have h := h0 c471
                    exact l_La_law_599 C0 hl0 hq hXs hbl hbA hAf hk_16 hn_16 l1b28 l2b28 l3b28 l4b28 l5b28 (by omega) (by omega) h hW hS (lv_sub hl [2, 3, 4, 5, 6, 7] rfl)
                  · have h := h1 c471
                    refine lv_aload_n hx hb d_La_law_587 rfl (lv_at hl 5 rfl) ?_
                    refine lv_iconst (v := 0) hx hb d_La_law_588 (by decide) ?_
                    obtain ⟨n, f, h1, h2, h⟩ := h
                    refine va_lald hx hb hK (hw_one hW h1) 0 3 rfl rfl h2 d_La_law_589 ?_
                    generalize f (0 : Int32).toNatClampNeg = v472 at h ⊢
                    refine lv_iload hx hb d_La_law_590 (lv_at hl 0 rfl) ?_
                    refine lv_i2l hx hb d_La_law_592 rfl ?_
                    refine W.lcmp hx hb d_La_law_593 ?_
                    obtain ⟨h0, h1⟩ := h
                    refine lv_if_eq (tgt := 599) hx hb d_La_law_594 (by decide) (fun c473 => ?_) (fun c473 => ?_)
                    · have h := h0 c473
                      exact l_La_law_599 C0 hl0 hq hXs hbl hbA hAf hk_16 hn_16 l1b28 l2b28 l3b28 l4b28 l5b28 (by omega) (by omega) h hW hS (lv_sub hl [2, 3, 4, 5, 6, 7] rfl)
                    · have h := h1 c473
                      refine lv_iconst (v := 0) hx hb d_La_law_597 (by decide) ?_
                      exact False.elim h
                · have h := h1 c470
                  refine lv_iconst (v := 0) hx hb d_La_law_580 (by decide) ?_
                  exact False.elim h
              · have h := h1 c4
                obtain ⟨h0, h1⟩ := h
                by_cases c5 : (v342 &&& 15) = 5
                · have h := h0 c5
                  rw [c5]
                  refine lv_tableIn (off := 557) (tgt := 602) hx hb d_La_law_45 (by decide) (by decide) (by decide) (by decide) ?_
                  refine lv_aload_n hx hb d_La_law_602 rfl (lv_at hl 1 rfl) ?_
                  refine lv_aload_n hx hb d_La_law_603 rfl (lv_at hl 0 rfl) ?_
                  refine lv_iload hx hb d_La_law_604 (lv_at hl 5 rfl) ?_
                  refine lv_iconst (v := 1) hx hb d_La_law_606 (by decide) ?_
                  refine lv_iadd hx hb d_La_law_607 ?_
                  obtain ⟨hi, h⟩ := h
                  refine va_sld (i := l5b28 + 1) hx hb hXs hbl hbA hS hi d_La_law_608 ?_
                  obtain ⟨v474, ev474⟩ : ∃ z, z = xs ((l5b28 + 1) : Int32).toNatClampNeg := ⟨_, rfl⟩
                  rw [← ev474]
                  replace h := h v474 ev474
                  refine lv_aload_n hx hb d_La_law_609 rfl (lv_at hl 3 rfl) ?_
                  obtain ⟨Ma477, Mb478, hd, he, h7⟩ := h
                  subst he
                  have h := h7
                  clear h7
                  have h9 := h
                  clear h
                  have hW1 := hw_left hW
                  have hF := hW1.free hS hA
                  refine va_calli (vx_runSW (As := [.ref l1b28, .int v474, .ref l3b28]) (rest := []) ⟨hx, hb, hml, hown, hts⟩ (c_La_reset hl0 _ h9) (vx_cwSW 3 hts (gi_SH bw_875 bw_876 bw_0 bw_877) rfl rfl rfl (by decide +kernel) ⟨Nat.le_of_ble_eq_true rfl, Nat.le_of_ble_eq_true rfl⟩) ⟨hJ.blind, hJ.give hq hW1 hS hA hK hZ0⟩ rfl rfl hl.1 rfl (lv_room (Nat.le_of_ble_eq_true rfl)) d_La_law_610 ⟨(show _ ≤ 717084 by omega), (show _ ≤ 6944853 by omega)⟩) hS (fun q _ z => hF q z) hF (fun r475 Mc479 t H locs ht _ h hB1 _ hk hS => ?_)
                  obtain ⟨hd, hW⟩ := hw_join hd hW hF hk ht hB1
                  replace h := h hd _ rfl
                  generalize uni Mc479 Mb478 = M476 at h hW
                  clear h9
                  refine lv_istore (lv' := [(6, .int r475), (0, .ref b), (1, .ref l1b28), (2, .ref l2b28), (3, .ref l3b28), (4, .ref l4b28), (5, .int l5b28)]) hx hb d_La_law_613 hl (by decide) rfl (fun ls hl => ?_)
                  refine lv_aload_n hx hb d_La_law_615 rfl (lv_at hl 3 rfl) ?_
                  refine lv_aload_n hx hb d_La_law_616 rfl (lv_at hl 1 rfl) ?_
                  refine lv_iload hx hb d_La_law_617 (lv_at hl 6 rfl) ?_
                  refine lv_iconst (v := 1) hx hb d_La_law_619 (by decide) ?_
                  refine lv_iadd hx hb d_La_law_620 ?_
                  obtain ⟨hi, h⟩ := h
                  refine va_sld (i := l5b28 + 1) hx hb hXs hbl hbA hS hi d_La_law_621 ?_
                  obtain ⟨v480, ev480⟩ : ∃ z, z = xs ((l5b28 + 1) : Int32).toNatClampNeg := ⟨_, rfl⟩
                  rw [← ev480]
                  replace h := h v480 ev480
                  obtain ⟨Ma483, Mb484, hd, he, h7⟩ := h
                  subst he
                  have h := h7
                  clear h7
                  obtain ⟨⟨fs, h1⟩, h⟩ := h
                  have h9 := h
                  clear h
                  have hW1 := hw_left hW
                  have hF := hW1.free hS hA
                  refine va_calli (va_runV (As := [.int v480]) (rest := []) ⟨hx, hb, hml, hown, hts⟩ (c_Mo_reset _ h9) (cwV 1 hts (gi_V bw_1146 bw_1147 bw_1148 bw_5 bw_1149) rfl rfl rfl (by decide +kernel) ⟨Nat.le_of_ble_eq_true rfl, Nat.le_of_ble_eq_true rfl⟩) ⟨hI.blind, hw_recv hK hW1 h1 rfl, hI.give hW1 hS hA hK hZ0⟩ rfl rfl hl.1 rfl (lv_room (Nat.le_of_ble_eq_true rfl)) d_La_law_622 ⟨(show _ ≤ 717084 by omega), (show _ ≤ 6944853 by omega)⟩) hS (fun q _ z => hF q z) hF (fun r481 Mc485 t H locs ht _ h hB1 _ hk hS => ?_)
                  obtain ⟨hd, hW⟩ := hw_join hd hW hF hk ht hB1
                  replace h := h hd _ rfl
                  generalize uni Mc485 Mb484 = M482 at h hW
                  clear h9
                  refine lv_istore (lv' := [(7, .int r481), (6, .int r475), (0, .ref b), (1, .ref l1b28), (2, .ref l2b28), (3, .ref l3b28), (4, .ref l4b28), (5, .int l5b28)]) hx hb d_La_law_625 hl (by decide) rfl (fun ls hl => ?_)
                  refine lv_aload_n hx hb d_La_law_627 rfl (lv_at hl 4 rfl) ?_
                  obtain ⟨Ma488, Mb489, hd, he, h7⟩ := h
                  subst he
                  have h := h7
                  clear h7
                  obtain ⟨⟨fs, h1⟩, h⟩ := h
                  have h9 := h
                  clear h
                  have hW1 := hw_left hW
                  have hF := hW1.free hS hA
                  refine va_calli (va_runV (As := []) (rest := []) ⟨hx, hb, hml, hown, hts⟩ (c_Mo_thrown _ h9) (cwV 0 hts (gi_V bw_1056 bw_1057 bw_1058 bw_5 bw_1059) rfl rfl rfl (by decide +kernel) ⟨Nat.le_of_ble_eq_true rfl, Nat.le_of_ble_eq_true rfl⟩) ⟨hI.blind, hw_recv hK hW1 h1 rfl, hI.give hW1 hS hA hK hZ0⟩ rfl rfl hl.1 rfl (lv_room (Nat.le_of_ble_eq_true rfl)) d_La_law_628 ⟨(show _ ≤ 717084 by omega), (show _ ≤ 6944853 by omega)⟩) hS (fun q _ z => hF q z) hF (fun r486 Mc490 t H locs ht _ h hB1 _ hk hS => ?_)
                  obtain ⟨hd, hW⟩ := hw_join hd hW hF hk ht hB1
                  replace h := h hd _ rfl
                  generalize uni Mc490 Mb489 = M487 at h hW
                  clear h9
                  refine lv_iload hx hb d_La_law_631 (lv_at hl 1 rfl) ?_
                  obtain ⟨h0, h1⟩ := h
                  refine lv_icmp_eq (tgt := 638) hx hb d_La_law_633 (by decide) (fun c491 => ?_) (fun c491 => ?_)
                  · have h := h0 c491
                    refine lv_iload hx hb d_La_law_638 (lv_at hl 1 rfl) ?_
                    obtain ⟨h0, h1⟩ := h
                    refine lv_if_ne (tgt := 655) hx hb d_La_law_640 (by decide) (fun c492 => ?_) (fun c492 => ?_)
                    · have h := h0 c492
                      exact l_La_law_655 C0 hl0 hq hXs hbl hbA hAf hk_16 hn_16 l1b28 l2b28 l3b28 l4b28 l5b28 (by omega) (by omega) h hW hS (lv_sub hl [2, 3, 4, 5, 6, 7] rfl)
                    · have h := h1 c492
                      refine lv_aload_n hx hb d_La_law_643 rfl (lv_at hl 5 rfl) ?_
                      refine lv_iconst (v := 0) hx hb d_La_law_644 (by decide) ?_
                      obtain ⟨n, f, h1, h2, h⟩ := h
                      refine va_lald hx hb hK (hw_one hW h1) 0 3 rfl rfl h2 d_La_law_645 ?_
                      generalize f (0 : Int32).toNatClampNeg = v493 at h ⊢
                      refine lv_iload hx hb d_La_law_646 (lv_at hl 0 rfl) ?_
                      refine lv_i2l hx hb d_La_law_648 rfl ?_
                      refine W.lcmp hx hb d_La_law_649 ?_
                      obtain ⟨h0, h1⟩ := h
                      refine lv_if_eq (tgt := 655) hx hb d_La_law_650 (by decide) (fun c494 => ?_) (fun c494 => ?_)
                      · have h := h0 c494
                        exact l_La_law_655 C0 hl0 hq hXs hbl hbA hAf hk_16 hn_16 l1b28 l2b28 l3b28 l4b28 l5b28 (by omega) (by omega) h hW hS (lv_sub hl [2, 3, 4, 5, 6, 7] rfl)
                      · have h := h1 c494
                        refine lv_iconst (v := 0) hx hb d_La_law_653 (by decide) ?_
                        exact False.elim h
                  · have h := h1 c491
                    refine lv_iconst (v := 0) hx hb d_La_law_636 (by decide) ?_
                    exact False.elim h
                · have h := h1 c5
                  obtain ⟨h0, h1⟩ := h
                  by_cases c6 : (v342 &&& 15) = 6
                  · have h := h0 c6
                    rw [c6]
                    refine lv_tableIn (off := 613) (tgt := 658) hx hb d_La_law_45 (by decide) (by decide) (by decide) (by decide) ?_
                    refine lv_aload_n hx hb d_La_law_658 rfl (lv_at hl 1 rfl) ?_
                    refine lv_aload_n hx hb d_La_law_659 rfl (lv_at hl 0 rfl) ?_
                    refine lv_iload hx hb d_La_law_660 (lv_at hl 5 rfl) ?_
                    refine lv_iconst (v := 1) hx hb d_La_law_662 (by decide) ?_
                    refine lv_iadd hx hb d_La_law_663 ?_
                    obtain ⟨hi, h⟩ := h
                    refine va_sld (i := l5b28 + 1) hx hb hXs hbl hbA hS hi d_La_law_664 ?_
                    obtain ⟨v495, ev495⟩ : ∃ z, z = xs ((l5b28 + 1) : Int32).toNatClampNeg := ⟨_, rfl⟩
                    rw [← ev495]
                    replace h := h v495 ev495
                    refine lv_aload_n hx hb d_La_law_665 rfl (lv_at hl 3 rfl) ?_
                    obtain ⟨Ma498, Mb499, hd, he, h7⟩ := h
                    subst he
                    have h := h7
                    clear h7
                    have h9 := h
                    clear h
                    have hW1 := hw_left hW
                    have hF := hW1.free hS hA
                    refine va_calli (vx_runSW (As := [.ref l1b28, .int v495, .ref l3b28]) (rest := []) ⟨hx, hb, hml, hown, hts⟩ (c_La_interrupt hl0 _ h9) (vx_cwSW 3 hts (gi_SH bw_882 bw_883 bw_0 bw_884) rfl rfl rfl (by decide +kernel) ⟨Nat.le_of_ble_eq_true rfl, Nat.le_of_ble_eq_true rfl⟩) ⟨hJ.blind, hJ.give hq hW1 hS hA hK hZ0⟩ rfl rfl hl.1 rfl (lv_room (Nat.le_of_ble_eq_true rfl)) d_La_law_666 ⟨(show _ ≤ 717084 by omega), (show _ ≤ 6944853 by omega)⟩) hS (fun q _ z => hF q z) hF (fun r496 Mc500 t H locs ht _ h hB1 _ hk hS => ?_)
                    obtain ⟨hd, hW⟩ := hw_join hd hW hF hk ht hB1
                    replace h := h hd _ rfl
                    generalize uni Mc500 Mb499 = M497 at h hW
                    clear h9
                    refine lv_istore (lv' := [(6, .int r496), (0, .ref b), (1, .ref l1b28), (2, .ref l2b28), (3, .ref l3b28), (4, .ref l4b28), (5, .int l5b28)]) hx hb d_La_law_669 hl (by decide) rfl (fun ls hl => ?_)
                    refine lv_aload_n hx hb d_La_law_671 rfl (lv_at hl 3 rfl) ?_
                    refine lv_aload_n hx hb d_La_law_672 rfl (lv_at hl 1 rfl) ?_
                    refine lv_iload hx hb d_La_law_673 (lv_at hl 6 rfl) ?_
                    refine lv_iconst (v := 1) hx hb d_La_law_675 (by decide) ?_
                    refine lv_iadd hx hb d_La_law_676 ?_
                    obtain ⟨hi, h⟩ := h
                    refine va_sld (i := l5b28 + 1) hx hb hXs hbl hbA hS hi d_La_law_677 ?_
                    obtain ⟨v501, ev501⟩ : ∃ z, z = xs ((l5b28 + 1) : Int32).toNatClampNeg := ⟨_, rfl⟩
                    rw [← ev501]
                    replace h := h v501 ev501
                    obtain ⟨Ma504, Mb505, hd, he, h7⟩ := h
                    subst he
                    have h := h7
                    clear h7
                    obtain ⟨⟨fs, h1⟩, h⟩ := h
                    have h9 := h
                    clear h
                    have hW1 := hw_left hW
                    have hF := hW1.free hS hA
                    refine va_calli (va_runV (As := [.int v501]) (rest := []) ⟨hx, hb, hml, hown, hts⟩ (c_Mo_interrupt _ h9) (cwV 1 hts (gi_V bw_1150 bw_1151 bw_1152 bw_5 bw_1153) rfl rfl rfl (by decide +kernel) ⟨Nat.le_of_ble_eq_true rfl, Nat.le_of_ble_eq_true rfl⟩) ⟨hI.blind, hw_recv hK hW1 h1 rfl, hI.give hW1 hS hA hK hZ0⟩ rfl rfl hl.1 rfl (lv_room (Nat.le_of_ble_eq_true rfl)) d_La_law_678 ⟨(show _ ≤ 717084 by omega), (show _ ≤ 6944853 by omega)⟩) hS (fun q _ z => hF q z) hF (fun r502 Mc506 t H locs ht _ h hB1 _ hk hS => ?_)
                    obtain ⟨hd, hW⟩ := hw_join hd hW hF hk ht hB1
                    replace h := h hd _ rfl
                    generalize uni Mc506 Mb505 = M503 at h hW
                    clear h9
                    refine lv_istore (lv' := [(7, .int r502), (6, .int r496), (0, .ref b), (1, .ref l1b28), (2, .ref l2b28), (3, .ref l3b28), (4, .ref l4b28), (5, .int l5b28)]) hx hb d_La_law_681 hl (by decide) rfl (fun ls hl => ?_)
                    refine lv_aload_n hx hb d_La_law_683 rfl (lv_at hl 4 rfl) ?_
                    obtain ⟨Ma509, Mb510, hd, he, h7⟩ := h
                    subst he
                    have h := h7
                    clear h7
                    obtain ⟨⟨fs, h1⟩, h⟩ := h
                    have h9 := h
                    clear h
                    have hW1 := hw_left hW
                    have hF := hW1.free hS hA
                    refine va_calli (va_runV (As := []) (rest := []) ⟨hx, hb, hml, hown, hts⟩ (c_Mo_thrown _ h9) (cwV 0 hts (gi_V bw_1056 bw_1057 bw_1058 bw_5 bw_1059) rfl rfl rfl (by decide +kernel) ⟨Nat.le_of_ble_eq_true rfl, Nat.le_of_ble_eq_true rfl⟩) ⟨hI.blind, hw_recv hK hW1 h1 rfl, hI.give hW1 hS hA hK hZ0⟩ rfl rfl hl.1 rfl (lv_room (Nat.le_of_ble_eq_true rfl)) d_La_law_684 ⟨(show _ ≤ 717084 by omega), (show _ ≤ 6944853 by omega)⟩) hS (fun q _ z => hF q z) hF (fun r507 Mc511 t H locs ht _ h hB1 _ hk hS => ?_)
                    obtain ⟨hd, hW⟩ := hw_join hd hW hF hk ht hB1
                    replace h := h hd _ rfl
                    generalize uni Mc511 Mb510 = M508 at h hW
                    clear h9
                    refine lv_iload hx hb d_La_law_687 (lv_at hl 1 rfl) ?_
                    obtain ⟨h0, h1⟩ := h
                    refine lv_icmp_eq (tgt := 694) hx hb d_La_law_689 (by decide) (fun c512 => ?_) (fun c512 => ?_)
                    · have h := h0 c512
                      refine lv_iload hx hb d_La_law_694 (lv_at hl 1 rfl) ?_
                      obtain ⟨h0, h1⟩ := h
                      refine lv_if_ne (tgt := 711) hx hb d_La_law_696 (by decide) (fun c513 => ?_) (fun c513 => ?_)
                      · have h := h0 c513
                        exact l_La_law_711 C0 hl0 hq hXs hbl hbA hAf hk_16 hn_16 l1b28 l2b28 l3b28 l4b28 l5b28 (by omega) (by omega) h hW hS (lv_sub hl [2, 3, 4, 5, 6, 7] rfl)
                      · have h := h1 c513
                        refine lv_aload_n hx hb d_La_law_699 rfl (lv_at hl 5 rfl) ?_
                        refine lv_iconst (v := 0) hx hb d_La_law_700 (by decide) ?_
                        obtain ⟨n, f, h1, h2, h⟩ := h
                        refine va_lald hx hb hK (hw_one hW h1) 0 3 rfl rfl h2 d_La_law_701 ?_
                        generalize f (0 : Int32).toNatClampNeg = v514 at h ⊢
                        refine lv_iload hx hb d_La_law_702 (lv_at hl 0 rfl) ?_
                        refine lv_i2l hx hb d_La_law_704 rfl ?_
                        refine W.lcmp hx hb d_La_law_705 ?_
                        obtain ⟨h0, h1⟩ := h
                        refine lv_if_eq (tgt := 711) hx hb d_La_law_706 (by decide) (fun c515 => ?_) (fun c515 => ?_)
                        · have h := h0 c515
                          exact l_La_law_711 C0 hl0 hq hXs hbl hbA hAf hk_16 hn_16 l1b28 l2b28 l3b28 l4b28 l5b28 (by omega) (by omega) h hW hS (lv_sub hl [2, 3, 4, 5, 6, 7] rfl)
                        · have h := h1 c515
                          refine lv_iconst (v := 0) hx hb d_La_law_709 (by decide) ?_
                          exact False.elim h
                    · have h := h1 c512
                      refine lv_iconst (v := 0) hx hb d_La_law_692 (by decide) ?_
                      exact False.elim h
                  · have h := h1 c6
                    obtain ⟨h0, h1⟩ := h
                    by_cases c7 : (v342 &&& 15) = 7
                    · have h := h0 c7
                      rw [c7]
                      refine lv_tableIn (off := 669) (tgt := 714) hx hb d_La_law_45 (by decide) (by decide) (by decide) (by decide) ?_
                      refine lv_aload_n hx hb d_La_law_714 rfl (lv_at hl 1 rfl) ?_
                      refine lv_aload_n hx hb d_La_law_715 rfl (lv_at hl 0 rfl) ?_
                      refine lv_iload hx hb d_La_law_716 (lv_at hl 5 rfl) ?_
                      refine lv_iconst (v := 1) hx hb d_La_law_718 (by decide) ?_
                      refine lv_iadd hx hb d_La_law_719 ?_
                      obtain ⟨hi, h⟩ := h
                      refine va_sld (i := l5b28 + 1) hx hb hXs hbl hbA hS hi d_La_law_720 ?_
                      obtain ⟨v516, ev516⟩ : ∃ z, z = xs ((l5b28 + 1) : Int32).toNatClampNeg := ⟨_, rfl⟩
                      rw [← ev516]
                      replace h := h v516 ev516
                      refine lv_i2d hx hb d_La_law_721 ?_
                      refine lv_ldc2d (v := 4593671619917905920) hx hb hown (hts _ bw_1190) d_La_law_722 ?_
                      obtain ⟨hn, h⟩ := h
                      refine lv_dmul hx hb d_La_law_725 hn ?_
                      refine lv_aload_n hx hb d_La_law_726 rfl (lv_at hl 3 rfl) ?_
                      obtain ⟨Ma519, Mb520, hd, he, h7⟩ := h
                      subst he
                      have h := h7
                      clear h7
                      have h9 := h
                      clear h
                      have hW1 := hw_left hW
                      have hF := hW1.free hS hA
                      refine va_calli (vx_runSW (As := [.ref l1b28, .double (FP.dmul (FP.i2d v516) 4593671619917905920), .ref l3b28]) (rest := []) ⟨hx, hb, hml, hown, hts⟩ (c_La_tick hl0 _ h9) (vx_cwSW 3 hts (gi_SH bw_893 bw_894 bw_0 bw_895) rfl rfl rfl (by decide +kernel) ⟨Nat.le_of_ble_eq_true rfl, Nat.le_of_ble_eq_true rfl⟩) ⟨hJ.blind, hJ.give hq hW1 hS hA hK hZ0⟩ rfl rfl hl.1 rfl (lv_room (Nat.le_of_ble_eq_true rfl)) d_La_law_727 ⟨(show _ ≤ 717084 by omega), (show _ ≤ 6944853 by omega)⟩) hS (fun q _ z => hF q z) hF (fun r517 Mc521 t H locs ht _ h hB1 _ hk hS => ?_)
                      obtain ⟨hd, hW⟩ := hw_join hd hW hF hk ht hB1
                      replace h := h hd _ rfl
                      generalize uni Mc521 Mb520 = M518 at h hW
                      clear h9
                      refine lv_istore (lv' := [(6, .int r517), (0, .ref b), (1, .ref l1b28), (2, .ref l2b28), (3, .ref l3b28), (4, .ref l4b28), (5, .int l5b28)]) hx hb d_La_law_730 hl (by decide) rfl (fun ls hl => ?_)
                      refine lv_aload_n hx hb d_La_law_732 rfl (lv_at hl 3 rfl) ?_
                      refine lv_aload_n hx hb d_La_law_733 rfl (lv_at hl 1 rfl) ?_
                      refine lv_iload hx hb d_La_law_734 (lv_at hl 6 rfl) ?_
                      refine lv_iconst (v := 1) hx hb d_La_law_736 (by decide) ?_
                      refine lv_iadd hx hb d_La_law_737 ?_
                      obtain ⟨hi, h⟩ := h
                      refine va_sld (i := l5b28 + 1) hx hb hXs hbl hbA hS hi d_La_law_738 ?_
                      obtain ⟨v522, ev522⟩ : ∃ z, z = xs ((l5b28 + 1) : Int32).toNatClampNeg := ⟨_, rfl⟩
                      rw [← ev522]
                      replace h := h v522 ev522
                      refine lv_i2d hx hb d_La_law_739 ?_
                      refine lv_ldc2d (v := 4593671619917905920) hx hb hown (hts _ bw_1190) d_La_law_740 ?_
                      obtain ⟨hn, h⟩ := h
                      refine lv_dmul hx hb d_La_law_743 hn ?_
                      obtain ⟨Ma525, Mb526, hd, he, h7⟩ := h
                      subst he
                      have h := h7
                      clear h7
                      obtain ⟨⟨fs, h1⟩, h⟩ := h
                      have h9 := h
                      clear h
                      have hW1 := hw_left hW
                      have hF := hW1.free hS hA
                      refine va_calli (va_runV (As := [.double (FP.dmul (FP.i2d v522) 4593671619917905920)]) (rest := []) ⟨hx, hb, hml, hown, hts⟩ (c_Mo_tick _ h9) (cwV 1 hts (gi_V bw_1158 bw_1159 bw_1160 bw_5 bw_1161) rfl rfl rfl (by decide +kernel) ⟨Nat.le_of_ble_eq_true rfl, Nat.le_of_ble_eq_true rfl⟩) ⟨hI.blind, hw_recv hK hW1 h1 rfl, hI.give hW1 hS hA hK hZ0⟩ rfl rfl hl.1 rfl (lv_room (Nat.le_of_ble_eq_true rfl)) d_La_law_744 ⟨(show _ ≤ 717084 by omega), (show _ ≤ 6944853 by omega)⟩) hS (fun q _ z => hF q z) hF (fun r523 Mc527 t H locs ht _ h hB1 _ hk hS => ?_)
                      obtain ⟨hd, hW⟩ := hw_join hd hW hF hk ht hB1
                      replace h := h hd _ rfl
                      generalize uni Mc527 Mb526 = M524 at h hW
                      clear h9
                      refine lv_istore (lv' := [(7, .int r523), (6, .int r517), (0, .ref b), (1, .ref l1b28), (2, .ref l2b28), (3, .ref l3b28), (4, .ref l4b28), (5, .int l5b28)]) hx hb d_La_law_747 hl (by decide) rfl (fun ls hl => ?_)
                      refine lv_aload_n hx hb d_La_law_749 rfl (lv_at hl 4 rfl) ?_
                      obtain ⟨Ma530, Mb531, hd, he, h7⟩ := h
                      subst he
                      have h := h7
                      clear h7
                      obtain ⟨⟨fs, h1⟩, h⟩ := h
                      have h9 := h
                      clear h
                      have hW1 := hw_left hW
                      have hF := hW1.free hS hA
                      refine va_calli (va_runV (As := []) (rest := []) ⟨hx, hb, hml, hown, hts⟩ (c_Mo_thrown _ h9) (cwV 0 hts (gi_V bw_1056 bw_1057 bw_1058 bw_5 bw_1059) rfl rfl rfl (by decide +kernel) ⟨Nat.le_of_ble_eq_true rfl, Nat.le_of_ble_eq_true rfl⟩) ⟨hI.blind, hw_recv hK hW1 h1 rfl, hI.give hW1 hS hA hK hZ0⟩ rfl rfl hl.1 rfl (lv_room (Nat.le_of_ble_eq_true rfl)) d_La_law_750 ⟨(show _ ≤ 717084 by omega), (show _ ≤ 6944853 by omega)⟩) hS (fun q _ z => hF q z) hF (fun r528 Mc532 t H locs ht _ h hB1 _ hk hS => ?_)
                      obtain ⟨hd, hW⟩ := hw_join hd hW hF hk ht hB1
                      replace h := h hd _ rfl
                      generalize uni Mc532 Mb531 = M529 at h hW
                      clear h9
                      refine lv_iload hx hb d_La_law_753 (lv_at hl 1 rfl) ?_
                      obtain ⟨h0, h1⟩ := h
                      refine lv_icmp_eq (tgt := 760) hx hb d_La_law_755 (by decide) (fun c533 => ?_) (fun c533 => ?_)
                      · have h := h0 c533
                        refine lv_iload hx hb d_La_law_760 (lv_at hl 1 rfl) ?_
                        obtain ⟨h0, h1⟩ := h
                        refine lv_if_ne (tgt := 777) hx hb d_La_law_762 (by decide) (fun c534 => ?_) (fun c534 => ?_)
                        · have h := h0 c534
                          exact l_La_law_777 C0 hl0 hq hXs hbl hbA hAf hk_16 hn_16 l1b28 l2b28 l3b28 l4b28 l5b28 (by omega) (by omega) h hW hS (lv_sub hl [2, 3, 4, 5, 6, 7] rfl)
                        · have h := h1 c534
                          refine lv_aload_n hx hb d_La_law_765 rfl (lv_at hl 5 rfl) ?_
                          refine lv_iconst (v := 0) hx hb d_La_law_766 (by decide) ?_
                          obtain ⟨n, f, h1, h2, h⟩ := h
                          refine va_lald hx hb hK (hw_one hW h1) 0 3 rfl rfl h2 d_La_law_767 ?_
                          generalize f (0 : Int32).toNatClampNeg = v535 at h ⊢
                          refine lv_iload hx hb d_La_law_768 (lv_at hl 0 rfl) ?_
                          refine lv_i2l hx hb d_La_law_770 rfl ?_
                          refine W.lcmp hx hb d_La_law_771 ?_
                          obtain ⟨h0, h1⟩ := h
                          refine lv_if_eq (tgt := 777) hx hb d_La_law_772 (by decide) (fun c536 => ?_) (fun c536 => ?_)
                          · have h := h0 c536
                            exact l_La_law_777 C0 hl0 hq hXs hbl hbA hAf hk_16 hn_16 l1b28 l2b28 l3b28 l4b28 l5b28 (by omega) (by omega) h hW hS (lv_sub hl [2, 3, 4, 5, 6, 7] rfl)
                          · have h := h1 c536
                            refine lv_iconst (v := 0) hx hb d_La_law_775 (by decide) ?_
                            exact False.elim h
                      · have h := h1 c533
                        refine lv_iconst (v := 0) hx hb d_La_law_758 (by decide) ?_
                        exact False.elim h
                    · have h := h1 c7
                      obtain ⟨h0, h1⟩ := h
                      by_cases c8 : (v342 &&& 15) = 8
                      · have h := h0 c8
                        rw [c8]
                        refine lv_tableIn (off := 735) (tgt := 780) hx hb d_La_law_45 (by decide) (by decide) (by decide) (by decide) ?_
                        refine lv_aload_n hx hb d_La_law_780 rfl (lv_at hl 1 rfl) ?_
                        refine lv_aload_n hx hb d_La_law_781 rfl (lv_at hl 0 rfl) ?_
                        refine lv_iload hx hb d_La_law_782 (lv_at hl 5 rfl) ?_
                        refine lv_iconst (v := 1) hx hb d_La_law_784 (by decide) ?_
                        refine lv_iadd hx hb d_La_law_785 ?_
                        obtain ⟨hi, h⟩ := h
                        refine va_sld (i := l5b28 + 1) hx hb hXs hbl hbA hS hi d_La_law_786 ?_
                        obtain ⟨v537, ev537⟩ : ∃ z, z = xs ((l5b28 + 1) : Int32).toNatClampNeg := ⟨_, rfl⟩
                        rw [← ev537]
                        replace h := h v537 ev537
                        refine lv_aload_n hx hb d_La_law_787 rfl (lv_at hl 3 rfl) ?_
                        obtain ⟨Ma540, Mb541, hd, he, h7⟩ := h
                        subst he
                        have h := h7
                        clear h7
                        have h9 := h
                        clear h
                        have hW1 := hw_left hW
                        have hF := hW1.free hS hA
                        refine va_calli (vx_runSW (As := [.ref l1b28, .int v537, .ref l3b28]) (rest := []) ⟨hx, hb, hml, hown, hts⟩ (c_La_got hl0 _ h9) (vx_cwSW 3 hts (gi_SH bw_916 bw_917 bw_0 bw_918) rfl rfl rfl (by decide +kernel) ⟨Nat.le_of_ble_eq_true rfl, Nat.le_of_ble_eq_true rfl⟩) ⟨hJ.blind, hJ.give hq hW1 hS hA hK hZ0⟩ rfl rfl hl.1 rfl (lv_room (Nat.le_of_ble_eq_true rfl)) d_La_law_788 ⟨(show _ ≤ 717084 by omega), (show _ ≤ 6944853 by omega)⟩) hS (fun q _ z => hF q z) hF (fun r538 Mc542 t H locs ht _ h hB1 _ hk hS => ?_)
                        obtain ⟨hd, hW⟩ := hw_join hd hW hF hk ht hB1
                        replace h := h hd _ rfl
                        generalize uni Mc542 Mb541 = M539 at h hW
                        clear h9
                        refine lv_istore (lv' := [(6, .int r538), (0, .ref b), (1, .ref l1b28), (2, .ref l2b28), (3, .ref l3b28), (4, .ref l4b28), (5, .int l5b28)]) hx hb d_La_law_791 hl (by decide) rfl (fun ls hl => ?_)
                        refine lv_aload_n hx hb d_La_law_793 rfl (lv_at hl 3 rfl) ?_
                        refine lv_aload_n hx hb d_La_law_794 rfl (lv_at hl 1 rfl) ?_
                        refine lv_iload hx hb d_La_law_795 (lv_at hl 6 rfl) ?_
                        refine lv_iconst (v := 1) hx hb d_La_law_797 (by decide) ?_
                        refine lv_iadd hx hb d_La_law_798 ?_
                        obtain ⟨hi, h⟩ := h
                        refine va_sld (i := l5b28 + 1) hx hb hXs hbl hbA hS hi d_La_law_799 ?_
                        obtain ⟨v543, ev543⟩ : ∃ z, z = xs ((l5b28 + 1) : Int32).toNatClampNeg := ⟨_, rfl⟩
                        rw [← ev543]
                        replace h := h v543 ev543
                        obtain ⟨Ma546, Mb547, hd, he, h7⟩ := h
                        subst he
                        have h := h7
                        clear h7
                        obtain ⟨⟨fs, h1⟩, h⟩ := h
                        have h9 := h
                        clear h
                        have hW1 := hw_left hW
                        have hF := hW1.free hS hA
                        refine va_calli (va_runV (As := [.int v543]) (rest := []) ⟨hx, hb, hml, hown, hts⟩ (c_Mo_got _ h9) (cwV 1 hts (gi_V bw_1166 bw_1167 bw_1168 bw_5 bw_1169) rfl rfl rfl (by decide +kernel) ⟨Nat.le_of_ble_eq_true rfl, Nat.le_of_ble_eq_true rfl⟩) ⟨hI.blind, hw_recv hK hW1 h1 rfl, hI.give hW1 hS hA hK hZ0⟩ rfl rfl hl.1 rfl (lv_room (Nat.le_of_ble_eq_true rfl)) d_La_law_800 ⟨(show _ ≤ 717084 by omega), (show _ ≤ 6944853 by omega)⟩) hS (fun q _ z => hF q z) hF (fun r544 Mc548 t H locs ht _ h hB1 _ hk hS => ?_)
                        obtain ⟨hd, hW⟩ := hw_join hd hW hF hk ht hB1
                        replace h := h hd _ rfl
                        generalize uni Mc548 Mb547 = M545 at h hW
                        clear h9
                        refine lv_istore (lv' := [(7, .int r544), (6, .int r538), (0, .ref b), (1, .ref l1b28), (2, .ref l2b28), (3, .ref l3b28), (4, .ref l4b28), (5, .int l5b28)]) hx hb d_La_law_803 hl (by decide) rfl (fun ls hl => ?_)
                        refine lv_aload_n hx hb d_La_law_805 rfl (lv_at hl 4 rfl) ?_
                        obtain ⟨Ma551, Mb552, hd, he, h7⟩ := h
                        subst he
                        have h := h7
                        clear h7
                        obtain ⟨⟨fs, h1⟩, h⟩ := h
                        have h9 := h
                        clear h
                        have hW1 := hw_left hW
                        have hF := hW1.free hS hA
                        refine va_calli (va_runV (As := []) (rest := []) ⟨hx, hb, hml, hown, hts⟩ (c_Mo_thrown _ h9) (cwV 0 hts (gi_V bw_1056 bw_1057 bw_1058 bw_5 bw_1059) rfl rfl rfl (by decide +kernel) ⟨Nat.le_of_ble_eq_true rfl, Nat.le_of_ble_eq_true rfl⟩) ⟨hI.blind, hw_recv hK hW1 h1 rfl, hI.give hW1 hS hA hK hZ0⟩ rfl rfl hl.1 rfl (lv_room (Nat.le_of_ble_eq_true rfl)) d_La_law_806 ⟨(show _ ≤ 717084 by omega), (show _ ≤ 6944853 by omega)⟩) hS (fun q _ z => hF q z) hF (fun r549 Mc553 t H locs ht _ h hB1 _ hk hS => ?_)
                        obtain ⟨hd, hW⟩ := hw_join hd hW hF hk ht hB1
                        replace h := h hd _ rfl
                        generalize uni Mc553 Mb552 = M550 at h hW
                        clear h9
                        refine lv_iload hx hb d_La_law_809 (lv_at hl 1 rfl) ?_
                        obtain ⟨h0, h1⟩ := h
                        refine lv_icmp_eq (tgt := 816) hx hb d_La_law_811 (by decide) (fun c554 => ?_) (fun c554 => ?_)
                        · have h := h0 c554
                          refine lv_iload hx hb d_La_law_816 (lv_at hl 1 rfl) ?_
                          obtain ⟨h0, h1⟩ := h
                          refine lv_if_ne (tgt := 833) hx hb d_La_law_818 (by decide) (fun c555 => ?_) (fun c555 => ?_)
                          · have h := h0 c555
                            exact l_La_law_833 C0 hl0 hq hXs hbl hbA hAf hk_16 hn_16 l1b28 l2b28 l3b28 l4b28 l5b28 (by omega) (by omega) h hW hS (lv_sub hl [2, 3, 4, 5, 6, 7] rfl)
                          · have h := h1 c555
                            refine lv_aload_n hx hb d_La_law_821 rfl (lv_at hl 5 rfl) ?_
                            refine lv_iconst (v := 0) hx hb d_La_law_822 (by decide) ?_
                            obtain ⟨n, f, h1, h2, h⟩ := h
                            refine va_lald hx hb hK (hw_one hW h1) 0 3 rfl rfl h2 d_La_law_823 ?_
                            generalize f (0 : Int32).toNatClampNeg = v556 at h ⊢
                            refine lv_iload hx hb d_La_law_824 (lv_at hl 0 rfl) ?_
                            refine lv_i2l hx hb d_La_law_826 rfl ?_
                            refine W.lcmp hx hb d_La_law_827 ?_
                            obtain ⟨h0, h1⟩ := h
                            refine lv_if_eq (tgt := 833) hx hb d_La_law_828 (by decide) (fun c557 => ?_) (fun c557 => ?_)
                            · have h := h0 c557
                              exact l_La_law_833 C0 hl0 hq hXs hbl hbA hAf hk_16 hn_16 l1b28 l2b28 l3b28 l4b28 l5b28 (by omega) (by omega) h hW hS (lv_sub hl [2, 3, 4, 5, 6, 7] rfl)
                            · have h := h1 c557
                              refine lv_iconst (v := 0) hx hb d_La_law_831 (by decide) ?_
                              exact False.elim h
                        · have h := h1 c554
                          refine lv_iconst (v := 0) hx hb d_La_law_814 (by decide) ?_
                          exact False.elim h
                      · have h := h1 c8
                        obtain ⟨h0, h1⟩ := h
                        by_cases c9 : (v342 &&& 15) = 9
                        · have h := h0 c9
                          rw [c9]
                          refine lv_tableIn (off := 791) (tgt := 836) hx hb d_La_law_45 (by decide) (by decide) (by decide) (by decide) ?_
                          refine lv_aload_n hx hb d_La_law_836 rfl (lv_at hl 1 rfl) ?_
                          refine lv_aload_n hx hb d_La_law_837 rfl (lv_at hl 0 rfl) ?_
                          refine lv_iload hx hb d_La_law_838 (lv_at hl 5 rfl) ?_
                          refine lv_iconst (v := 1) hx hb d_La_law_840 (by decide) ?_
                          refine lv_iadd hx hb d_La_law_841 ?_
                          obtain ⟨hi, h⟩ := h
                          refine va_sld (i := l5b28 + 1) hx hb hXs hbl hbA hS hi d_La_law_842 ?_
                          obtain ⟨v558, ev558⟩ : ∃ z, z = xs ((l5b28 + 1) : Int32).toNatClampNeg := ⟨_, rfl⟩
                          rw [← ev558]
                          replace h := h v558 ev558
                          refine lv_aload_n hx hb d_La_law_843 rfl (lv_at hl 0 rfl) ?_
                          refine lv_iload hx hb d_La_law_844 (lv_at hl 5 rfl) ?_
                          refine lv_iconst (v := 2) hx hb d_La_law_846 (by decide) ?_
                          refine lv_iadd hx hb d_La_law_847 ?_
                          obtain ⟨hi, h⟩ := h
                          refine va_sld (i := l5b28 + 2) hx hb hXs hbl hbA hS hi d_La_law_848 ?_
                          obtain ⟨v559, ev559⟩ : ∃ z, z = xs ((l5b28 + 2) : Int32).toNatClampNeg := ⟨_, rfl⟩
                          rw [← ev559]
                          replace h := h v559 ev559
                          refine lv_aload_n hx hb d_La_law_849 rfl (lv_at hl 3 rfl) ?_
                          obtain ⟨Ma562, Mb563, hd, he, h7⟩ := h
                          subst he
                          have h := h7
                          clear h7
                          have h9 := h
                          clear h
                          have hW1 := hw_left hW
                          have hF := hW1.free hS hA
                          refine va_calli (vx_runSW (As := [.ref l1b28, .int v558, .int v559, .ref l3b28]) (rest := []) ⟨hx, hb, hml, hown, hts⟩ (c_La_thread hl0 _ h9) (vx_cwSW 4 hts (gi_SH bw_923 bw_924 bw_0 bw_925) rfl rfl rfl (by decide +kernel) ⟨Nat.le_of_ble_eq_true rfl, Nat.le_of_ble_eq_true rfl⟩) ⟨hJ.blind, hJ.give hq hW1 hS hA hK hZ0⟩ rfl rfl hl.1 rfl (lv_room (Nat.le_of_ble_eq_true rfl)) d_La_law_850 ⟨(show _ ≤ 717084 by omega), (show _ ≤ 6944853 by omega)⟩) hS (fun q _ z => hF q z) hF (fun r560 Mc564 t H locs ht _ h hB1 _ hk hS => ?_)
                          obtain ⟨hd, hW⟩ := hw_join hd hW hF hk ht hB1
                          replace h := h hd _ rfl
                          generalize uni Mc564 Mb563 = M561 at h hW
                          clear h9
                          refine lv_istore (lv' := [(6, .int r560), (0, .ref b), (1, .ref l1b28), (2, .ref l2b28), (3, .ref l3b28), (4, .ref l4b28), (5, .int l5b28)]) hx hb d_La_law_853 hl (by decide) rfl (fun ls hl => ?_)
                          refine lv_aload_n hx hb d_La_law_855 rfl (lv_at hl 3 rfl) ?_
                          refine lv_aload_n hx hb d_La_law_856 rfl (lv_at hl 1 rfl) ?_
                          refine lv_iload hx hb d_La_law_857 (lv_at hl 6 rfl) ?_
                          refine lv_iconst (v := 1) hx hb d_La_law_859 (by decide) ?_
                          refine lv_iadd hx hb d_La_law_860 ?_
                          obtain ⟨hi, h⟩ := h
                          refine va_sld (i := l5b28 + 1) hx hb hXs hbl hbA hS hi d_La_law_861 ?_
                          obtain ⟨v565, ev565⟩ : ∃ z, z = xs ((l5b28 + 1) : Int32).toNatClampNeg := ⟨_, rfl⟩
                          rw [← ev565]
                          replace h := h v565 ev565
                          refine lv_aload_n hx hb d_La_law_862 rfl (lv_at hl 1 rfl) ?_
                          refine lv_iload hx hb d_La_law_863 (lv_at hl 6 rfl) ?_
                          refine lv_iconst (v := 2) hx hb d_La_law_865 (by decide) ?_
                          refine lv_iadd hx hb d_La_law_866 ?_
                          obtain ⟨hi, h⟩ := h
                          refine va_sld (i := l5b28 + 2) hx hb hXs hbl hbA hS hi d_La_law_867 ?_
                          obtain ⟨v566, ev566⟩ : ∃ z, z = xs ((l5b28 + 2) : Int32).toNatClampNeg := ⟨_, rfl⟩
                          rw [← ev566]
                          replace h := h v566 ev566
                          obtain ⟨Ma569, Mb570, hd, he, h7⟩ := h
                          subst he
                          have h := h7
                          clear h7
                          obtain ⟨⟨fs, h1⟩, h⟩ := h
                          have h9 := h
                          clear h
                          have hW1 := hw_left hW
                          have hF := hW1.free hS hA
                          refine va_calli (va_runV (As := [.int v565, .int v566]) (rest := []) ⟨hx, hb, hml, hown, hts⟩ (c_Mo_thread _ h9) (cwV 2 hts (gi_V bw_1170 bw_1171 bw_1172 bw_5 bw_1173) rfl rfl rfl (by decide +kernel) ⟨Nat.le_of_ble_eq_true rfl, Nat.le_of_ble_eq_true rfl⟩) ⟨hI.blind, hw_recv hK hW1 h1 rfl, hI.give hW1 hS hA hK hZ0⟩ rfl rfl hl.1 rfl (lv_room (Nat.le_of_ble_eq_true rfl)) d_La_law_868 ⟨(show _ ≤ 717084 by omega), (show _ ≤ 6944853 by omega)⟩) hS (fun q _ z => hF q z) hF (fun r567 Mc571 t H locs ht _ h hB1 _ hk hS => ?_)
                          obtain ⟨hd, hW⟩ := hw_join hd hW hF hk ht hB1
                          replace h := h hd _ rfl
                          generalize uni Mc571 Mb570 = M568 at h hW
                          clear h9
                          refine lv_istore (lv' := [(7, .int r567), (6, .int r560), (0, .ref b), (1, .ref l1b28), (2, .ref l2b28), (3, .ref l3b28), (4, .ref l4b28), (5, .int l5b28)]) hx hb d_La_law_871 hl (by decide) rfl (fun ls hl => ?_)
                          refine lv_aload_n hx hb d_La_law_873 rfl (lv_at hl 4 rfl) ?_
                          obtain ⟨Ma574, Mb575, hd, he, h7⟩ := h
                          subst he
                          have h := h7
                          clear h7
                          obtain ⟨⟨fs, h1⟩, h⟩ := h
                          have h9 := h
                          clear h
                          have hW1 := hw_left hW
                          have hF := hW1.free hS hA
                          refine va_calli (va_runV (As := []) (rest := []) ⟨hx, hb, hml, hown, hts⟩ (c_Mo_thrown _ h9) (cwV 0 hts (gi_V bw_1056 bw_1057 bw_1058 bw_5 bw_1059) rfl rfl rfl (by decide +kernel) ⟨Nat.le_of_ble_eq_true rfl, Nat.le_of_ble_eq_true rfl⟩) ⟨hI.blind, hw_recv hK hW1 h1 rfl, hI.give hW1 hS hA hK hZ0⟩ rfl rfl hl.1 rfl (lv_room (Nat.le_of_ble_eq_true rfl)) d_La_law_874 ⟨(show _ ≤ 717084 by omega), (show _ ≤ 6944853 by omega)⟩) hS (fun q _ z => hF q z) hF (fun r572 Mc576 t H locs ht _ h hB1 _ hk hS => ?_)
                          obtain ⟨hd, hW⟩ := hw_join hd hW hF hk ht hB1
                          replace h := h hd _ rfl
                          generalize uni Mc576 Mb575 = M573 at h hW
                          clear h9
                          refine lv_iload hx hb d_La_law_877 (lv_at hl 1 rfl) ?_
                          obtain ⟨h0, h1⟩ := h
                          refine lv_icmp_eq (tgt := 884) hx hb d_La_law_879 (by decide) (fun c577 => ?_) (fun c577 => ?_)
                          · have h := h0 c577
                            refine lv_iload hx hb d_La_law_884 (lv_at hl 1 rfl) ?_
                            obtain ⟨h0, h1⟩ := h
                            refine lv_if_ne (tgt := 901) hx hb d_La_law_886 (by decide) (fun c578 => ?_) (fun c578 => ?_)
                            · have h := h0 c578
                              exact l_La_law_901 C0 hl0 hq hXs hbl hbA hAf hk_16 hn_16 l1b28 l2b28 l3b28 l4b28 l5b28 (by omega) (by omega) h hW hS (lv_sub hl [2, 3, 4, 5, 6, 7] rfl)
                            · have h := h1 c578
                              refine lv_aload_n hx hb d_La_law_889 rfl (lv_at hl 5 rfl) ?_
                              refine lv_iconst (v := 0) hx hb d_La_law_890 (by decide) ?_
                              obtain ⟨n, f, h1, h2, h⟩ := h
                              refine va_lald hx hb hK (hw_one hW h1) 0 3 rfl rfl h2 d_La_law_891 ?_
                              generalize f (0 : Int32).toNatClampNeg = v579 at h ⊢
                              refine lv_iload hx hb d_La_law_892 (lv_at hl 0 rfl) ?_
                              refine lv_i2l hx hb d_La_law_894 rfl ?_
                              refine W.lcmp hx hb d_La_law_895 ?_
                              obtain ⟨h0, h1⟩ := h
                              refine lv_if_eq (tgt := 901) hx hb d_La_law_896 (by decide) (fun c580 => ?_) (fun c580 => ?_)
                              · have h := h0 c580
                                exact l_La_law_901 C0 hl0 hq hXs hbl hbA hAf hk_16 hn_16 l1b28 l2b28 l3b28 l4b28 l5b28 (by omega) (by omega) h hW hS (lv_sub hl [2, 3, 4, 5, 6, 7] rfl)
                              · have h := h1 c580
                                refine lv_iconst (v := 0) hx hb d_La_law_899 (by decide) ?_
                                exact False.elim h
                          · have h := h1 c577
                            refine lv_iconst (v := 0) hx hb d_La_law_882 (by decide) ?_
                            exact False.elim h
                        · have h := h1 c9
                          obtain ⟨h0, h1⟩ := h
                          by_cases c10 : (v342 &&& 15) = 10
                          · have h := h0 c10
                            rw [c10]
                            refine lv_tableIn (off := 859) (tgt := 904) hx hb d_La_law_45 (by decide) (by decide) (by decide) (by decide) ?_
                            refine lv_aload_n hx hb d_La_law_904 rfl (lv_at hl 1 rfl) ?_
                            refine lv_aload_n hx hb d_La_law_905 rfl (lv_at hl 0 rfl) ?_
                            refine lv_iload hx hb d_La_law_906 (lv_at hl 5 rfl) ?_
                            refine lv_iconst (v := 1) hx hb d_La_law_908 (by decide) ?_
                            refine lv_iadd hx hb d_La_law_909 ?_
                            obtain ⟨hi, h⟩ := h
                            refine va_sld (i := l5b28 + 1) hx hb hXs hbl hbA hS hi d_La_law_910 ?_
                            obtain ⟨v581, ev581⟩ : ∃ z, z = xs ((l5b28 + 1) : Int32).toNatClampNeg := ⟨_, rfl⟩
                            rw [← ev581]
                            replace h := h v581 ev581
                            refine lv_aload_n hx hb d_La_law_911 rfl (lv_at hl 0 rfl) ?_
                            refine lv_iload hx hb d_La_law_912 (lv_at hl 5 rfl) ?_
                            refine lv_iconst (v := 2) hx hb d_La_law_914 (by decide) ?_
                            refine lv_iadd hx hb d_La_law_915 ?_
                            obtain ⟨hi, h⟩ := h
                            refine va_sld (i := l5b28 + 2) hx hb hXs hbl hbA hS hi d_La_law_916 ?_
                            obtain ⟨v582, ev582⟩ : ∃ z, z = xs ((l5b28 + 2) : Int32).toNatClampNeg := ⟨_, rfl⟩
                            rw [← ev582]
                            replace h := h v582 ev582
                            refine lv_aload_n hx hb d_La_law_917 rfl (lv_at hl 3 rfl) ?_
                            obtain ⟨Ma585, Mb586, hd, he, h7⟩ := h
                            subst he
                            have h := h7
                            clear h7
                            have h9 := h
                            clear h
                            have hW1 := hw_left hW
                            have hF := hW1.free hS hA
                            refine va_calli (vx_runSW (As := [.ref l1b28, .int v581, .int v582, .ref l3b28]) (rest := []) ⟨hx, hb, hml, hown, hts⟩ (c_La_channel hl0 _ h9) (vx_cwSW 4 hts (gi_SH bw_930 bw_931 bw_0 bw_932) rfl rfl rfl (by decide +kernel) ⟨Nat.le_of_ble_eq_true rfl, Nat.le_of_ble_eq_true rfl⟩) ⟨hJ.blind, hJ.give hq hW1 hS hA hK hZ0⟩ rfl rfl hl.1 rfl (lv_room (Nat.le_of_ble_eq_true rfl)) d_La_law_918 ⟨(show _ ≤ 717084 by omega), (show _ ≤ 6944853 by omega)⟩) hS (fun q _ z => hF q z) hF (fun r583 Mc587 t H locs ht _ h hB1 _ hk hS => ?_)
                            obtain ⟨hd, hW⟩ := hw_join hd hW hF hk ht hB1
                            replace h := h hd _ rfl
                            generalize uni Mc587 Mb586 = M584 at h hW
                            clear h9
                            refine lv_istore (lv' := [(6, .int r583), (0, .ref b), (1, .ref l1b28), (2, .ref l2b28), (3, .ref l3b28), (4, .ref l4b28), (5, .int l5b28)]) hx hb d_La_law_921 hl (by decide) rfl (fun ls hl => ?_)
                            refine lv_aload_n hx hb d_La_law_923 rfl (lv_at hl 3 rfl) ?_
                            refine lv_aload_n hx hb d_La_law_924 rfl (lv_at hl 1 rfl) ?_
                            refine lv_iload hx hb d_La_law_925 (lv_at hl 6 rfl) ?_
                            refine lv_iconst (v := 1) hx hb d_La_law_927 (by decide) ?_
                            refine lv_iadd hx hb d_La_law_928 ?_
                            obtain ⟨hi, h⟩ := h
                            refine va_sld (i := l5b28 + 1) hx hb hXs hbl hbA hS hi d_La_law_929 ?_
                            obtain ⟨v588, ev588⟩ : ∃ z, z = xs ((l5b28 + 1) : Int32).toNatClampNeg := ⟨_, rfl⟩
                            rw [← ev588]
                            replace h := h v588 ev588
                            refine lv_aload_n hx hb d_La_law_930 rfl (lv_at hl 1 rfl) ?_
                            refine lv_iload hx hb d_La_law_931 (lv_at hl 6 rfl) ?_
                            refine lv_iconst (v := 2) hx hb d_La_law_933 (by decide) ?_
                            refine lv_iadd hx hb d_La_law_934 ?_
                            obtain ⟨hi, h⟩ := h
                            refine va_sld (i := l5b28 + 2) hx hb hXs hbl hbA hS hi d_La_law_935 ?_
                            obtain ⟨v589, ev589⟩ : ∃ z, z = xs ((l5b28 + 2) : Int32).toNatClampNeg := ⟨_, rfl⟩
                            rw [← ev589]
                            replace h := h v589 ev589
                            obtain ⟨Ma592, Mb593, hd, he, h7⟩ := h
                            subst he
                            have h := h7
                            clear h7
                            obtain ⟨⟨fs, h1⟩, h⟩ := h
                            have h9 := h
                            clear h
                            have hW1 := hw_left hW
                            have hF := hW1.free hS hA
                            refine va_calli (va_runV (As := [.int v588, .int v589]) (rest := []) ⟨hx, hb, hml, hown, hts⟩ (c_Mo_channel _ h9) (cwV 2 hts (gi_V bw_1174 bw_1175 bw_1176 bw_5 bw_1177) rfl rfl rfl (by decide +kernel) ⟨Nat.le_of_ble_eq_true rfl, Nat.le_of_ble_eq_true rfl⟩) ⟨hI.blind, hw_recv hK hW1 h1 rfl, hI.give hW1 hS hA hK hZ0⟩ rfl rfl hl.1 rfl (lv_room (Nat.le_of_ble_eq_true rfl)) d_La_law_936 ⟨(show _ ≤ 717084 by omega), (show _ ≤ 6944853 by omega)⟩) hS (fun q _ z => hF q z) hF (fun r590 Mc594 t H locs ht _ h hB1 _ hk hS => ?_)
                            obtain ⟨hd, hW⟩ := hw_join hd hW hF hk ht hB1
                            replace h := h hd _ rfl
                            generalize uni Mc594 Mb593 = M591 at h hW
                            clear h9
                            refine lv_istore (lv' := [(7, .int r590), (6, .int r583), (0, .ref b), (1, .ref l1b28), (2, .ref l2b28), (3, .ref l3b28), (4, .ref l4b28), (5, .int l5b28)]) hx hb d_La_law_939 hl (by decide) rfl (fun ls hl => ?_)
                            refine lv_aload_n hx hb d_La_law_941 rfl (lv_at hl 4 rfl) ?_
                            obtain ⟨Ma597, Mb598, hd, he, h7⟩ := h
                            subst he
                            have h := h7
                            clear h7
                            obtain ⟨⟨fs, h1⟩, h⟩ := h
                            have h9 := h
                            clear h
                            have hW1 := hw_left hW
                            have hF := hW1.free hS hA
                            refine va_calli (va_runV (As := []) (rest := []) ⟨hx, hb, hml, hown, hts⟩ (c_Mo_thrown _ h9) (cwV 0 hts (gi_V bw_1056 bw_1057 bw_1058 bw_5 bw_1059) rfl rfl rfl (by decide +kernel) ⟨Nat.le_of_ble_eq_true rfl, Nat.le_of_ble_eq_true rfl⟩) ⟨hI.blind, hw_recv hK hW1 h1 rfl, hI.give hW1 hS hA hK hZ0⟩ rfl rfl hl.1 rfl (lv_room (Nat.le_of_ble_eq_true rfl)) d_La_law_942 ⟨(show _ ≤ 717084 by omega), (show _ ≤ 6944853 by omega)⟩) hS (fun q _ z => hF q z) hF (fun r595 Mc599 t H locs ht _ h hB1 _ hk hS => ?_)
                            obtain ⟨hd, hW⟩ := hw_join hd hW hF hk ht hB1
                            replace h := h hd _ rfl
                            generalize uni Mc599 Mb598 = M596 at h hW
                            clear h9
                            refine lv_iload hx hb d_La_law_945 (lv_at hl 1 rfl) ?_
                            obtain ⟨h0, h1⟩ := h
                            refine lv_icmp_eq (tgt := 952) hx hb d_La_law_947 (by decide) (fun c600 => ?_) (fun c600 => ?_)
                            · have h := h0 c600
                              refine lv_iload hx hb d_La_law_952 (lv_at hl 1 rfl) ?_
                              obtain ⟨h0, h1⟩ := h
                              refine lv_if_ne (tgt := 969) hx hb d_La_law_954 (by decide) (fun c601 => ?_) (fun c601 => ?_)
                              · have h := h0 c601
                                exact l_La_law_969 C0 hl0 hq hXs hbl hbA hAf hk_16 hn_16 l1b28 l2b28 l3b28 l4b28 l5b28 (by omega) (by omega) h hW hS (lv_sub hl [2, 3, 4, 5, 6, 7] rfl)
                              · have h := h1 c601
                                refine lv_aload_n hx hb d_La_law_957 rfl (lv_at hl 5 rfl) ?_
                                refine lv_iconst (v := 0) hx hb d_La_law_958 (by decide) ?_
                                obtain ⟨n, f, h1, h2, h⟩ := h
                                refine va_lald hx hb hK (hw_one hW h1) 0 3 rfl rfl h2 d_La_law_959 ?_
                                generalize f (0 : Int32).toNatClampNeg = v602 at h ⊢
                                refine lv_iload hx hb d_La_law_960 (lv_at hl 0 rfl) ?_
                                refine lv_i2l hx hb d_La_law_962 rfl ?_
                                refine W.lcmp hx hb d_La_law_963 ?_
                                obtain ⟨h0, h1⟩ := h
                                refine lv_if_eq (tgt := 969) hx hb d_La_law_964 (by decide) (fun c603 => ?_) (fun c603 => ?_)
                                · have h := h0 c603
                                  exact l_La_law_969 C0 hl0 hq hXs hbl hbA hAf hk_16 hn_16 l1b28 l2b28 l3b28 l4b28 l5b28 (by omega) (by omega) h hW hS (lv_sub hl [2, 3, 4, 5, 6, 7] rfl)
                                · have h := h1 c603
                                  refine lv_iconst (v := 0) hx hb d_La_law_967 (by decide) ?_
                                  exact False.elim h
                            · have h := h1 c600
                              refine lv_iconst (v := 0) hx hb d_La_law_950 (by decide) ?_
                              exact False.elim h
                          · have h := h1 c10
                            obtain ⟨h0, h1⟩ := h
                            by_cases c11 : (v342 &&& 15) = 11
                            · have h := h0 c11
                              rw [c11]
                              refine lv_tableIn (off := 927) (tgt := 972) hx hb d_La_law_45 (by decide) (by decide) (by decide) (by decide) ?_
                              refine lv_aload_n hx hb d_La_law_972 rfl (lv_at hl 1 rfl) ?_
                              refine lv_aload_n hx hb d_La_law_973 rfl (lv_at hl 0 rfl) ?_
                              refine lv_iload hx hb d_La_law_974 (lv_at hl 5 rfl) ?_
                              refine lv_iconst (v := 1) hx hb d_La_law_976 (by decide) ?_
                              refine lv_iadd hx hb d_La_law_977 ?_
                              obtain ⟨hi, h⟩ := h
                              refine va_sld (i := l5b28 + 1) hx hb hXs hbl hbA hS hi d_La_law_978 ?_
                              obtain ⟨v604, ev604⟩ : ∃ z, z = xs ((l5b28 + 1) : Int32).toNatClampNeg := ⟨_, rfl⟩
                              rw [← ev604]
                              replace h := h v604 ev604
                              refine lv_aload_n hx hb d_La_law_979 rfl (lv_at hl 0 rfl) ?_
                              refine lv_iload hx hb d_La_law_980 (lv_at hl 5 rfl) ?_
                              refine lv_iconst (v := 2) hx hb d_La_law_982 (by decide) ?_
                              refine lv_iadd hx hb d_La_law_983 ?_
                              obtain ⟨hi, h⟩ := h
                              refine va_sld (i := l5b28 + 2) hx hb hXs hbl hbA hS hi d_La_law_984 ?_
                              obtain ⟨v605, ev605⟩ : ∃ z, z = xs ((l5b28 + 2) : Int32).toNatClampNeg := ⟨_, rfl⟩
                              rw [← ev605]
                              replace h := h v605 ev605
                              refine lv_aload_n hx hb d_La_law_985 rfl (lv_at hl 3 rfl) ?_
                              obtain ⟨Ma608, Mb609, hd, he, h7⟩ := h
                              subst he
                              have h := h7
                              clear h7
                              have h9 := h
                              clear h
                              have hW1 := hw_left hW
                              have hF := hW1.free hS hA
                              refine va_calli (vx_runSW (As := [.ref l1b28, .int v604, .int v605, .ref l3b28]) (rest := []) ⟨hx, hb, hml, hown, hts⟩ (c_La_item hl0 _ h9) (vx_cwSW 4 hts (gi_SH bw_945 bw_946 bw_0 bw_947) rfl rfl rfl (by decide +kernel) ⟨Nat.le_of_ble_eq_true rfl, Nat.le_of_ble_eq_true rfl⟩) ⟨hJ.blind, hJ.give hq hW1 hS hA hK hZ0⟩ rfl rfl hl.1 rfl (lv_room (Nat.le_of_ble_eq_true rfl)) d_La_law_986 ⟨(show _ ≤ 717084 by omega), (show _ ≤ 6944853 by omega)⟩) hS (fun q _ z => hF q z) hF (fun r606 Mc610 t H locs ht _ h hB1 _ hk hS => ?_)
                              obtain ⟨hd, hW⟩ := hw_join hd hW hF hk ht hB1
                              replace h := h hd _ rfl
                              generalize uni Mc610 Mb609 = M607 at h hW
                              clear h9
                              refine lv_istore (lv' := [(6, .int r606), (0, .ref b), (1, .ref l1b28), (2, .ref l2b28), (3, .ref l3b28), (4, .ref l4b28), (5, .int l5b28)]) hx hb d_La_law_989 hl (by decide) rfl (fun ls hl => ?_)
                              refine lv_aload_n hx hb d_La_law_991 rfl (lv_at hl 3 rfl) ?_
                              refine lv_aload_n hx hb d_La_law_992 rfl (lv_at hl 1 rfl) ?_
                              refine lv_iload hx hb d_La_law_993 (lv_at hl 6 rfl) ?_
                              refine lv_iconst (v := 1) hx hb d_La_law_995 (by decide) ?_
                              refine lv_iadd hx hb d_La_law_996 ?_
                              obtain ⟨hi, h⟩ := h
                              refine va_sld (i := l5b28 + 1) hx hb hXs hbl hbA hS hi d_La_law_997 ?_
                              obtain ⟨v611, ev611⟩ : ∃ z, z = xs ((l5b28 + 1) : Int32).toNatClampNeg := ⟨_, rfl⟩
                              rw [← ev611]
                              replace h := h v611 ev611
                              refine lv_aload_n hx hb d_La_law_998 rfl (lv_at hl 1 rfl) ?_
                              refine lv_iload hx hb d_La_law_999 (lv_at hl 6 rfl) ?_
                              refine lv_iconst (v := 2) hx hb d_La_law_1001 (by decide) ?_
                              refine lv_iadd hx hb d_La_law_1002 ?_
                              obtain ⟨hi, h⟩ := h
                              refine va_sld (i := l5b28 + 2) hx hb hXs hbl hbA hS hi d_La_law_1003 ?_
                              obtain ⟨v612, ev612⟩ : ∃ z, z = xs ((l5b28 + 2) : Int32).toNatClampNeg := ⟨_, rfl⟩
                              rw [← ev612]
                              replace h := h v612 ev612
                              obtain ⟨Ma615, Mb616, hd, he, h7⟩ := h
                              subst he
                              have h := h7
                              clear h7
                              obtain ⟨⟨fs, h1⟩, h⟩ := h
                              have h9 := h
                              clear h
                              have hW1 := hw_left hW
                              have hF := hW1.free hS hA
                              refine va_calli (va_runV (As := [.int v611, .int v612]) (rest := []) ⟨hx, hb, hml, hown, hts⟩ (c_Mo_item _ h9) (cwV 2 hts (gi_V bw_1178 bw_1179 bw_1180 bw_5 bw_1181) rfl rfl rfl (by decide +kernel) ⟨Nat.le_of_ble_eq_true rfl, Nat.le_of_ble_eq_true rfl⟩) ⟨hI.blind, hw_recv hK hW1 h1 rfl, hI.give hW1 hS hA hK hZ0⟩ rfl rfl hl.1 rfl (lv_room (Nat.le_of_ble_eq_true rfl)) d_La_law_1004 ⟨(show _ ≤ 717084 by omega), (show _ ≤ 6944853 by omega)⟩) hS (fun q _ z => hF q z) hF (fun r613 Mc617 t H locs ht _ h hB1 _ hk hS => ?_)
                              obtain ⟨hd, hW⟩ := hw_join hd hW hF hk ht hB1
                              replace h := h hd _ rfl
                              generalize uni Mc617 Mb616 = M614 at h hW
                              clear h9
                              refine lv_istore (lv' := [(7, .int r613), (6, .int r606), (0, .ref b), (1, .ref l1b28), (2, .ref l2b28), (3, .ref l3b28), (4, .ref l4b28), (5, .int l5b28)]) hx hb d_La_law_1007 hl (by decide) rfl (fun ls hl => ?_)
                              refine lv_aload_n hx hb d_La_law_1009 rfl (lv_at hl 4 rfl) ?_
                              obtain ⟨Ma620, Mb621, hd, he, h7⟩ := h
                              subst he
                              have h := h7
                              clear h7
                              obtain ⟨⟨fs, h1⟩, h⟩ := h
                              have h9 := h
                              clear h
                              have hW1 := hw_left hW
                              have hF := hW1.free hS hA
                              refine va_calli (va_runV (As := []) (rest := []) ⟨hx, hb, hml, hown, hts⟩ (c_Mo_thrown _ h9) (cwV 0 hts (gi_V bw_1056 bw_1057 bw_1058 bw_5 bw_1059) rfl rfl rfl (by decide +kernel) ⟨Nat.le_of_ble_eq_true rfl, Nat.le_of_ble_eq_true rfl⟩) ⟨hI.blind, hw_recv hK hW1 h1 rfl, hI.give hW1 hS hA hK hZ0⟩ rfl rfl hl.1 rfl (lv_room (Nat.le_of_ble_eq_true rfl)) d_La_law_1010 ⟨(show _ ≤ 717084 by omega), (show _ ≤ 6944853 by omega)⟩) hS (fun q _ z => hF q z) hF (fun r618 Mc622 t H locs ht _ h hB1 _ hk hS => ?_)
                              obtain ⟨hd, hW⟩ := hw_join hd hW hF hk ht hB1
                              replace h := h hd _ rfl
                              generalize uni Mc622 Mb621 = M619 at h hW
                              clear h9
                              refine lv_iload hx hb d_La_law_1013 (lv_at hl 1 rfl) ?_
                              obtain ⟨h0, h1⟩ := h
                              refine lv_icmp_eq (tgt := 1020) hx hb d_La_law_1015 (by decide) (fun c623 => ?_) (fun c623 => ?_)
                              · have h := h0 c623
                                refine lv_iload hx hb d_La_law_1020 (lv_at hl 1 rfl) ?_
                                obtain ⟨h0, h1⟩ := h
                                refine lv_if_ne (tgt := 1037) hx hb d_La_law_1022 (by decide) (fun c624 => ?_) (fun c624 => ?_)
                                · have h := h0 c624
                                  exact l_La_law_1037 C0 hl0 hq hXs hbl hbA hAf hk_16 hn_16 l1b28 l2b28 l3b28 l4b28 l5b28 (by omega) (by omega) h hW hS (lv_sub hl [2, 3, 4, 5, 6, 7] rfl)
                                · have h := h1 c624
                                  refine lv_aload_n hx hb d_La_law_1025 rfl (lv_at hl 5 rfl) ?_
                                  refine lv_iconst (v := 0) hx hb d_La_law_1026 (by decide) ?_
                                  obtain ⟨n, f, h1, h2, h⟩ := h
                                  refine va_lald hx hb hK (hw_one hW h1) 0 3 rfl rfl h2 d_La_law_1027 ?_
                                  generalize f (0 : Int32).toNatClampNeg = v625 at h ⊢
                                  refine lv_iload hx hb d_La_law_1028 (lv_at hl 0 rfl) ?_
                                  refine lv_i2l hx hb d_La_law_1030 rfl ?_
                                  refine W.lcmp hx hb d_La_law_1031 ?_
                                  obtain ⟨h0, h1⟩ := h
                                  refine lv_if_eq (tgt := 1037) hx hb d_La_law_1032 (by decide) (fun c626 => ?_) (fun c626 => ?_)
                                  · have h := h0 c626
                                    exact l_La_law_1037 C0 hl0 hq hXs hbl hbA hAf hk_16 hn_16 l1b28 l2b28 l3b28 l4b28 l5b28 (by omega) (by omega) h hW hS (lv_sub hl [2, 3, 4, 5, 6, 7] rfl)
                                  · have h := h1 c626
                                    refine lv_iconst (v := 0) hx hb d_La_law_1035 (by decide) ?_
                                    exact False.elim h
                              · have h := h1 c623
                                refine lv_iconst (v := 0) hx hb d_La_law_1018 (by decide) ?_
                                exact False.elim h
                            · have h := h1 c11
                              obtain ⟨h0, h1⟩ := h
                              by_cases c12 : (v342 &&& 15) = 12
                              · have h := h0 c12
                                rw [c12]
                                refine lv_tableIn (off := 995) (tgt := 1040) hx hb d_La_law_45 (by decide) (by decide) (by decide) (by decide) ?_
                                refine lv_aload_n hx hb d_La_law_1040 rfl (lv_at hl 1 rfl) ?_
                                refine lv_aload_n hx hb d_La_law_1041 rfl (lv_at hl 0 rfl) ?_
                                refine lv_iload hx hb d_La_law_1042 (lv_at hl 5 rfl) ?_
                                refine lv_iconst (v := 1) hx hb d_La_law_1044 (by decide) ?_
                                refine lv_iadd hx hb d_La_law_1045 ?_
                                obtain ⟨hi, h⟩ := h
                                refine va_sld (i := l5b28 + 1) hx hb hXs hbl hbA hS hi d_La_law_1046 ?_
                                obtain ⟨v627, ev627⟩ : ∃ z, z = xs ((l5b28 + 1) : Int32).toNatClampNeg := ⟨_, rfl⟩
                                rw [← ev627]
                                replace h := h v627 ev627
                                refine lv_aload hx hb d_La_law_1047 (lv_at hl 4 rfl) ?_
                                obtain ⟨Ma630, Mb631, hd, he, h7⟩ := h
                                subst he
                                have h := h7
                                clear h7
                                have h9 := h
                                clear h
                                have hW1 := hw_left hW
                                have hF := hW1.free hS hA
                                refine va_calli (vx_runSW (As := [.ref l1b28, .int v627, .ref l4b28]) (rest := []) ⟨hx, hb, hml, hown, hts⟩ (c_La_stay hl0 _ h9) (vx_cwSW 3 hts (gi_SH bw_960 bw_961 bw_0 bw_962) rfl rfl rfl (by decide +kernel) ⟨Nat.le_of_ble_eq_true rfl, Nat.le_of_ble_eq_true rfl⟩) ⟨hJ.blind, hJ.give hq hW1 hS hA hK hZ0⟩ rfl rfl hl.1 rfl (lv_room (Nat.le_of_ble_eq_true rfl)) d_La_law_1049 ⟨(show _ ≤ 717084 by omega), (show _ ≤ 6944853 by omega)⟩) hS (fun q _ z => hF q z) hF (fun r628 Mc632 t H locs ht _ h hB1 _ hk hS => ?_)
                                obtain ⟨hd, hW⟩ := hw_join hd hW hF hk ht hB1
                                replace h := h hd _ rfl
                                generalize uni Mc632 Mb631 = M629 at h hW
                                clear h9
                                refine lv_istore (lv' := [(6, .int r628), (0, .ref b), (1, .ref l1b28), (2, .ref l2b28), (3, .ref l3b28), (4, .ref l4b28), (5, .int l5b28)]) hx hb d_La_law_1052 hl (by decide) rfl (fun ls hl => ?_)
                                refine lv_aload_n hx hb d_La_law_1054 rfl (lv_at hl 3 rfl) ?_
                                refine lv_aload_n hx hb d_La_law_1055 rfl (lv_at hl 1 rfl) ?_
                                refine lv_iload hx hb d_La_law_1056 (lv_at hl 6 rfl) ?_
                                refine lv_iconst (v := 1) hx hb d_La_law_1058 (by decide) ?_
                                refine lv_iadd hx hb d_La_law_1059 ?_
                                obtain ⟨hi, h⟩ := h
                                refine va_sld (i := l5b28 + 1) hx hb hXs hbl hbA hS hi d_La_law_1060 ?_
                                obtain ⟨v633, ev633⟩ : ∃ z, z = xs ((l5b28 + 1) : Int32).toNatClampNeg := ⟨_, rfl⟩
                                rw [← ev633]
                                replace h := h v633 ev633
                                obtain ⟨Ma636, Mb637, hd, he, h7⟩ := h
                                subst he
                                have h := h7
                                clear h7
                                obtain ⟨⟨fs, h1⟩, h⟩ := h
                                have h9 := h
                                clear h
                                have hW1 := hw_left hW
                                have hF := hW1.free hS hA
                                refine va_calld (va_runV (As := [.int v633]) (rest := []) ⟨hx, hb, hml, hown, hts⟩ (c_Mo_stay _ h9) (cwV 1 hts (gi_V bw_1182 bw_1183 bw_1184 bw_5 bw_1185) rfl rfl rfl (by decide +kernel) ⟨Nat.le_of_ble_eq_true rfl, Nat.le_of_ble_eq_true rfl⟩) ⟨hI.blind, hw_recv hK hW1 h1 rfl, hI.give hW1 hS hA hK hZ0⟩ rfl rfl hl.1 rfl (lv_room (Nat.le_of_ble_eq_true rfl)) d_La_law_1061 ⟨(show _ ≤ 717084 by omega), (show _ ≤ 6944853 by omega)⟩) hS (fun q _ z => hF q z) hF (fun r634 Mc638 t H locs ht _ h hB1 _ hk hS => ?_)
                                obtain ⟨hd, hW⟩ := hw_join hd hW hF hk ht hB1
                                replace h := h hd _ rfl
                                generalize uni Mc638 Mb637 = M635 at h hW
                                clear h9
                                refine lv_dstore (lv' := [(7, .double r634), (6, .int r628), (0, .ref b), (1, .ref l1b28), (2, .ref l2b28), (3, .ref l3b28), (4, .ref l4b28), (5, .int l5b28)]) hx hb d_La_law_1064 hl (by decide) rfl (fun ls hl => ?_)
                                refine lv_aload_n hx hb d_La_law_1066 rfl (lv_at hl 4 rfl) ?_
                                obtain ⟨Ma641, Mb642, hd, he, h7⟩ := h
                                subst he
                                have h := h7
                                clear h7
                                obtain ⟨⟨fs, h1⟩, h⟩ := h
                                have h9 := h
                                clear h
                                have hW1 := hw_left hW
                                have hF := hW1.free hS hA
                                refine va_calli (va_runV (As := []) (rest := []) ⟨hx, hb, hml, hown, hts⟩ (c_Mo_thrown _ h9) (cwV 0 hts (gi_V bw_1056 bw_1057 bw_1058 bw_5 bw_1059) rfl rfl rfl (by decide +kernel) ⟨Nat.le_of_ble_eq_true rfl, Nat.le_of_ble_eq_true rfl⟩) ⟨hI.blind, hw_recv hK hW1 h1 rfl, hI.give hW1 hS hA hK hZ0⟩ rfl rfl hl.1 rfl (lv_room (Nat.le_of_ble_eq_true rfl)) d_La_law_1067 ⟨(show _ ≤ 717084 by omega), (show _ ≤ 6944853 by omega)⟩) hS (fun q _ z => hF q z) hF (fun r639 Mc643 t H locs ht _ h hB1 _ hk hS => ?_)
                                obtain ⟨hd, hW⟩ := hw_join hd hW hF hk ht hB1
                                replace h := h hd _ rfl
                                generalize uni Mc643 Mb642 = M640 at h hW
                                clear h9
                                refine lv_iload hx hb d_La_law_1070 (lv_at hl 1 rfl) ?_
                                obtain ⟨h0, h1⟩ := h
                                refine lv_icmp_eq (tgt := 1077) hx hb d_La_law_1072 (by decide) (fun c644 => ?_) (fun c644 => ?_)
                                · have h := h0 c644
                                  refine lv_iload hx hb d_La_law_1077 (lv_at hl 1 rfl) ?_
                                  obtain ⟨h0, h1⟩ := h
                                  refine lv_if_ne (tgt := 1114) hx hb d_La_law_1079 (by decide) (fun c645 => ?_) (fun c645 => ?_)
                                  · have h := h0 c645
                                    exact l_La_law_1114 C0 hl0 hq hXs hbl hbA hAf hk_16 hn_16 l1b28 l2b28 l3b28 l4b28 l5b28 (by omega) (by omega) h hW hS (lv_sub hl [2, 3, 4, 5, 6, 7] rfl)
                                  · have h := h1 c645
                                    refine lv_aload hx hb d_La_law_1082 (lv_at hl 6 rfl) ?_
                                    refine lv_iconst (v := 0) hx hb d_La_law_1084 (by decide) ?_
                                    obtain ⟨n, f, h1, h2, h⟩ := h
                                    refine va_dald hx hb hK (hw_one hW h1) 0 4 rfl rfl h2 d_La_law_1085 ?_
                                    generalize f (0 : Int32).toNatClampNeg = v646 at h ⊢
                                    refine lv_dload hx hb d_La_law_1086 (lv_at hl 0 rfl) ?_
                                    refine lv_dcmp hx hb d_La_law_1088 ?_
                                    obtain ⟨h0, h1⟩ := h
                                    refine lv_if_eq (tgt := 1114) hx hb d_La_law_1089 (by decide) (fun c647 => ?_) (fun c647 => ?_)
                                    · have h := h0 c647
                                      exact l_La_law_1114 C0 hl0 hq hXs hbl hbA hAf hk_16 hn_16 l1b28 l2b28 l3b28 l4b28 l5b28 (by omega) (by omega) h hW hS (lv_sub hl [2, 3, 4, 5, 6, 7] rfl)
                                    · have h := h1 c647
                                      refine lv_aload hx hb d_La_law_1092 (lv_at hl 6 rfl) ?_
                                      refine lv_iconst (v := 0) hx hb d_La_law_1094 (by decide) ?_
                                      obtain ⟨n, f, h1, h2, h⟩ := h
                                      refine va_dald hx hb hK (hw_one hW h1) 0 4 rfl rfl h2 d_La_law_1095 ?_
                                      generalize f (0 : Int32).toNatClampNeg = v648 at h ⊢
                                      refine lv_aload hx hb d_La_law_1096 (lv_at hl 6 rfl) ?_
                                      refine lv_iconst (v := 0) hx hb d_La_law_1098 (by decide) ?_
                                      obtain ⟨n, f, h1, h2, h⟩ := h
                                      refine va_dald hx hb hK (hw_one hW h1) 0 4 rfl rfl h2 d_La_law_1099 ?_
                                      generalize f (0 : Int32).toNatClampNeg = v649 at h ⊢
                                      refine lv_dcmp hx hb d_La_law_1100 ?_
                                      obtain ⟨h0, h1⟩ := h
                                      refine lv_if_eq (tgt := 1112) hx hb d_La_law_1101 (by decide) (fun c650 => ?_) (fun c650 => ?_)
                                      · have h := h0 c650
                                        exact l_La_law_1112 C0 hl0 hq hXs hbl hbA hAf  (by omega) (by omega) h hW hS (lv_sub hl [] rfl)
                                      · have h := h1 c650
                                        refine lv_dload hx hb d_La_law_1104 (lv_at hl 0 rfl) ?_
                                        refine lv_dload hx hb d_La_law_1106 (lv_at hl 0 rfl) ?_
                                        refine lv_dcmp hx hb d_La_law_1108 ?_
                                        obtain ⟨h0, h1⟩ := h
                                        refine lv_if_ne (tgt := 1114) hx hb d_La_law_1109 (by decide) (fun c651 => ?_) (fun c651 => ?_)
                                        · have h := h0 c651
                                          exact l_La_law_1114 C0 hl0 hq hXs hbl hbA hAf hk_16 hn_16 l1b28 l2b28 l3b28 l4b28 l5b28 (by omega) (by omega) h hW hS (lv_sub hl [2, 3, 4, 5, 6, 7] rfl)
                                        · have h := h1 c651
                                          exact l_La_law_1112 C0 hl0 hq hXs hbl hbA hAf  (by omega) (by omega) h hW hS (lv_sub hl [] rfl)
                                · have h := h1 c644
                                  refine lv_iconst (v := 0) hx hb d_La_law_1075 (by decide) ?_
                                  exact False.elim h
                              · have h := h1 c12
                                obtain ⟨h0, h1⟩ := h
                                by_cases c13 : (v342 &&& 15) = 13
                                · have h := h0 c13
                                  rw [c13]
                                  refine lv_tableIn (off := 1072) (tgt := 1117) hx hb d_La_law_45 (by decide) (by decide) (by decide) (by decide) ?_
                                  refine lv_aload_n hx hb d_La_law_1117 rfl (lv_at hl 1 rfl) ?_
                                  obtain ⟨Ma654, Mb655, hd, he, h7⟩ := h
                                  subst he
                                  have h := h7
                                  clear h7
                                  obtain ⟨⟨fs, h1⟩, h⟩ := h
                                  have h9 := h
                                  clear h
                                  have hW1 := hw_left hW
                                  have hF := hW1.free hS hA
                                  refine va_calld (va_runV (As := []) (rest := []) ⟨hx, hb, hml, hown, hts⟩ (c_Ha_time _ h9) (cwV 0 hts (gi_V bw_113 bw_114 bw_115 bw_1 bw_116) rfl rfl rfl (by decide +kernel) ⟨Nat.le_of_ble_eq_true rfl, Nat.le_of_ble_eq_true rfl⟩) ⟨hI.blind, hw_recv hK hW1 h1 rfl, hI.give hW1 hS hA hK hZ0⟩ rfl rfl hl.1 rfl (lv_room (Nat.le_of_ble_eq_true rfl)) d_La_law_1118 ⟨(show _ ≤ 717084 by omega), (show _ ≤ 6944853 by omega)⟩) hS (fun q _ z => hF q z) hF (fun r652 Mc656 t H locs ht _ h hB1 _ hk hS => ?_)
                                  obtain ⟨hd, hW⟩ := hw_join hd hW hF hk ht hB1
                                  replace h := h hd _ rfl
                                  generalize uni Mc656 Mb655 = M653 at h hW
                                  clear h9
                                  refine lv_dstore (lv' := [(6, .double r652), (0, .ref b), (1, .ref l1b28), (2, .ref l2b28), (3, .ref l3b28), (4, .ref l4b28), (5, .int l5b28)]) hx hb d_La_law_1121 hl (by decide) rfl (fun ls hl => ?_)
                                  refine lv_aload_n hx hb d_La_law_1123 rfl (lv_at hl 3 rfl) ?_
                                  obtain ⟨Ma659, Mb660, hd, he, h7⟩ := h
                                  subst he
                                  have h := h7
                                  clear h7
                                  obtain ⟨⟨fs, h1⟩, h⟩ := h
                                  have h9 := h
                                  clear h
                                  have hW1 := hw_left hW
                                  have hF := hW1.free hS hA
                                  refine va_calld (va_runV (As := []) (rest := []) ⟨hx, hb, hml, hown, hts⟩ (c_Mo_time _ h9) (cwV 0 hts (gi_V bw_1186 bw_1187 bw_1188 bw_5 bw_1189) rfl rfl rfl (by decide +kernel) ⟨Nat.le_of_ble_eq_true rfl, Nat.le_of_ble_eq_true rfl⟩) ⟨hI.blind, hw_recv hK hW1 h1 rfl, hI.give hW1 hS hA hK hZ0⟩ rfl rfl hl.1 rfl (lv_room (Nat.le_of_ble_eq_true rfl)) d_La_law_1124 ⟨(show _ ≤ 717084 by omega), (show _ ≤ 6944853 by omega)⟩) hS (fun q _ z => hF q z) hF (fun r657 Mc661 t H locs ht _ h hB1 _ hk hS => ?_)
                                  obtain ⟨hd, hW⟩ := hw_join hd hW hF hk ht hB1
                                  replace h := h hd _ rfl
                                  generalize uni Mc661 Mb660 = M658 at h hW
                                  clear h9
                                  refine lv_dstore (lv' := [(8, .double r657), (6, .double r652), (0, .ref b), (1, .ref l1b28), (2, .ref l2b28), (3, .ref l3b28), (4, .ref l4b28), (5, .int l5b28)]) hx hb d_La_law_1127 hl (by decide) rfl (fun ls hl => ?_)
                                  refine lv_dload hx hb d_La_law_1129 (lv_at hl 1 rfl) ?_
                                  refine lv_dload hx hb d_La_law_1131 (lv_at hl 0 rfl) ?_
                                  refine lv_dcmp hx hb d_La_law_1133 ?_
                                  obtain ⟨h0, h1⟩ := h
                                  refine lv_if_eq (tgt := 1155) hx hb d_La_law_1134 (by decide) (fun c662 => ?_) (fun c662 => ?_)
                                  · have h := h0 c662
                                    exact l_La_law_1155 C0 hl0 hq hXs hbl hbA hAf hk_16 hn_16 l1b28 l2b28 l3b28 l4b28 l5b28 (by omega) (by omega) h hW hS (lv_sub hl [2, 3, 4, 5, 6, 7] rfl)
                                  · have h := h1 c662
                                    refine lv_dload hx hb d_La_law_1137 (lv_at hl 1 rfl) ?_
                                    refine lv_dload hx hb d_La_law_1139 (lv_at hl 1 rfl) ?_
                                    refine lv_dcmp hx hb d_La_law_1141 ?_
                                    obtain ⟨h0, h1⟩ := h
                                    refine lv_if_eq (tgt := 1153) hx hb d_La_law_1142 (by decide) (fun c663 => ?_) (fun c663 => ?_)
                                    · have h := h0 c663
                                      exact l_La_law_1153 C0 hl0 hq hXs hbl hbA hAf  (by omega) (by omega) h hW hS (lv_sub hl [] rfl)
                                    · have h := h1 c663
                                      refine lv_dload hx hb d_La_law_1145 (lv_at hl 0 rfl) ?_
                                      refine lv_dload hx hb d_La_law_1147 (lv_at hl 0 rfl) ?_
                                      refine lv_dcmp hx hb d_La_law_1149 ?_
                                      obtain ⟨h0, h1⟩ := h
                                      refine lv_if_ne (tgt := 1155) hx hb d_La_law_1150 (by decide) (fun c664 => ?_) (fun c664 => ?_)
                                      · have h := h0 c664
                                        exact l_La_law_1155 C0 hl0 hq hXs hbl hbA hAf hk_16 hn_16 l1b28 l2b28 l3b28 l4b28 l5b28 (by omega) (by omega) h hW hS (lv_sub hl [2, 3, 4, 5, 6, 7] rfl)
                                      · have h := h1 c664
                                        exact l_La_law_1153 C0 hl0 hq hXs hbl hbA hAf  (by omega) (by omega) h hW hS (lv_sub hl [] rfl)
                                · have h := h1 c13
                                  have n0 := lv_neT c0 (a := 0) (by decide); have n1 := lv_neT c1 (a := 1) (by decide); have n2 := lv_neT c2 (a := 2) (by decide); have n3 := lv_neT c3 (a := 3) (by decide); have n4 := lv_neT c4 (a := 4) (by decide); have n5 := lv_neT c5 (a := 5) (by decide); have n6 := lv_neT c6 (a := 6) (by decide); have n7 := lv_neT c7 (a := 7) (by decide); have n8 := lv_neT c8 (a := 8) (by decide); have n9 := lv_neT c9 (a := 9) (by decide); have n10 := lv_neT c10 (a := 10) (by decide); have n11 := lv_neT c11 (a := 11) (by decide); have n12 := lv_neT c12 (a := 12) (by decide); have n13 := lv_neT c13 (a := 13) (by decide)
                                  refine lv_tableOut (tgt := 1158) hx hb d_La_law_45 (by omega) (by decide) ?_
                                  exact l_La_law_1158 C0 hl0 hq hXs hbl hbA hAf hk_16 hn_16 l1b28 l2b28 l3b28 l4b28 l5b28 (by omega) (by omega) h hW hS (lv_sub hl [0, 1, 2, 3, 4, 5] rfl)
set_option maxHeartbeats 4000000 in
set_option maxRecDepth 200000 in
theorem l_La_law_e {p : Program} {l : Launch} {e : Env} {s : State} {m : MethodId} {b L : Nat} {xs : Nat → Int32} {below : List Frame} {meth : Method} {c : Code} {D : va_G} {ca G : Nat → Nat} {A : Nat → Prop} (C0 : hC p s m #[Value.ref b] meth c D ca G code 10 (ret) "ChannelHallLaw" A) (hl0 : l.stackTraces = false) (hq : hQ s) (hXs : va_X b L xs s s.heap) (hbl : b < s.heap.size) (hbA : ¬ A b) (hAf : ∀ q, A q → s.heap.size ≤ q) {M : hM} {H : Heap} {locs : List Loc} {ls : Array Slot} {cells slots : Nat}  (hc : cells ≤ 0) (hs : slots ≤ 0) (h : wp_La_law G ca L xs M) (hW : hw D wCl A M H) (hS : va_S A s.heap H locs) (hl : lv_has ls 10 [(0, .ref b)]) : W p l e room_1 s m #[Value.ref b] below meth c H locs cells slots (lw_Z below #[Value.ref b] s) (F0 m 0 ls []) := by
  obtain ⟨hx, hb, hr, hml, hown, hts, hlocks, hK, hA, hZ0⟩ := id C0
  obtain ⟨ws, hP, hD, hmake⟩ := hw_make hW
  refine va_new (ci := 3) (fs := [.null, .null, .int 0, .double FP.dconst0]) (C := "ChannelHall") (T := THa) (N := 4) hx hb hts uHa tHa tHa_ok hown (hts _ bw_32) (hts _ bw_33) (hts _ bw_1) hK hP hD hS hA rfl (by decide) (show _ ≤ 717084 by omega) (show _ ≤ 6944853 by omega) d_La_law_0 (fun q665 H hP hD hS => ?_)
  obtain ⟨hfr, hW⟩ := hmake _ _ _ hP hD
  replace h := h q665 hfr
  generalize va_up M q665 _ = M666 at h hW
  refine lv_dup hx hb d_La_law_3 rfl ?_
  obtain ⟨Ma668, Mb669, hd, he, h7⟩ := h
  subst he
  have h := h7
  clear h7
  have h9 := h
  clear h
  have hW1 := hw_left hW
  have hF := hW1.free hS hA
  refine va_callv (va_runI (As := []) (rest := [.ref q665]) ⟨hx, hb, hml, hown, hts⟩ (c_Ha_init _ h9) (cwI 0 hts (gi_z bw_36) rfl rfl rfl (hts _ bw_1) (hts _ bw_34) (hts _ bw_35) rfl (by decide +kernel) ⟨Nat.le_of_ble_eq_true rfl, Nat.le_of_ble_eq_true rfl⟩) ⟨hI.blind, hI.give hW1 hS hA hK hZ0⟩ rfl rfl hl.1 rfl (lv_room (Nat.le_of_ble_eq_true rfl)) d_La_law_4 ⟨(show _ ≤ 717084 by omega), (show _ ≤ 6944853 by omega)⟩) hS (fun q _ z => hF q z) hF (fun Mc670 t H locs ht _ h hB1 _ hk hS => ?_)
  obtain ⟨hd, hW⟩ := hw_join hd hW hF hk ht hB1
  replace h := h hd _ rfl
  generalize uni Mc670 Mb669 = M667 at h hW
  clear h9
  refine lv_astore_n (lv' := [(1, .ref q665), (0, .ref b)]) hx hb d_La_law_7 rfl hl (by decide) rfl (fun ls hl => ?_)
  obtain ⟨ws, hP, hD, hmake⟩ := hw_make hW
  refine va_new (ci := 5) (fs := [.int 0, .null, .null, .null, .null, .null, .null, .null, .null, .null, .null, .null, .double FP.dconst0, .null, .null, .null, .null, .null, .null, .null, .null, .null, .null, .null, .null, .null]) (C := "ChannelHallModel") (T := TMo) (N := 26) hx hb hts uMo tMo tMo_ok hown (hts _ bw_967) (hts _ bw_968) (hts _ bw_5) hK hP hD hS hA rfl (by decide) (show _ ≤ 717084 by omega) (show _ ≤ 6944853 by omega) d_La_law_8 (fun q671 H hP hD hS => ?_)
  obtain ⟨hfr, hW⟩ := hmake _ _ _ hP hD
  replace h := h q671 hfr
  generalize va_up M667 q671 _ = M672 at h hW
  refine lv_dup hx hb d_La_law_11 rfl ?_
  obtain ⟨Ma674, Mb675, hd, he, h7⟩ := h
  subst he
  have h := h7
  clear h7
  have h9 := h
  clear h
  have hW1 := hw_left hW
  have hF := hW1.free hS hA
  refine va_callv (va_runI (As := []) (rest := [.ref q671]) ⟨hx, hb, hml, hown, hts⟩ (c_Mo_init _ h9) (cwI 0 hts (gi_z bw_971) rfl rfl rfl (hts _ bw_5) (hts _ bw_969) (hts _ bw_970) rfl (by decide +kernel) ⟨Nat.le_of_ble_eq_true rfl, Nat.le_of_ble_eq_true rfl⟩) ⟨hI.blind, hI.give hW1 hS hA hK hZ0⟩ rfl rfl hl.1 rfl (lv_room (Nat.le_of_ble_eq_true rfl)) d_La_law_12 ⟨(show _ ≤ 717084 by omega), (show _ ≤ 6944853 by omega)⟩) hS (fun q _ z => hF q z) hF (fun Mc676 t H locs ht _ h hB1 _ hk hS => ?_)
  obtain ⟨hd, hW⟩ := hw_join hd hW hF hk ht hB1
  replace h := h hd _ rfl
  generalize uni Mc676 Mb675 = M673 at h hW
  clear h9
  refine lv_astore_n (lv' := [(2, .ref q671), (1, .ref q665), (0, .ref b)]) hx hb d_La_law_15 rfl hl (by decide) rfl (fun ls hl => ?_)
  refine lv_iconst (v := 1) hx hb d_La_law_16 (by decide) ?_
  have h9 := h
  clear h
  refine hq_newa 3 1 (atype := .long) (ty := .long) (fun N => (N, .inr (.inl (fun _ => 0)))) hx hb (hts _ bw_1191) rfl (fun _ => rfl) hK hW hS hA (fun _ _ => rfl) h9 rfl (by decide) (by decide) (show _ ≤ 717084 by omega) (show _ ≤ 6944853 by omega) d_La_law_17 (fun q677 M678 H h hW hS => ?_)
  clear h9
  refine lv_astore_n (lv' := [(3, .ref q677), (2, .ref q671), (1, .ref q665), (0, .ref b)]) hx hb d_La_law_19 rfl hl (by decide) rfl (fun ls hl => ?_)
  refine lv_iconst (v := 1) hx hb d_La_law_20 (by decide) ?_
  have h9 := h
  clear h
  refine hq_newa 4 1 (atype := .double) (ty := .double) (fun N => (N, .inr (.inr (.inr (.inl (fun _ => FP.dconst0)))))) hx hb (hts _ bw_1055) rfl (fun _ => rfl) hK hW hS hA (fun _ _ => rfl) h9 rfl (by decide) (by decide) (show _ ≤ 717084 by omega) (show _ ≤ 6944853 by omega) d_La_law_21 (fun q679 M680 H h hW hS => ?_)
  clear h9
  refine lv_astore (lv' := [(4, .ref q679), (3, .ref q677), (2, .ref q671), (1, .ref q665), (0, .ref b)]) hx hb d_La_law_23 hl (by decide) rfl (fun ls hl => ?_)
  refine lv_iconst (v := 0) hx hb d_La_law_25 (by decide) ?_
  refine lv_istore (lv' := [(5, .int 0), (4, .ref q679), (3, .ref q677), (2, .ref q671), (1, .ref q665), (0, .ref b)]) hx hb d_La_law_26 hl (by decide) rfl (fun ls hl => ?_)
  obtain ⟨n, hn0, h⟩ := h
  exact l_La_law_28 C0 hl0 hq hXs hbl hbA hAf n q665 q671 q677 q679 0 (by omega) (by omega) h hW hS (lv_sub hl [5, 4, 3, 2, 1, 0] rfl)
