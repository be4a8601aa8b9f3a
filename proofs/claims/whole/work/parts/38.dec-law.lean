/-! decode rows of law -/
theorem d_La_law_0 : decode b_La_law 0 = .ok (.new 8, 3) := by decide +kernel
theorem d_La_law_3 : decode b_La_law 3 = .ok (.dup, 1) := by decide +kernel
theorem d_La_law_4 : decode b_La_law 4 = .ok (.invokespecial 72, 3) := by decide +kernel
theorem d_La_law_7 : decode b_La_law 7 = .ok (.astore_n 1, 1) := by decide +kernel
theorem d_La_law_8 : decode b_La_law 8 = .ok (.new 73, 3) := by decide +kernel
theorem d_La_law_11 : decode b_La_law 11 = .ok (.dup, 1) := by decide +kernel
theorem d_La_law_12 : decode b_La_law 12 = .ok (.invokespecial 75, 3) := by decide +kernel
theorem d_La_law_15 : decode b_La_law 15 = .ok (.astore_n 2, 1) := by decide +kernel
theorem d_La_law_16 : decode b_La_law 16 = .ok (.iconst 1, 1) := by decide +kernel
theorem d_La_law_17 : decode b_La_law 17 = .ok (.newarray .long, 2) := by decide +kernel
theorem d_La_law_19 : decode b_La_law 19 = .ok (.astore_n 3, 1) := by decide +kernel
theorem d_La_law_20 : decode b_La_law 20 = .ok (.iconst 0, 1) := by decide +kernel
theorem d_La_law_21 : decode b_La_law 21 = .ok (.istore 4, 2) := by decide +kernel
theorem d_La_law_23 : decode b_La_law 23 = .ok (.iload 4, 2) := by decide +kernel
theorem d_La_law_25 : decode b_La_law 25 = .ok (.aload_n 0, 1) := by decide +kernel
theorem d_La_law_26 : decode b_La_law 26 = .ok (.arraylength, 1) := by decide +kernel
theorem d_La_law_27 : decode b_La_law 27 = .ok (.iconst 5, 1) := by decide +kernel
theorem d_La_law_28 : decode b_La_law 28 = .ok (.isub, 1) := by decide +kernel
theorem d_La_law_29 : decode b_La_law 29 = .ok (.if_icmp .gt 1107, 3) := by decide +kernel
theorem d_La_law_32 : decode b_La_law 32 = .ok (.aload_n 0, 1) := by decide +kernel
theorem d_La_law_33 : decode b_La_law 33 = .ok (.iload 4, 2) := by decide +kernel
theorem d_La_law_35 : decode b_La_law 35 = .ok (.iaload, 1) := by decide +kernel
theorem d_La_law_36 : decode b_La_law 36 = .ok (.bipush 15, 2) := by decide +kernel
theorem d_La_law_38 : decode b_La_law 38 = .ok (.iand, 1) := by decide +kernel
theorem d_La_law_39 : decode b_La_law 39 = .ok (.tableswitch 1091 0 15 #[77, 137, 185, 265, 340, 403, 478, 545, 637, 724, 811, 867, 923, 979, 1042, 1078], 77) := by decide +kernel
theorem d_La_law_116 : decode b_La_law 116 = .ok (.aload_n 1, 1) := by decide +kernel
theorem d_La_law_117 : decode b_La_law 117 = .ok (.aload_n 0, 1) := by decide +kernel
theorem d_La_law_118 : decode b_La_law 118 = .ok (.iload 4, 2) := by decide +kernel
theorem d_La_law_120 : decode b_La_law 120 = .ok (.iconst 1, 1) := by decide +kernel
theorem d_La_law_121 : decode b_La_law 121 = .ok (.iadd, 1) := by decide +kernel
theorem d_La_law_122 : decode b_La_law 122 = .ok (.iaload, 1) := by decide +kernel
theorem d_La_law_123 : decode b_La_law 123 = .ok (.aload_n 0, 1) := by decide +kernel
theorem d_La_law_124 : decode b_La_law 124 = .ok (.iload 4, 2) := by decide +kernel
theorem d_La_law_126 : decode b_La_law 126 = .ok (.iconst 2, 1) := by decide +kernel
theorem d_La_law_127 : decode b_La_law 127 = .ok (.iadd, 1) := by decide +kernel
theorem d_La_law_128 : decode b_La_law 128 = .ok (.iaload, 1) := by decide +kernel
theorem d_La_law_129 : decode b_La_law 129 = .ok (.aload_n 0, 1) := by decide +kernel
theorem d_La_law_130 : decode b_La_law 130 = .ok (.iload 4, 2) := by decide +kernel
theorem d_La_law_132 : decode b_La_law 132 = .ok (.iconst 3, 1) := by decide +kernel
theorem d_La_law_133 : decode b_La_law 133 = .ok (.iadd, 1) := by decide +kernel
theorem d_La_law_134 : decode b_La_law 134 = .ok (.iaload, 1) := by decide +kernel
theorem d_La_law_135 : decode b_La_law 135 = .ok (.invokestatic 76, 3) := by decide +kernel
theorem d_La_law_138 : decode b_La_law 138 = .ok (.istore 5, 2) := by decide +kernel
theorem d_La_law_140 : decode b_La_law 140 = .ok (.aload_n 2, 1) := by decide +kernel
theorem d_La_law_141 : decode b_La_law 141 = .ok (.aload_n 0, 1) := by decide +kernel
theorem d_La_law_142 : decode b_La_law 142 = .ok (.iload 4, 2) := by decide +kernel
theorem d_La_law_144 : decode b_La_law 144 = .ok (.iconst 1, 1) := by decide +kernel
theorem d_La_law_145 : decode b_La_law 145 = .ok (.iadd, 1) := by decide +kernel
theorem d_La_law_146 : decode b_La_law 146 = .ok (.iaload, 1) := by decide +kernel
theorem d_La_law_147 : decode b_La_law 147 = .ok (.aload_n 0, 1) := by decide +kernel
theorem d_La_law_148 : decode b_La_law 148 = .ok (.iload 4, 2) := by decide +kernel
theorem d_La_law_150 : decode b_La_law 150 = .ok (.iconst 2, 1) := by decide +kernel
theorem d_La_law_151 : decode b_La_law 151 = .ok (.iadd, 1) := by decide +kernel
theorem d_La_law_152 : decode b_La_law 152 = .ok (.iaload, 1) := by decide +kernel
theorem d_La_law_153 : decode b_La_law 153 = .ok (.aload_n 0, 1) := by decide +kernel
theorem d_La_law_154 : decode b_La_law 154 = .ok (.iload 4, 2) := by decide +kernel
theorem d_La_law_156 : decode b_La_law 156 = .ok (.iconst 3, 1) := by decide +kernel
theorem d_La_law_157 : decode b_La_law 157 = .ok (.iadd, 1) := by decide +kernel
theorem d_La_law_158 : decode b_La_law 158 = .ok (.iaload, 1) := by decide +kernel
theorem d_La_law_159 : decode b_La_law 159 = .ok (.invokevirtual 81, 3) := by decide +kernel
theorem d_La_law_162 : decode b_La_law 162 = .ok (.aload_n 2, 1) := by decide +kernel
theorem d_La_law_163 : decode b_La_law 163 = .ok (.invokevirtual 82, 3) := by decide +kernel
theorem d_La_law_166 : decode b_La_law 166 = .ok (.iload 5, 2) := by decide +kernel
theorem d_La_law_168 : decode b_La_law 168 = .ok (.if_icmp .eq 5, 3) := by decide +kernel
theorem d_La_law_171 : decode b_La_law 171 = .ok (.iconst 0, 1) := by decide +kernel
theorem d_La_law_172 : decode b_La_law 172 = .ok (.ireturn, 1) := by decide +kernel
theorem d_La_law_173 : decode b_La_law 173 = .ok (.goto 957, 3) := by decide +kernel
theorem d_La_law_176 : decode b_La_law 176 = .ok (.aload_n 1, 1) := by decide +kernel
theorem d_La_law_177 : decode b_La_law 177 = .ok (.aload_n 0, 1) := by decide +kernel
theorem d_La_law_178 : decode b_La_law 178 = .ok (.iload 4, 2) := by decide +kernel
theorem d_La_law_180 : decode b_La_law 180 = .ok (.iconst 1, 1) := by decide +kernel
theorem d_La_law_181 : decode b_La_law 181 = .ok (.iadd, 1) := by decide +kernel
theorem d_La_law_182 : decode b_La_law 182 = .ok (.iaload, 1) := by decide +kernel
theorem d_La_law_183 : decode b_La_law 183 = .ok (.aload_n 0, 1) := by decide +kernel
theorem d_La_law_184 : decode b_La_law 184 = .ok (.iload 4, 2) := by decide +kernel
theorem d_La_law_186 : decode b_La_law 186 = .ok (.iconst 2, 1) := by decide +kernel
theorem d_La_law_187 : decode b_La_law 187 = .ok (.iadd, 1) := by decide +kernel
theorem d_La_law_188 : decode b_La_law 188 = .ok (.iaload, 1) := by decide +kernel
theorem d_La_law_189 : decode b_La_law 189 = .ok (.invokestatic 86, 3) := by decide +kernel
theorem d_La_law_192 : decode b_La_law 192 = .ok (.istore 5, 2) := by decide +kernel
theorem d_La_law_194 : decode b_La_law 194 = .ok (.aload_n 2, 1) := by decide +kernel
theorem d_La_law_195 : decode b_La_law 195 = .ok (.aload_n 0, 1) := by decide +kernel
theorem d_La_law_196 : decode b_La_law 196 = .ok (.iload 4, 2) := by decide +kernel
theorem d_La_law_198 : decode b_La_law 198 = .ok (.iconst 1, 1) := by decide +kernel
theorem d_La_law_199 : decode b_La_law 199 = .ok (.iadd, 1) := by decide +kernel
theorem d_La_law_200 : decode b_La_law 200 = .ok (.iaload, 1) := by decide +kernel
theorem d_La_law_201 : decode b_La_law 201 = .ok (.aload_n 0, 1) := by decide +kernel
theorem d_La_law_202 : decode b_La_law 202 = .ok (.iload 4, 2) := by decide +kernel
theorem d_La_law_204 : decode b_La_law 204 = .ok (.iconst 2, 1) := by decide +kernel
theorem d_La_law_205 : decode b_La_law 205 = .ok (.iadd, 1) := by decide +kernel
theorem d_La_law_206 : decode b_La_law 206 = .ok (.iaload, 1) := by decide +kernel
theorem d_La_law_207 : decode b_La_law 207 = .ok (.invokevirtual 89, 3) := by decide +kernel
theorem d_La_law_210 : decode b_La_law 210 = .ok (.aload_n 2, 1) := by decide +kernel
theorem d_La_law_211 : decode b_La_law 211 = .ok (.invokevirtual 82, 3) := by decide +kernel
theorem d_La_law_214 : decode b_La_law 214 = .ok (.iload 5, 2) := by decide +kernel
theorem d_La_law_216 : decode b_La_law 216 = .ok (.if_icmp .eq 5, 3) := by decide +kernel
theorem d_La_law_219 : decode b_La_law 219 = .ok (.iconst 0, 1) := by decide +kernel
theorem d_La_law_220 : decode b_La_law 220 = .ok (.ireturn, 1) := by decide +kernel
theorem d_La_law_221 : decode b_La_law 221 = .ok (.goto 909, 3) := by decide +kernel
theorem d_La_law_224 : decode b_La_law 224 = .ok (.aload_n 1, 1) := by decide +kernel
theorem d_La_law_225 : decode b_La_law 225 = .ok (.aload_n 0, 1) := by decide +kernel
theorem d_La_law_226 : decode b_La_law 226 = .ok (.iload 4, 2) := by decide +kernel
theorem d_La_law_228 : decode b_La_law 228 = .ok (.iconst 1, 1) := by decide +kernel
theorem d_La_law_229 : decode b_La_law 229 = .ok (.iadd, 1) := by decide +kernel
theorem d_La_law_230 : decode b_La_law 230 = .ok (.iaload, 1) := by decide +kernel
theorem d_La_law_231 : decode b_La_law 231 = .ok (.aload_n 0, 1) := by decide +kernel
theorem d_La_law_232 : decode b_La_law 232 = .ok (.iload 4, 2) := by decide +kernel
theorem d_La_law_234 : decode b_La_law 234 = .ok (.iconst 2, 1) := by decide +kernel
theorem d_La_law_235 : decode b_La_law 235 = .ok (.iadd, 1) := by decide +kernel
theorem d_La_law_236 : decode b_La_law 236 = .ok (.iaload, 1) := by decide +kernel
theorem d_La_law_237 : decode b_La_law 237 = .ok (.aload_n 0, 1) := by decide +kernel
theorem d_La_law_238 : decode b_La_law 238 = .ok (.iload 4, 2) := by decide +kernel
theorem d_La_law_240 : decode b_La_law 240 = .ok (.iconst 3, 1) := by decide +kernel
theorem d_La_law_241 : decode b_La_law 241 = .ok (.iadd, 1) := by decide +kernel
theorem d_La_law_242 : decode b_La_law 242 = .ok (.iaload, 1) := by decide +kernel
theorem d_La_law_243 : decode b_La_law 243 = .ok (.aload_n 3, 1) := by decide +kernel
theorem d_La_law_244 : decode b_La_law 244 = .ok (.invokestatic 90, 3) := by decide +kernel
theorem d_La_law_247 : decode b_La_law 247 = .ok (.istore 5, 2) := by decide +kernel
theorem d_La_law_249 : decode b_La_law 249 = .ok (.aload_n 2, 1) := by decide +kernel
theorem d_La_law_250 : decode b_La_law 250 = .ok (.aload_n 0, 1) := by decide +kernel
theorem d_La_law_251 : decode b_La_law 251 = .ok (.iload 4, 2) := by decide +kernel
theorem d_La_law_253 : decode b_La_law 253 = .ok (.iconst 1, 1) := by decide +kernel
theorem d_La_law_254 : decode b_La_law 254 = .ok (.iadd, 1) := by decide +kernel
theorem d_La_law_255 : decode b_La_law 255 = .ok (.iaload, 1) := by decide +kernel
theorem d_La_law_256 : decode b_La_law 256 = .ok (.aload_n 0, 1) := by decide +kernel
theorem d_La_law_257 : decode b_La_law 257 = .ok (.iload 4, 2) := by decide +kernel
theorem d_La_law_259 : decode b_La_law 259 = .ok (.iconst 2, 1) := by decide +kernel
theorem d_La_law_260 : decode b_La_law 260 = .ok (.iadd, 1) := by decide +kernel
theorem d_La_law_261 : decode b_La_law 261 = .ok (.iaload, 1) := by decide +kernel
theorem d_La_law_262 : decode b_La_law 262 = .ok (.aload_n 0, 1) := by decide +kernel
theorem d_La_law_263 : decode b_La_law 263 = .ok (.iload 4, 2) := by decide +kernel
theorem d_La_law_265 : decode b_La_law 265 = .ok (.iconst 3, 1) := by decide +kernel
theorem d_La_law_266 : decode b_La_law 266 = .ok (.iadd, 1) := by decide +kernel
theorem d_La_law_267 : decode b_La_law 267 = .ok (.iaload, 1) := by decide +kernel
theorem d_La_law_268 : decode b_La_law 268 = .ok (.invokevirtual 93, 3) := by decide +kernel
theorem d_La_law_271 : decode b_La_law 271 = .ok (.istore 6, 2) := by decide +kernel
theorem d_La_law_273 : decode b_La_law 273 = .ok (.aload_n 2, 1) := by decide +kernel
theorem d_La_law_274 : decode b_La_law 274 = .ok (.invokevirtual 82, 3) := by decide +kernel
theorem d_La_law_277 : decode b_La_law 277 = .ok (.iload 5, 2) := by decide +kernel
theorem d_La_law_279 : decode b_La_law 279 = .ok (.if_icmp .eq 5, 3) := by decide +kernel
theorem d_La_law_282 : decode b_La_law 282 = .ok (.iconst 0, 1) := by decide +kernel
theorem d_La_law_283 : decode b_La_law 283 = .ok (.ireturn, 1) := by decide +kernel
theorem d_La_law_284 : decode b_La_law 284 = .ok (.iload 5, 2) := by decide +kernel
theorem d_La_law_286 : decode b_La_law 286 = .ok (.ifCond .ne 15, 3) := by decide +kernel
theorem d_La_law_289 : decode b_La_law 289 = .ok (.aload_n 3, 1) := by decide +kernel
theorem d_La_law_290 : decode b_La_law 290 = .ok (.iconst 0, 1) := by decide +kernel
theorem d_La_law_291 : decode b_La_law 291 = .ok (.laload, 1) := by decide +kernel
theorem d_La_law_292 : decode b_La_law 292 = .ok (.iload 6, 2) := by decide +kernel
theorem d_La_law_294 : decode b_La_law 294 = .ok (.i2l, 1) := by decide +kernel
theorem d_La_law_295 : decode b_La_law 295 = .ok (.lcmp, 1) := by decide +kernel
theorem d_La_law_296 : decode b_La_law 296 = .ok (.ifCond .eq 5, 3) := by decide +kernel
theorem d_La_law_299 : decode b_La_law 299 = .ok (.iconst 0, 1) := by decide +kernel
theorem d_La_law_300 : decode b_La_law 300 = .ok (.ireturn, 1) := by decide +kernel
theorem d_La_law_301 : decode b_La_law 301 = .ok (.goto 829, 3) := by decide +kernel
theorem d_La_law_304 : decode b_La_law 304 = .ok (.aload_n 1, 1) := by decide +kernel
theorem d_La_law_305 : decode b_La_law 305 = .ok (.aload_n 0, 1) := by decide +kernel
theorem d_La_law_306 : decode b_La_law 306 = .ok (.iload 4, 2) := by decide +kernel
theorem d_La_law_308 : decode b_La_law 308 = .ok (.iconst 1, 1) := by decide +kernel
theorem d_La_law_309 : decode b_La_law 309 = .ok (.iadd, 1) := by decide +kernel
theorem d_La_law_310 : decode b_La_law 310 = .ok (.iaload, 1) := by decide +kernel
theorem d_La_law_311 : decode b_La_law 311 = .ok (.aload_n 0, 1) := by decide +kernel
theorem d_La_law_312 : decode b_La_law 312 = .ok (.iload 4, 2) := by decide +kernel
theorem d_La_law_314 : decode b_La_law 314 = .ok (.iconst 2, 1) := by decide +kernel
theorem d_La_law_315 : decode b_La_law 315 = .ok (.iadd, 1) := by decide +kernel
theorem d_La_law_316 : decode b_La_law 316 = .ok (.iaload, 1) := by decide +kernel
theorem d_La_law_317 : decode b_La_law 317 = .ok (.aload_n 3, 1) := by decide +kernel
theorem d_La_law_318 : decode b_La_law 318 = .ok (.invokestatic 94, 3) := by decide +kernel
theorem d_La_law_321 : decode b_La_law 321 = .ok (.istore 5, 2) := by decide +kernel
theorem d_La_law_323 : decode b_La_law 323 = .ok (.aload_n 2, 1) := by decide +kernel
theorem d_La_law_324 : decode b_La_law 324 = .ok (.aload_n 0, 1) := by decide +kernel
theorem d_La_law_325 : decode b_La_law 325 = .ok (.iload 4, 2) := by decide +kernel
theorem d_La_law_327 : decode b_La_law 327 = .ok (.iconst 1, 1) := by decide +kernel
theorem d_La_law_328 : decode b_La_law 328 = .ok (.iadd, 1) := by decide +kernel
theorem d_La_law_329 : decode b_La_law 329 = .ok (.iaload, 1) := by decide +kernel
theorem d_La_law_330 : decode b_La_law 330 = .ok (.aload_n 0, 1) := by decide +kernel
theorem d_La_law_331 : decode b_La_law 331 = .ok (.iload 4, 2) := by decide +kernel
theorem d_La_law_333 : decode b_La_law 333 = .ok (.iconst 2, 1) := by decide +kernel
theorem d_La_law_334 : decode b_La_law 334 = .ok (.iadd, 1) := by decide +kernel
theorem d_La_law_335 : decode b_La_law 335 = .ok (.iaload, 1) := by decide +kernel
theorem d_La_law_336 : decode b_La_law 336 = .ok (.invokevirtual 97, 3) := by decide +kernel
theorem d_La_law_339 : decode b_La_law 339 = .ok (.istore 6, 2) := by decide +kernel
theorem d_La_law_341 : decode b_La_law 341 = .ok (.aload_n 2, 1) := by decide +kernel
theorem d_La_law_342 : decode b_La_law 342 = .ok (.invokevirtual 82, 3) := by decide +kernel
theorem d_La_law_345 : decode b_La_law 345 = .ok (.iload 5, 2) := by decide +kernel
theorem d_La_law_347 : decode b_La_law 347 = .ok (.if_icmp .eq 5, 3) := by decide +kernel
theorem d_La_law_350 : decode b_La_law 350 = .ok (.iconst 0, 1) := by decide +kernel
theorem d_La_law_351 : decode b_La_law 351 = .ok (.ireturn, 1) := by decide +kernel
theorem d_La_law_352 : decode b_La_law 352 = .ok (.iload 5, 2) := by decide +kernel
theorem d_La_law_354 : decode b_La_law 354 = .ok (.ifCond .ne 22, 3) := by decide +kernel
theorem d_La_law_357 : decode b_La_law 357 = .ok (.aload_n 3, 1) := by decide +kernel
theorem d_La_law_358 : decode b_La_law 358 = .ok (.iconst 0, 1) := by decide +kernel
theorem d_La_law_359 : decode b_La_law 359 = .ok (.laload, 1) := by decide +kernel
theorem d_La_law_360 : decode b_La_law 360 = .ok (.iload 6, 2) := by decide +kernel
theorem d_La_law_362 : decode b_La_law 362 = .ok (.ifCond .eq 7, 3) := by decide +kernel
theorem d_La_law_365 : decode b_La_law 365 = .ok (.lconst 1, 1) := by decide +kernel
theorem d_La_law_366 : decode b_La_law 366 = .ok (.goto 4, 3) := by decide +kernel
theorem d_La_law_369 : decode b_La_law 369 = .ok (.lconst 0, 1) := by decide +kernel
theorem d_La_law_370 : decode b_La_law 370 = .ok (.lcmp, 1) := by decide +kernel
theorem d_La_law_371 : decode b_La_law 371 = .ok (.ifCond .eq 5, 3) := by decide +kernel
theorem d_La_law_374 : decode b_La_law 374 = .ok (.iconst 0, 1) := by decide +kernel
theorem d_La_law_375 : decode b_La_law 375 = .ok (.ireturn, 1) := by decide +kernel
theorem d_La_law_376 : decode b_La_law 376 = .ok (.goto 754, 3) := by decide +kernel
theorem d_La_law_379 : decode b_La_law 379 = .ok (.aload_n 1, 1) := by decide +kernel
theorem d_La_law_380 : decode b_La_law 380 = .ok (.aload_n 0, 1) := by decide +kernel
theorem d_La_law_381 : decode b_La_law 381 = .ok (.iload 4, 2) := by decide +kernel
theorem d_La_law_383 : decode b_La_law 383 = .ok (.iconst 1, 1) := by decide +kernel
theorem d_La_law_384 : decode b_La_law 384 = .ok (.iadd, 1) := by decide +kernel
theorem d_La_law_385 : decode b_La_law 385 = .ok (.iaload, 1) := by decide +kernel
theorem d_La_law_386 : decode b_La_law 386 = .ok (.aload_n 3, 1) := by decide +kernel
theorem d_La_law_387 : decode b_La_law 387 = .ok (.invokestatic 98, 3) := by decide +kernel
theorem d_La_law_390 : decode b_La_law 390 = .ok (.istore 5, 2) := by decide +kernel
theorem d_La_law_392 : decode b_La_law 392 = .ok (.aload_n 2, 1) := by decide +kernel
theorem d_La_law_393 : decode b_La_law 393 = .ok (.aload_n 0, 1) := by decide +kernel
theorem d_La_law_394 : decode b_La_law 394 = .ok (.iload 4, 2) := by decide +kernel
theorem d_La_law_396 : decode b_La_law 396 = .ok (.iconst 1, 1) := by decide +kernel
theorem d_La_law_397 : decode b_La_law 397 = .ok (.iadd, 1) := by decide +kernel
theorem d_La_law_398 : decode b_La_law 398 = .ok (.iaload, 1) := by decide +kernel
theorem d_La_law_399 : decode b_La_law 399 = .ok (.invokevirtual 101, 3) := by decide +kernel
theorem d_La_law_402 : decode b_La_law 402 = .ok (.istore 6, 2) := by decide +kernel
theorem d_La_law_404 : decode b_La_law 404 = .ok (.aload_n 2, 1) := by decide +kernel
theorem d_La_law_405 : decode b_La_law 405 = .ok (.invokevirtual 82, 3) := by decide +kernel
theorem d_La_law_408 : decode b_La_law 408 = .ok (.iload 5, 2) := by decide +kernel
theorem d_La_law_410 : decode b_La_law 410 = .ok (.if_icmp .eq 5, 3) := by decide +kernel
theorem d_La_law_413 : decode b_La_law 413 = .ok (.iconst 0, 1) := by decide +kernel
theorem d_La_law_414 : decode b_La_law 414 = .ok (.ireturn, 1) := by decide +kernel
theorem d_La_law_415 : decode b_La_law 415 = .ok (.iload 5, 2) := by decide +kernel
theorem d_La_law_417 : decode b_La_law 417 = .ok (.ifCond .ne 22, 3) := by decide +kernel
theorem d_La_law_420 : decode b_La_law 420 = .ok (.aload_n 3, 1) := by decide +kernel
theorem d_La_law_421 : decode b_La_law 421 = .ok (.iconst 0, 1) := by decide +kernel
theorem d_La_law_422 : decode b_La_law 422 = .ok (.laload, 1) := by decide +kernel
theorem d_La_law_423 : decode b_La_law 423 = .ok (.iload 6, 2) := by decide +kernel
theorem d_La_law_425 : decode b_La_law 425 = .ok (.ifCond .eq 7, 3) := by decide +kernel
theorem d_La_law_428 : decode b_La_law 428 = .ok (.lconst 1, 1) := by decide +kernel
theorem d_La_law_429 : decode b_La_law 429 = .ok (.goto 4, 3) := by decide +kernel
theorem d_La_law_432 : decode b_La_law 432 = .ok (.lconst 0, 1) := by decide +kernel
theorem d_La_law_433 : decode b_La_law 433 = .ok (.lcmp, 1) := by decide +kernel
theorem d_La_law_434 : decode b_La_law 434 = .ok (.ifCond .eq 5, 3) := by decide +kernel
theorem d_La_law_437 : decode b_La_law 437 = .ok (.iconst 0, 1) := by decide +kernel
theorem d_La_law_438 : decode b_La_law 438 = .ok (.ireturn, 1) := by decide +kernel
theorem d_La_law_439 : decode b_La_law 439 = .ok (.goto 691, 3) := by decide +kernel
theorem d_La_law_442 : decode b_La_law 442 = .ok (.aload_n 1, 1) := by decide +kernel
theorem d_La_law_443 : decode b_La_law 443 = .ok (.aload_n 0, 1) := by decide +kernel
theorem d_La_law_444 : decode b_La_law 444 = .ok (.iload 4, 2) := by decide +kernel
theorem d_La_law_446 : decode b_La_law 446 = .ok (.iconst 1, 1) := by decide +kernel
theorem d_La_law_447 : decode b_La_law 447 = .ok (.iadd, 1) := by decide +kernel
theorem d_La_law_448 : decode b_La_law 448 = .ok (.iaload, 1) := by decide +kernel
theorem d_La_law_449 : decode b_La_law 449 = .ok (.aload_n 0, 1) := by decide +kernel
theorem d_La_law_450 : decode b_La_law 450 = .ok (.iload 4, 2) := by decide +kernel
theorem d_La_law_452 : decode b_La_law 452 = .ok (.iconst 2, 1) := by decide +kernel
theorem d_La_law_453 : decode b_La_law 453 = .ok (.iadd, 1) := by decide +kernel
theorem d_La_law_454 : decode b_La_law 454 = .ok (.iaload, 1) := by decide +kernel
theorem d_La_law_455 : decode b_La_law 455 = .ok (.aload_n 3, 1) := by decide +kernel
theorem d_La_law_456 : decode b_La_law 456 = .ok (.invokestatic 102, 3) := by decide +kernel
theorem d_La_law_459 : decode b_La_law 459 = .ok (.istore 5, 2) := by decide +kernel
theorem d_La_law_461 : decode b_La_law 461 = .ok (.aload_n 2, 1) := by decide +kernel
theorem d_La_law_462 : decode b_La_law 462 = .ok (.aload_n 0, 1) := by decide +kernel
theorem d_La_law_463 : decode b_La_law 463 = .ok (.iload 4, 2) := by decide +kernel
theorem d_La_law_465 : decode b_La_law 465 = .ok (.iconst 1, 1) := by decide +kernel
theorem d_La_law_466 : decode b_La_law 466 = .ok (.iadd, 1) := by decide +kernel
theorem d_La_law_467 : decode b_La_law 467 = .ok (.iaload, 1) := by decide +kernel
theorem d_La_law_468 : decode b_La_law 468 = .ok (.aload_n 0, 1) := by decide +kernel
theorem d_La_law_469 : decode b_La_law 469 = .ok (.iload 4, 2) := by decide +kernel
theorem d_La_law_471 : decode b_La_law 471 = .ok (.iconst 2, 1) := by decide +kernel
theorem d_La_law_472 : decode b_La_law 472 = .ok (.iadd, 1) := by decide +kernel
theorem d_La_law_473 : decode b_La_law 473 = .ok (.iaload, 1) := by decide +kernel
theorem d_La_law_474 : decode b_La_law 474 = .ok (.invokevirtual 104, 3) := by decide +kernel
theorem d_La_law_477 : decode b_La_law 477 = .ok (.istore 6, 2) := by decide +kernel
theorem d_La_law_479 : decode b_La_law 479 = .ok (.aload_n 2, 1) := by decide +kernel
theorem d_La_law_480 : decode b_La_law 480 = .ok (.invokevirtual 82, 3) := by decide +kernel
theorem d_La_law_483 : decode b_La_law 483 = .ok (.iload 5, 2) := by decide +kernel
theorem d_La_law_485 : decode b_La_law 485 = .ok (.if_icmp .eq 5, 3) := by decide +kernel
theorem d_La_law_488 : decode b_La_law 488 = .ok (.iconst 0, 1) := by decide +kernel
theorem d_La_law_489 : decode b_La_law 489 = .ok (.ireturn, 1) := by decide +kernel
theorem d_La_law_490 : decode b_La_law 490 = .ok (.iload 5, 2) := by decide +kernel
theorem d_La_law_492 : decode b_La_law 492 = .ok (.ifCond .ne 22, 3) := by decide +kernel
theorem d_La_law_495 : decode b_La_law 495 = .ok (.aload_n 3, 1) := by decide +kernel
theorem d_La_law_496 : decode b_La_law 496 = .ok (.iconst 0, 1) := by decide +kernel
theorem d_La_law_497 : decode b_La_law 497 = .ok (.laload, 1) := by decide +kernel
theorem d_La_law_498 : decode b_La_law 498 = .ok (.iload 6, 2) := by decide +kernel
theorem d_La_law_500 : decode b_La_law 500 = .ok (.ifCond .eq 7, 3) := by decide +kernel
theorem d_La_law_503 : decode b_La_law 503 = .ok (.lconst 1, 1) := by decide +kernel
theorem d_La_law_504 : decode b_La_law 504 = .ok (.goto 4, 3) := by decide +kernel
theorem d_La_law_507 : decode b_La_law 507 = .ok (.lconst 0, 1) := by decide +kernel
theorem d_La_law_508 : decode b_La_law 508 = .ok (.lcmp, 1) := by decide +kernel
theorem d_La_law_509 : decode b_La_law 509 = .ok (.ifCond .eq 5, 3) := by decide +kernel
theorem d_La_law_512 : decode b_La_law 512 = .ok (.iconst 0, 1) := by decide +kernel
theorem d_La_law_513 : decode b_La_law 513 = .ok (.ireturn, 1) := by decide +kernel
theorem d_La_law_514 : decode b_La_law 514 = .ok (.goto 616, 3) := by decide +kernel
theorem d_La_law_517 : decode b_La_law 517 = .ok (.aload_n 1, 1) := by decide +kernel
theorem d_La_law_518 : decode b_La_law 518 = .ok (.aload_n 0, 1) := by decide +kernel
theorem d_La_law_519 : decode b_La_law 519 = .ok (.iload 4, 2) := by decide +kernel
theorem d_La_law_521 : decode b_La_law 521 = .ok (.iconst 1, 1) := by decide +kernel
theorem d_La_law_522 : decode b_La_law 522 = .ok (.iadd, 1) := by decide +kernel
theorem d_La_law_523 : decode b_La_law 523 = .ok (.iaload, 1) := by decide +kernel
theorem d_La_law_524 : decode b_La_law 524 = .ok (.aload_n 0, 1) := by decide +kernel
theorem d_La_law_525 : decode b_La_law 525 = .ok (.iload 4, 2) := by decide +kernel
theorem d_La_law_527 : decode b_La_law 527 = .ok (.iconst 2, 1) := by decide +kernel
theorem d_La_law_528 : decode b_La_law 528 = .ok (.iadd, 1) := by decide +kernel
theorem d_La_law_529 : decode b_La_law 529 = .ok (.iaload, 1) := by decide +kernel
theorem d_La_law_530 : decode b_La_law 530 = .ok (.aload_n 3, 1) := by decide +kernel
theorem d_La_law_531 : decode b_La_law 531 = .ok (.invokestatic 105, 3) := by decide +kernel
theorem d_La_law_534 : decode b_La_law 534 = .ok (.istore 5, 2) := by decide +kernel
theorem d_La_law_536 : decode b_La_law 536 = .ok (.aload_n 2, 1) := by decide +kernel
theorem d_La_law_537 : decode b_La_law 537 = .ok (.aload_n 0, 1) := by decide +kernel
theorem d_La_law_538 : decode b_La_law 538 = .ok (.iload 4, 2) := by decide +kernel
theorem d_La_law_540 : decode b_La_law 540 = .ok (.iconst 1, 1) := by decide +kernel
theorem d_La_law_541 : decode b_La_law 541 = .ok (.iadd, 1) := by decide +kernel
theorem d_La_law_542 : decode b_La_law 542 = .ok (.iaload, 1) := by decide +kernel
theorem d_La_law_543 : decode b_La_law 543 = .ok (.aload_n 0, 1) := by decide +kernel
theorem d_La_law_544 : decode b_La_law 544 = .ok (.iload 4, 2) := by decide +kernel
theorem d_La_law_546 : decode b_La_law 546 = .ok (.iconst 2, 1) := by decide +kernel
theorem d_La_law_547 : decode b_La_law 547 = .ok (.iadd, 1) := by decide +kernel
theorem d_La_law_548 : decode b_La_law 548 = .ok (.iaload, 1) := by decide +kernel
theorem d_La_law_549 : decode b_La_law 549 = .ok (.invokevirtual 107, 3) := by decide +kernel
theorem d_La_law_552 : decode b_La_law 552 = .ok (.lstore 6, 2) := by decide +kernel
theorem d_La_law_554 : decode b_La_law 554 = .ok (.aload_n 2, 1) := by decide +kernel
theorem d_La_law_555 : decode b_La_law 555 = .ok (.invokevirtual 82, 3) := by decide +kernel
theorem d_La_law_558 : decode b_La_law 558 = .ok (.iload 5, 2) := by decide +kernel
theorem d_La_law_560 : decode b_La_law 560 = .ok (.if_icmp .eq 5, 3) := by decide +kernel
theorem d_La_law_563 : decode b_La_law 563 = .ok (.iconst 0, 1) := by decide +kernel
theorem d_La_law_564 : decode b_La_law 564 = .ok (.ireturn, 1) := by decide +kernel
theorem d_La_law_565 : decode b_La_law 565 = .ok (.iload 5, 2) := by decide +kernel
theorem d_La_law_567 : decode b_La_law 567 = .ok (.ifCond .ne 14, 3) := by decide +kernel
theorem d_La_law_570 : decode b_La_law 570 = .ok (.aload_n 3, 1) := by decide +kernel
theorem d_La_law_571 : decode b_La_law 571 = .ok (.iconst 0, 1) := by decide +kernel
theorem d_La_law_572 : decode b_La_law 572 = .ok (.laload, 1) := by decide +kernel
theorem d_La_law_573 : decode b_La_law 573 = .ok (.lload 6, 2) := by decide +kernel
theorem d_La_law_575 : decode b_La_law 575 = .ok (.lcmp, 1) := by decide +kernel
theorem d_La_law_576 : decode b_La_law 576 = .ok (.ifCond .eq 5, 3) := by decide +kernel
theorem d_La_law_579 : decode b_La_law 579 = .ok (.iconst 0, 1) := by decide +kernel
theorem d_La_law_580 : decode b_La_law 580 = .ok (.ireturn, 1) := by decide +kernel
theorem d_La_law_581 : decode b_La_law 581 = .ok (.goto 549, 3) := by decide +kernel
theorem d_La_law_584 : decode b_La_law 584 = .ok (.aload_n 1, 1) := by decide +kernel
theorem d_La_law_585 : decode b_La_law 585 = .ok (.aload_n 0, 1) := by decide +kernel
theorem d_La_law_586 : decode b_La_law 586 = .ok (.iload 4, 2) := by decide +kernel
theorem d_La_law_588 : decode b_La_law 588 = .ok (.iconst 1, 1) := by decide +kernel
theorem d_La_law_589 : decode b_La_law 589 = .ok (.iadd, 1) := by decide +kernel
theorem d_La_law_590 : decode b_La_law 590 = .ok (.iaload, 1) := by decide +kernel
theorem d_La_law_591 : decode b_La_law 591 = .ok (.aload_n 0, 1) := by decide +kernel
theorem d_La_law_592 : decode b_La_law 592 = .ok (.iload 4, 2) := by decide +kernel
theorem d_La_law_594 : decode b_La_law 594 = .ok (.iconst 2, 1) := by decide +kernel
theorem d_La_law_595 : decode b_La_law 595 = .ok (.iadd, 1) := by decide +kernel
theorem d_La_law_596 : decode b_La_law 596 = .ok (.iaload, 1) := by decide +kernel
theorem d_La_law_597 : decode b_La_law 597 = .ok (.aload_n 0, 1) := by decide +kernel
theorem d_La_law_598 : decode b_La_law 598 = .ok (.iload 4, 2) := by decide +kernel
theorem d_La_law_600 : decode b_La_law 600 = .ok (.iconst 3, 1) := by decide +kernel
theorem d_La_law_601 : decode b_La_law 601 = .ok (.iadd, 1) := by decide +kernel
theorem d_La_law_602 : decode b_La_law 602 = .ok (.iaload, 1) := by decide +kernel
theorem d_La_law_603 : decode b_La_law 603 = .ok (.i2l, 1) := by decide +kernel
theorem d_La_law_604 : decode b_La_law 604 = .ok (.bipush 32, 2) := by decide +kernel
theorem d_La_law_606 : decode b_La_law 606 = .ok (.lshl, 1) := by decide +kernel
theorem d_La_law_607 : decode b_La_law 607 = .ok (.aload_n 0, 1) := by decide +kernel
theorem d_La_law_608 : decode b_La_law 608 = .ok (.iload 4, 2) := by decide +kernel
theorem d_La_law_610 : decode b_La_law 610 = .ok (.iconst 4, 1) := by decide +kernel
theorem d_La_law_611 : decode b_La_law 611 = .ok (.iadd, 1) := by decide +kernel
theorem d_La_law_612 : decode b_La_law 612 = .ok (.iaload, 1) := by decide +kernel
theorem d_La_law_613 : decode b_La_law 613 = .ok (.i2l, 1) := by decide +kernel
theorem d_La_law_614 : decode b_La_law 614 = .ok (.ldc2_w 108, 3) := by decide +kernel
theorem d_La_law_617 : decode b_La_law 617 = .ok (.land, 1) := by decide +kernel
theorem d_La_law_618 : decode b_La_law 618 = .ok (.lor, 1) := by decide +kernel
theorem d_La_law_619 : decode b_La_law 619 = .ok (.invokestatic 110, 3) := by decide +kernel
theorem d_La_law_622 : decode b_La_law 622 = .ok (.istore 5, 2) := by decide +kernel
theorem d_La_law_624 : decode b_La_law 624 = .ok (.aload_n 2, 1) := by decide +kernel
theorem d_La_law_625 : decode b_La_law 625 = .ok (.aload_n 0, 1) := by decide +kernel
theorem d_La_law_626 : decode b_La_law 626 = .ok (.iload 4, 2) := by decide +kernel
theorem d_La_law_628 : decode b_La_law 628 = .ok (.iconst 1, 1) := by decide +kernel
theorem d_La_law_629 : decode b_La_law 629 = .ok (.iadd, 1) := by decide +kernel
theorem d_La_law_630 : decode b_La_law 630 = .ok (.iaload, 1) := by decide +kernel
theorem d_La_law_631 : decode b_La_law 631 = .ok (.aload_n 0, 1) := by decide +kernel
theorem d_La_law_632 : decode b_La_law 632 = .ok (.iload 4, 2) := by decide +kernel
theorem d_La_law_634 : decode b_La_law 634 = .ok (.iconst 2, 1) := by decide +kernel
theorem d_La_law_635 : decode b_La_law 635 = .ok (.iadd, 1) := by decide +kernel
theorem d_La_law_636 : decode b_La_law 636 = .ok (.iaload, 1) := by decide +kernel
theorem d_La_law_637 : decode b_La_law 637 = .ok (.aload_n 0, 1) := by decide +kernel
theorem d_La_law_638 : decode b_La_law 638 = .ok (.iload 4, 2) := by decide +kernel
theorem d_La_law_640 : decode b_La_law 640 = .ok (.iconst 3, 1) := by decide +kernel
theorem d_La_law_641 : decode b_La_law 641 = .ok (.iadd, 1) := by decide +kernel
theorem d_La_law_642 : decode b_La_law 642 = .ok (.iaload, 1) := by decide +kernel
theorem d_La_law_643 : decode b_La_law 643 = .ok (.i2l, 1) := by decide +kernel
theorem d_La_law_644 : decode b_La_law 644 = .ok (.bipush 32, 2) := by decide +kernel
theorem d_La_law_646 : decode b_La_law 646 = .ok (.lshl, 1) := by decide +kernel
theorem d_La_law_647 : decode b_La_law 647 = .ok (.aload_n 0, 1) := by decide +kernel
theorem d_La_law_648 : decode b_La_law 648 = .ok (.iload 4, 2) := by decide +kernel
theorem d_La_law_650 : decode b_La_law 650 = .ok (.iconst 4, 1) := by decide +kernel
theorem d_La_law_651 : decode b_La_law 651 = .ok (.iadd, 1) := by decide +kernel
theorem d_La_law_652 : decode b_La_law 652 = .ok (.iaload, 1) := by decide +kernel
theorem d_La_law_653 : decode b_La_law 653 = .ok (.i2l, 1) := by decide +kernel
theorem d_La_law_654 : decode b_La_law 654 = .ok (.ldc2_w 108, 3) := by decide +kernel
theorem d_La_law_657 : decode b_La_law 657 = .ok (.land, 1) := by decide +kernel
theorem d_La_law_658 : decode b_La_law 658 = .ok (.lor, 1) := by decide +kernel
theorem d_La_law_659 : decode b_La_law 659 = .ok (.invokevirtual 113, 3) := by decide +kernel
theorem d_La_law_662 : decode b_La_law 662 = .ok (.aload_n 2, 1) := by decide +kernel
theorem d_La_law_663 : decode b_La_law 663 = .ok (.invokevirtual 82, 3) := by decide +kernel
theorem d_La_law_666 : decode b_La_law 666 = .ok (.iload 5, 2) := by decide +kernel
theorem d_La_law_668 : decode b_La_law 668 = .ok (.if_icmp .eq 5, 3) := by decide +kernel
theorem d_La_law_671 : decode b_La_law 671 = .ok (.iconst 0, 1) := by decide +kernel
theorem d_La_law_672 : decode b_La_law 672 = .ok (.ireturn, 1) := by decide +kernel
theorem d_La_law_673 : decode b_La_law 673 = .ok (.goto 457, 3) := by decide +kernel
theorem d_La_law_676 : decode b_La_law 676 = .ok (.aload_n 1, 1) := by decide +kernel
theorem d_La_law_677 : decode b_La_law 677 = .ok (.aload_n 0, 1) := by decide +kernel
theorem d_La_law_678 : decode b_La_law 678 = .ok (.iload 4, 2) := by decide +kernel
theorem d_La_law_680 : decode b_La_law 680 = .ok (.iconst 1, 1) := by decide +kernel
theorem d_La_law_681 : decode b_La_law 681 = .ok (.iadd, 1) := by decide +kernel
theorem d_La_law_682 : decode b_La_law 682 = .ok (.iaload, 1) := by decide +kernel
theorem d_La_law_683 : decode b_La_law 683 = .ok (.aload_n 0, 1) := by decide +kernel
theorem d_La_law_684 : decode b_La_law 684 = .ok (.iload 4, 2) := by decide +kernel
theorem d_La_law_686 : decode b_La_law 686 = .ok (.iconst 2, 1) := by decide +kernel
theorem d_La_law_687 : decode b_La_law 687 = .ok (.iadd, 1) := by decide +kernel
theorem d_La_law_688 : decode b_La_law 688 = .ok (.iaload, 1) := by decide +kernel
theorem d_La_law_689 : decode b_La_law 689 = .ok (.aload_n 0, 1) := by decide +kernel
theorem d_La_law_690 : decode b_La_law 690 = .ok (.iload 4, 2) := by decide +kernel
theorem d_La_law_692 : decode b_La_law 692 = .ok (.iconst 3, 1) := by decide +kernel
theorem d_La_law_693 : decode b_La_law 693 = .ok (.iadd, 1) := by decide +kernel
theorem d_La_law_694 : decode b_La_law 694 = .ok (.iaload, 1) := by decide +kernel
theorem d_La_law_695 : decode b_La_law 695 = .ok (.aload_n 3, 1) := by decide +kernel
theorem d_La_law_696 : decode b_La_law 696 = .ok (.invokestatic 114, 3) := by decide +kernel
theorem d_La_law_699 : decode b_La_law 699 = .ok (.istore 5, 2) := by decide +kernel
theorem d_La_law_701 : decode b_La_law 701 = .ok (.aload_n 2, 1) := by decide +kernel
theorem d_La_law_702 : decode b_La_law 702 = .ok (.aload_n 0, 1) := by decide +kernel
theorem d_La_law_703 : decode b_La_law 703 = .ok (.iload 4, 2) := by decide +kernel
theorem d_La_law_705 : decode b_La_law 705 = .ok (.iconst 1, 1) := by decide +kernel
theorem d_La_law_706 : decode b_La_law 706 = .ok (.iadd, 1) := by decide +kernel
theorem d_La_law_707 : decode b_La_law 707 = .ok (.iaload, 1) := by decide +kernel
theorem d_La_law_708 : decode b_La_law 708 = .ok (.aload_n 0, 1) := by decide +kernel
theorem d_La_law_709 : decode b_La_law 709 = .ok (.iload 4, 2) := by decide +kernel
theorem d_La_law_711 : decode b_La_law 711 = .ok (.iconst 2, 1) := by decide +kernel
theorem d_La_law_712 : decode b_La_law 712 = .ok (.iadd, 1) := by decide +kernel
theorem d_La_law_713 : decode b_La_law 713 = .ok (.iaload, 1) := by decide +kernel
theorem d_La_law_714 : decode b_La_law 714 = .ok (.aload_n 0, 1) := by decide +kernel
theorem d_La_law_715 : decode b_La_law 715 = .ok (.iload 4, 2) := by decide +kernel
theorem d_La_law_717 : decode b_La_law 717 = .ok (.iconst 3, 1) := by decide +kernel
theorem d_La_law_718 : decode b_La_law 718 = .ok (.iadd, 1) := by decide +kernel
theorem d_La_law_719 : decode b_La_law 719 = .ok (.iaload, 1) := by decide +kernel
theorem d_La_law_720 : decode b_La_law 720 = .ok (.invokevirtual 116, 3) := by decide +kernel
theorem d_La_law_723 : decode b_La_law 723 = .ok (.istore 6, 2) := by decide +kernel
theorem d_La_law_725 : decode b_La_law 725 = .ok (.aload_n 2, 1) := by decide +kernel
theorem d_La_law_726 : decode b_La_law 726 = .ok (.invokevirtual 82, 3) := by decide +kernel
theorem d_La_law_729 : decode b_La_law 729 = .ok (.iload 5, 2) := by decide +kernel
theorem d_La_law_731 : decode b_La_law 731 = .ok (.if_icmp .eq 5, 3) := by decide +kernel
theorem d_La_law_734 : decode b_La_law 734 = .ok (.iconst 0, 1) := by decide +kernel
theorem d_La_law_735 : decode b_La_law 735 = .ok (.ireturn, 1) := by decide +kernel
theorem d_La_law_736 : decode b_La_law 736 = .ok (.iload 5, 2) := by decide +kernel
theorem d_La_law_738 : decode b_La_law 738 = .ok (.ifCond .ne 22, 3) := by decide +kernel
theorem d_La_law_741 : decode b_La_law 741 = .ok (.aload_n 3, 1) := by decide +kernel
theorem d_La_law_742 : decode b_La_law 742 = .ok (.iconst 0, 1) := by decide +kernel
theorem d_La_law_743 : decode b_La_law 743 = .ok (.laload, 1) := by decide +kernel
theorem d_La_law_744 : decode b_La_law 744 = .ok (.iload 6, 2) := by decide +kernel
theorem d_La_law_746 : decode b_La_law 746 = .ok (.ifCond .eq 7, 3) := by decide +kernel
theorem d_La_law_749 : decode b_La_law 749 = .ok (.lconst 1, 1) := by decide +kernel
theorem d_La_law_750 : decode b_La_law 750 = .ok (.goto 4, 3) := by decide +kernel
theorem d_La_law_753 : decode b_La_law 753 = .ok (.lconst 0, 1) := by decide +kernel
theorem d_La_law_754 : decode b_La_law 754 = .ok (.lcmp, 1) := by decide +kernel
theorem d_La_law_755 : decode b_La_law 755 = .ok (.ifCond .eq 5, 3) := by decide +kernel
theorem d_La_law_758 : decode b_La_law 758 = .ok (.iconst 0, 1) := by decide +kernel
theorem d_La_law_759 : decode b_La_law 759 = .ok (.ireturn, 1) := by decide +kernel
theorem d_La_law_760 : decode b_La_law 760 = .ok (.goto 370, 3) := by decide +kernel
theorem d_La_law_763 : decode b_La_law 763 = .ok (.aload_n 1, 1) := by decide +kernel
theorem d_La_law_764 : decode b_La_law 764 = .ok (.aload_n 0, 1) := by decide +kernel
theorem d_La_law_765 : decode b_La_law 765 = .ok (.iload 4, 2) := by decide +kernel
theorem d_La_law_767 : decode b_La_law 767 = .ok (.iconst 1, 1) := by decide +kernel
theorem d_La_law_768 : decode b_La_law 768 = .ok (.iadd, 1) := by decide +kernel
theorem d_La_law_769 : decode b_La_law 769 = .ok (.iaload, 1) := by decide +kernel
theorem d_La_law_770 : decode b_La_law 770 = .ok (.aload_n 0, 1) := by decide +kernel
theorem d_La_law_771 : decode b_La_law 771 = .ok (.iload 4, 2) := by decide +kernel
theorem d_La_law_773 : decode b_La_law 773 = .ok (.iconst 2, 1) := by decide +kernel
theorem d_La_law_774 : decode b_La_law 774 = .ok (.iadd, 1) := by decide +kernel
theorem d_La_law_775 : decode b_La_law 775 = .ok (.iaload, 1) := by decide +kernel
theorem d_La_law_776 : decode b_La_law 776 = .ok (.aload_n 0, 1) := by decide +kernel
theorem d_La_law_777 : decode b_La_law 777 = .ok (.iload 4, 2) := by decide +kernel
theorem d_La_law_779 : decode b_La_law 779 = .ok (.iconst 3, 1) := by decide +kernel
theorem d_La_law_780 : decode b_La_law 780 = .ok (.iadd, 1) := by decide +kernel
theorem d_La_law_781 : decode b_La_law 781 = .ok (.iaload, 1) := by decide +kernel
theorem d_La_law_782 : decode b_La_law 782 = .ok (.aload_n 3, 1) := by decide +kernel
theorem d_La_law_783 : decode b_La_law 783 = .ok (.invokestatic 117, 3) := by decide +kernel
theorem d_La_law_786 : decode b_La_law 786 = .ok (.istore 5, 2) := by decide +kernel
theorem d_La_law_788 : decode b_La_law 788 = .ok (.aload_n 2, 1) := by decide +kernel
theorem d_La_law_789 : decode b_La_law 789 = .ok (.aload_n 0, 1) := by decide +kernel
theorem d_La_law_790 : decode b_La_law 790 = .ok (.iload 4, 2) := by decide +kernel
theorem d_La_law_792 : decode b_La_law 792 = .ok (.iconst 1, 1) := by decide +kernel
theorem d_La_law_793 : decode b_La_law 793 = .ok (.iadd, 1) := by decide +kernel
theorem d_La_law_794 : decode b_La_law 794 = .ok (.iaload, 1) := by decide +kernel
theorem d_La_law_795 : decode b_La_law 795 = .ok (.aload_n 0, 1) := by decide +kernel
theorem d_La_law_796 : decode b_La_law 796 = .ok (.iload 4, 2) := by decide +kernel
theorem d_La_law_798 : decode b_La_law 798 = .ok (.iconst 2, 1) := by decide +kernel
theorem d_La_law_799 : decode b_La_law 799 = .ok (.iadd, 1) := by decide +kernel
theorem d_La_law_800 : decode b_La_law 800 = .ok (.iaload, 1) := by decide +kernel
theorem d_La_law_801 : decode b_La_law 801 = .ok (.aload_n 0, 1) := by decide +kernel
theorem d_La_law_802 : decode b_La_law 802 = .ok (.iload 4, 2) := by decide +kernel
theorem d_La_law_804 : decode b_La_law 804 = .ok (.iconst 3, 1) := by decide +kernel
theorem d_La_law_805 : decode b_La_law 805 = .ok (.iadd, 1) := by decide +kernel
theorem d_La_law_806 : decode b_La_law 806 = .ok (.iaload, 1) := by decide +kernel
theorem d_La_law_807 : decode b_La_law 807 = .ok (.invokevirtual 119, 3) := by decide +kernel
theorem d_La_law_810 : decode b_La_law 810 = .ok (.istore 6, 2) := by decide +kernel
theorem d_La_law_812 : decode b_La_law 812 = .ok (.aload_n 2, 1) := by decide +kernel
theorem d_La_law_813 : decode b_La_law 813 = .ok (.invokevirtual 82, 3) := by decide +kernel
theorem d_La_law_816 : decode b_La_law 816 = .ok (.iload 5, 2) := by decide +kernel
theorem d_La_law_818 : decode b_La_law 818 = .ok (.if_icmp .eq 5, 3) := by decide +kernel
theorem d_La_law_821 : decode b_La_law 821 = .ok (.iconst 0, 1) := by decide +kernel
theorem d_La_law_822 : decode b_La_law 822 = .ok (.ireturn, 1) := by decide +kernel
theorem d_La_law_823 : decode b_La_law 823 = .ok (.iload 5, 2) := by decide +kernel
theorem d_La_law_825 : decode b_La_law 825 = .ok (.ifCond .ne 22, 3) := by decide +kernel
theorem d_La_law_828 : decode b_La_law 828 = .ok (.aload_n 3, 1) := by decide +kernel
theorem d_La_law_829 : decode b_La_law 829 = .ok (.iconst 0, 1) := by decide +kernel
theorem d_La_law_830 : decode b_La_law 830 = .ok (.laload, 1) := by decide +kernel
theorem d_La_law_831 : decode b_La_law 831 = .ok (.iload 6, 2) := by decide +kernel
theorem d_La_law_833 : decode b_La_law 833 = .ok (.ifCond .eq 7, 3) := by decide +kernel
theorem d_La_law_836 : decode b_La_law 836 = .ok (.lconst 1, 1) := by decide +kernel
theorem d_La_law_837 : decode b_La_law 837 = .ok (.goto 4, 3) := by decide +kernel
theorem d_La_law_840 : decode b_La_law 840 = .ok (.lconst 0, 1) := by decide +kernel
theorem d_La_law_841 : decode b_La_law 841 = .ok (.lcmp, 1) := by decide +kernel
theorem d_La_law_842 : decode b_La_law 842 = .ok (.ifCond .eq 5, 3) := by decide +kernel
theorem d_La_law_845 : decode b_La_law 845 = .ok (.iconst 0, 1) := by decide +kernel
theorem d_La_law_846 : decode b_La_law 846 = .ok (.ireturn, 1) := by decide +kernel
theorem d_La_law_847 : decode b_La_law 847 = .ok (.goto 283, 3) := by decide +kernel
theorem d_La_law_850 : decode b_La_law 850 = .ok (.aload_n 1, 1) := by decide +kernel
theorem d_La_law_851 : decode b_La_law 851 = .ok (.aload_n 0, 1) := by decide +kernel
theorem d_La_law_852 : decode b_La_law 852 = .ok (.iload 4, 2) := by decide +kernel
theorem d_La_law_854 : decode b_La_law 854 = .ok (.iconst 1, 1) := by decide +kernel
theorem d_La_law_855 : decode b_La_law 855 = .ok (.iadd, 1) := by decide +kernel
theorem d_La_law_856 : decode b_La_law 856 = .ok (.iaload, 1) := by decide +kernel
theorem d_La_law_857 : decode b_La_law 857 = .ok (.aload_n 3, 1) := by decide +kernel
theorem d_La_law_858 : decode b_La_law 858 = .ok (.invokestatic 120, 3) := by decide +kernel
theorem d_La_law_861 : decode b_La_law 861 = .ok (.istore 5, 2) := by decide +kernel
theorem d_La_law_863 : decode b_La_law 863 = .ok (.aload_n 2, 1) := by decide +kernel
theorem d_La_law_864 : decode b_La_law 864 = .ok (.aload_n 0, 1) := by decide +kernel
theorem d_La_law_865 : decode b_La_law 865 = .ok (.iload 4, 2) := by decide +kernel
theorem d_La_law_867 : decode b_La_law 867 = .ok (.iconst 1, 1) := by decide +kernel
theorem d_La_law_868 : decode b_La_law 868 = .ok (.iadd, 1) := by decide +kernel
theorem d_La_law_869 : decode b_La_law 869 = .ok (.iaload, 1) := by decide +kernel
theorem d_La_law_870 : decode b_La_law 870 = .ok (.invokevirtual 122, 3) := by decide +kernel
theorem d_La_law_873 : decode b_La_law 873 = .ok (.istore 6, 2) := by decide +kernel
theorem d_La_law_875 : decode b_La_law 875 = .ok (.aload_n 2, 1) := by decide +kernel
theorem d_La_law_876 : decode b_La_law 876 = .ok (.invokevirtual 82, 3) := by decide +kernel
theorem d_La_law_879 : decode b_La_law 879 = .ok (.iload 5, 2) := by decide +kernel
theorem d_La_law_881 : decode b_La_law 881 = .ok (.if_icmp .eq 5, 3) := by decide +kernel
theorem d_La_law_884 : decode b_La_law 884 = .ok (.iconst 0, 1) := by decide +kernel
theorem d_La_law_885 : decode b_La_law 885 = .ok (.ireturn, 1) := by decide +kernel
theorem d_La_law_886 : decode b_La_law 886 = .ok (.iload 5, 2) := by decide +kernel
theorem d_La_law_888 : decode b_La_law 888 = .ok (.ifCond .ne 15, 3) := by decide +kernel
theorem d_La_law_891 : decode b_La_law 891 = .ok (.aload_n 3, 1) := by decide +kernel
theorem d_La_law_892 : decode b_La_law 892 = .ok (.iconst 0, 1) := by decide +kernel
theorem d_La_law_893 : decode b_La_law 893 = .ok (.laload, 1) := by decide +kernel
theorem d_La_law_894 : decode b_La_law 894 = .ok (.iload 6, 2) := by decide +kernel
theorem d_La_law_896 : decode b_La_law 896 = .ok (.i2l, 1) := by decide +kernel
theorem d_La_law_897 : decode b_La_law 897 = .ok (.lcmp, 1) := by decide +kernel
theorem d_La_law_898 : decode b_La_law 898 = .ok (.ifCond .eq 5, 3) := by decide +kernel
theorem d_La_law_901 : decode b_La_law 901 = .ok (.iconst 0, 1) := by decide +kernel
theorem d_La_law_902 : decode b_La_law 902 = .ok (.ireturn, 1) := by decide +kernel
theorem d_La_law_903 : decode b_La_law 903 = .ok (.goto 227, 3) := by decide +kernel
theorem d_La_law_906 : decode b_La_law 906 = .ok (.aload_n 1, 1) := by decide +kernel
theorem d_La_law_907 : decode b_La_law 907 = .ok (.aload_n 0, 1) := by decide +kernel
theorem d_La_law_908 : decode b_La_law 908 = .ok (.iload 4, 2) := by decide +kernel
theorem d_La_law_910 : decode b_La_law 910 = .ok (.iconst 1, 1) := by decide +kernel
theorem d_La_law_911 : decode b_La_law 911 = .ok (.iadd, 1) := by decide +kernel
theorem d_La_law_912 : decode b_La_law 912 = .ok (.iaload, 1) := by decide +kernel
theorem d_La_law_913 : decode b_La_law 913 = .ok (.aload_n 3, 1) := by decide +kernel
theorem d_La_law_914 : decode b_La_law 914 = .ok (.invokestatic 123, 3) := by decide +kernel
theorem d_La_law_917 : decode b_La_law 917 = .ok (.istore 5, 2) := by decide +kernel
theorem d_La_law_919 : decode b_La_law 919 = .ok (.aload_n 2, 1) := by decide +kernel
theorem d_La_law_920 : decode b_La_law 920 = .ok (.aload_n 0, 1) := by decide +kernel
theorem d_La_law_921 : decode b_La_law 921 = .ok (.iload 4, 2) := by decide +kernel
theorem d_La_law_923 : decode b_La_law 923 = .ok (.iconst 1, 1) := by decide +kernel
theorem d_La_law_924 : decode b_La_law 924 = .ok (.iadd, 1) := by decide +kernel
theorem d_La_law_925 : decode b_La_law 925 = .ok (.iaload, 1) := by decide +kernel
theorem d_La_law_926 : decode b_La_law 926 = .ok (.invokevirtual 125, 3) := by decide +kernel
theorem d_La_law_929 : decode b_La_law 929 = .ok (.istore 6, 2) := by decide +kernel
theorem d_La_law_931 : decode b_La_law 931 = .ok (.aload_n 2, 1) := by decide +kernel
theorem d_La_law_932 : decode b_La_law 932 = .ok (.invokevirtual 82, 3) := by decide +kernel
theorem d_La_law_935 : decode b_La_law 935 = .ok (.iload 5, 2) := by decide +kernel
theorem d_La_law_937 : decode b_La_law 937 = .ok (.if_icmp .eq 5, 3) := by decide +kernel
theorem d_La_law_940 : decode b_La_law 940 = .ok (.iconst 0, 1) := by decide +kernel
theorem d_La_law_941 : decode b_La_law 941 = .ok (.ireturn, 1) := by decide +kernel
theorem d_La_law_942 : decode b_La_law 942 = .ok (.iload 5, 2) := by decide +kernel
theorem d_La_law_944 : decode b_La_law 944 = .ok (.ifCond .ne 15, 3) := by decide +kernel
theorem d_La_law_947 : decode b_La_law 947 = .ok (.aload_n 3, 1) := by decide +kernel
theorem d_La_law_948 : decode b_La_law 948 = .ok (.iconst 0, 1) := by decide +kernel
theorem d_La_law_949 : decode b_La_law 949 = .ok (.laload, 1) := by decide +kernel
theorem d_La_law_950 : decode b_La_law 950 = .ok (.iload 6, 2) := by decide +kernel
theorem d_La_law_952 : decode b_La_law 952 = .ok (.i2l, 1) := by decide +kernel
theorem d_La_law_953 : decode b_La_law 953 = .ok (.lcmp, 1) := by decide +kernel
theorem d_La_law_954 : decode b_La_law 954 = .ok (.ifCond .eq 5, 3) := by decide +kernel
theorem d_La_law_957 : decode b_La_law 957 = .ok (.iconst 0, 1) := by decide +kernel
theorem d_La_law_958 : decode b_La_law 958 = .ok (.ireturn, 1) := by decide +kernel
theorem d_La_law_959 : decode b_La_law 959 = .ok (.goto 171, 3) := by decide +kernel
theorem d_La_law_962 : decode b_La_law 962 = .ok (.aload_n 1, 1) := by decide +kernel
theorem d_La_law_963 : decode b_La_law 963 = .ok (.aload_n 0, 1) := by decide +kernel
theorem d_La_law_964 : decode b_La_law 964 = .ok (.iload 4, 2) := by decide +kernel
theorem d_La_law_966 : decode b_La_law 966 = .ok (.iconst 1, 1) := by decide +kernel
theorem d_La_law_967 : decode b_La_law 967 = .ok (.iadd, 1) := by decide +kernel
theorem d_La_law_968 : decode b_La_law 968 = .ok (.iaload, 1) := by decide +kernel
theorem d_La_law_969 : decode b_La_law 969 = .ok (.aload_n 3, 1) := by decide +kernel
theorem d_La_law_970 : decode b_La_law 970 = .ok (.invokestatic 126, 3) := by decide +kernel
theorem d_La_law_973 : decode b_La_law 973 = .ok (.istore 5, 2) := by decide +kernel
theorem d_La_law_975 : decode b_La_law 975 = .ok (.aload_n 2, 1) := by decide +kernel
theorem d_La_law_976 : decode b_La_law 976 = .ok (.aload_n 0, 1) := by decide +kernel
theorem d_La_law_977 : decode b_La_law 977 = .ok (.iload 4, 2) := by decide +kernel
theorem d_La_law_979 : decode b_La_law 979 = .ok (.iconst 1, 1) := by decide +kernel
theorem d_La_law_980 : decode b_La_law 980 = .ok (.iadd, 1) := by decide +kernel
theorem d_La_law_981 : decode b_La_law 981 = .ok (.iaload, 1) := by decide +kernel
theorem d_La_law_982 : decode b_La_law 982 = .ok (.invokevirtual 128, 3) := by decide +kernel
theorem d_La_law_985 : decode b_La_law 985 = .ok (.istore 6, 2) := by decide +kernel
theorem d_La_law_987 : decode b_La_law 987 = .ok (.aload_n 2, 1) := by decide +kernel
theorem d_La_law_988 : decode b_La_law 988 = .ok (.invokevirtual 82, 3) := by decide +kernel
theorem d_La_law_991 : decode b_La_law 991 = .ok (.iload 5, 2) := by decide +kernel
theorem d_La_law_993 : decode b_La_law 993 = .ok (.if_icmp .eq 5, 3) := by decide +kernel
theorem d_La_law_996 : decode b_La_law 996 = .ok (.iconst 0, 1) := by decide +kernel
theorem d_La_law_997 : decode b_La_law 997 = .ok (.ireturn, 1) := by decide +kernel
theorem d_La_law_998 : decode b_La_law 998 = .ok (.iload 5, 2) := by decide +kernel
theorem d_La_law_1000 : decode b_La_law 1000 = .ok (.ifCond .ne 15, 3) := by decide +kernel
theorem d_La_law_1003 : decode b_La_law 1003 = .ok (.aload_n 3, 1) := by decide +kernel
theorem d_La_law_1004 : decode b_La_law 1004 = .ok (.iconst 0, 1) := by decide +kernel
theorem d_La_law_1005 : decode b_La_law 1005 = .ok (.laload, 1) := by decide +kernel
theorem d_La_law_1006 : decode b_La_law 1006 = .ok (.iload 6, 2) := by decide +kernel
theorem d_La_law_1008 : decode b_La_law 1008 = .ok (.i2l, 1) := by decide +kernel
theorem d_La_law_1009 : decode b_La_law 1009 = .ok (.lcmp, 1) := by decide +kernel
theorem d_La_law_1010 : decode b_La_law 1010 = .ok (.ifCond .eq 5, 3) := by decide +kernel
theorem d_La_law_1013 : decode b_La_law 1013 = .ok (.iconst 0, 1) := by decide +kernel
theorem d_La_law_1014 : decode b_La_law 1014 = .ok (.ireturn, 1) := by decide +kernel
theorem d_La_law_1015 : decode b_La_law 1015 = .ok (.goto 115, 3) := by decide +kernel
theorem d_La_law_1018 : decode b_La_law 1018 = .ok (.aload_n 1, 1) := by decide +kernel
theorem d_La_law_1019 : decode b_La_law 1019 = .ok (.aload_n 0, 1) := by decide +kernel
theorem d_La_law_1020 : decode b_La_law 1020 = .ok (.iload 4, 2) := by decide +kernel
theorem d_La_law_1022 : decode b_La_law 1022 = .ok (.iconst 1, 1) := by decide +kernel
theorem d_La_law_1023 : decode b_La_law 1023 = .ok (.iadd, 1) := by decide +kernel
theorem d_La_law_1024 : decode b_La_law 1024 = .ok (.iaload, 1) := by decide +kernel
theorem d_La_law_1025 : decode b_La_law 1025 = .ok (.aload_n 3, 1) := by decide +kernel
theorem d_La_law_1026 : decode b_La_law 1026 = .ok (.invokestatic 129, 3) := by decide +kernel
theorem d_La_law_1029 : decode b_La_law 1029 = .ok (.istore 5, 2) := by decide +kernel
theorem d_La_law_1031 : decode b_La_law 1031 = .ok (.aload_n 2, 1) := by decide +kernel
theorem d_La_law_1032 : decode b_La_law 1032 = .ok (.aload_n 0, 1) := by decide +kernel
theorem d_La_law_1033 : decode b_La_law 1033 = .ok (.iload 4, 2) := by decide +kernel
theorem d_La_law_1035 : decode b_La_law 1035 = .ok (.iconst 1, 1) := by decide +kernel
theorem d_La_law_1036 : decode b_La_law 1036 = .ok (.iadd, 1) := by decide +kernel
theorem d_La_law_1037 : decode b_La_law 1037 = .ok (.iaload, 1) := by decide +kernel
theorem d_La_law_1038 : decode b_La_law 1038 = .ok (.invokevirtual 131, 3) := by decide +kernel
theorem d_La_law_1041 : decode b_La_law 1041 = .ok (.istore 6, 2) := by decide +kernel
theorem d_La_law_1043 : decode b_La_law 1043 = .ok (.aload_n 2, 1) := by decide +kernel
theorem d_La_law_1044 : decode b_La_law 1044 = .ok (.invokevirtual 82, 3) := by decide +kernel
theorem d_La_law_1047 : decode b_La_law 1047 = .ok (.iload 5, 2) := by decide +kernel
theorem d_La_law_1049 : decode b_La_law 1049 = .ok (.if_icmp .eq 5, 3) := by decide +kernel
theorem d_La_law_1052 : decode b_La_law 1052 = .ok (.iconst 0, 1) := by decide +kernel
theorem d_La_law_1053 : decode b_La_law 1053 = .ok (.ireturn, 1) := by decide +kernel
theorem d_La_law_1054 : decode b_La_law 1054 = .ok (.iload 5, 2) := by decide +kernel
theorem d_La_law_1056 : decode b_La_law 1056 = .ok (.ifCond .ne 22, 3) := by decide +kernel
theorem d_La_law_1059 : decode b_La_law 1059 = .ok (.aload_n 3, 1) := by decide +kernel
theorem d_La_law_1060 : decode b_La_law 1060 = .ok (.iconst 0, 1) := by decide +kernel
theorem d_La_law_1061 : decode b_La_law 1061 = .ok (.laload, 1) := by decide +kernel
theorem d_La_law_1062 : decode b_La_law 1062 = .ok (.iload 6, 2) := by decide +kernel
theorem d_La_law_1064 : decode b_La_law 1064 = .ok (.ifCond .eq 7, 3) := by decide +kernel
theorem d_La_law_1067 : decode b_La_law 1067 = .ok (.lconst 1, 1) := by decide +kernel
theorem d_La_law_1068 : decode b_La_law 1068 = .ok (.goto 4, 3) := by decide +kernel
theorem d_La_law_1071 : decode b_La_law 1071 = .ok (.lconst 0, 1) := by decide +kernel
theorem d_La_law_1072 : decode b_La_law 1072 = .ok (.lcmp, 1) := by decide +kernel
theorem d_La_law_1073 : decode b_La_law 1073 = .ok (.ifCond .eq 5, 3) := by decide +kernel
theorem d_La_law_1076 : decode b_La_law 1076 = .ok (.iconst 0, 1) := by decide +kernel
theorem d_La_law_1077 : decode b_La_law 1077 = .ok (.ireturn, 1) := by decide +kernel
theorem d_La_law_1078 : decode b_La_law 1078 = .ok (.goto 52, 3) := by decide +kernel
theorem d_La_law_1081 : decode b_La_law 1081 = .ok (.aload_n 1, 1) := by decide +kernel
theorem d_La_law_1082 : decode b_La_law 1082 = .ok (.aload_n 0, 1) := by decide +kernel
theorem d_La_law_1083 : decode b_La_law 1083 = .ok (.iload 4, 2) := by decide +kernel
theorem d_La_law_1085 : decode b_La_law 1085 = .ok (.iconst 1, 1) := by decide +kernel
theorem d_La_law_1086 : decode b_La_law 1086 = .ok (.iadd, 1) := by decide +kernel
theorem d_La_law_1087 : decode b_La_law 1087 = .ok (.iaload, 1) := by decide +kernel
theorem d_La_law_1088 : decode b_La_law 1088 = .ok (.invokestatic 132, 3) := by decide +kernel
theorem d_La_law_1091 : decode b_La_law 1091 = .ok (.istore 5, 2) := by decide +kernel
theorem d_La_law_1093 : decode b_La_law 1093 = .ok (.aload_n 2, 1) := by decide +kernel
theorem d_La_law_1094 : decode b_La_law 1094 = .ok (.aload_n 0, 1) := by decide +kernel
theorem d_La_law_1095 : decode b_La_law 1095 = .ok (.iload 4, 2) := by decide +kernel
theorem d_La_law_1097 : decode b_La_law 1097 = .ok (.iconst 1, 1) := by decide +kernel
theorem d_La_law_1098 : decode b_La_law 1098 = .ok (.iadd, 1) := by decide +kernel
theorem d_La_law_1099 : decode b_La_law 1099 = .ok (.iaload, 1) := by decide +kernel
theorem d_La_law_1100 : decode b_La_law 1100 = .ok (.invokevirtual 135, 3) := by decide +kernel
theorem d_La_law_1103 : decode b_La_law 1103 = .ok (.aload_n 2, 1) := by decide +kernel
theorem d_La_law_1104 : decode b_La_law 1104 = .ok (.invokevirtual 82, 3) := by decide +kernel
theorem d_La_law_1107 : decode b_La_law 1107 = .ok (.iload 5, 2) := by decide +kernel
theorem d_La_law_1109 : decode b_La_law 1109 = .ok (.if_icmp .eq 5, 3) := by decide +kernel
theorem d_La_law_1112 : decode b_La_law 1112 = .ok (.iconst 0, 1) := by decide +kernel
theorem d_La_law_1113 : decode b_La_law 1113 = .ok (.ireturn, 1) := by decide +kernel
theorem d_La_law_1114 : decode b_La_law 1114 = .ok (.goto 16, 3) := by decide +kernel
theorem d_La_law_1117 : decode b_La_law 1117 = .ok (.aload_n 1, 1) := by decide +kernel
theorem d_La_law_1118 : decode b_La_law 1118 = .ok (.invokevirtual 136, 3) := by decide +kernel
theorem d_La_law_1121 : decode b_La_law 1121 = .ok (.aload_n 2, 1) := by decide +kernel
theorem d_La_law_1122 : decode b_La_law 1122 = .ok (.invokevirtual 139, 3) := by decide +kernel
theorem d_La_law_1125 : decode b_La_law 1125 = .ok (.if_icmp .eq 5, 3) := by decide +kernel
theorem d_La_law_1128 : decode b_La_law 1128 = .ok (.iconst 0, 1) := by decide +kernel
theorem d_La_law_1129 : decode b_La_law 1129 = .ok (.ireturn, 1) := by decide +kernel
theorem d_La_law_1130 : decode b_La_law 1130 = .ok (.iinc 4 5, 3) := by decide +kernel
theorem d_La_law_1133 : decode b_La_law 1133 = .ok (.goto (-1110), 3) := by decide +kernel
theorem d_La_law_1136 : decode b_La_law 1136 = .ok (.iconst 1, 1) := by decide +kernel
theorem d_La_law_1137 : decode b_La_law 1137 = .ok (.ireturn, 1) := by decide +kernel
