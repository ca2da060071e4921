theorem dJ9_abs_0f7a4_0 : decode cJ9_abs_0f7a4 0 = .ok (.iload_n 0, 1) := by decide +kernel
theorem dJ9_abs_0f7a4_1 : decode cJ9_abs_0f7a4 1 = .ok (.ifCond .ge 8, 3) := by decide +kernel
theorem dJ9_abs_0f7a4_4 : decode cJ9_abs_0f7a4 4 = .ok (.iload_n 0, 1) := by decide +kernel
theorem dJ9_abs_0f7a4_5 : decode cJ9_abs_0f7a4 5 = .ok (.ineg, 1) := by decide +kernel
theorem dJ9_abs_0f7a4_6 : decode cJ9_abs_0f7a4 6 = .ok (.goto 4, 3) := by decide +kernel
theorem dJ9_abs_0f7a4_9 : decode cJ9_abs_0f7a4 9 = .ok (.iload_n 0, 1) := by decide +kernel
theorem dJ9_abs_0f7a4_10 : decode cJ9_abs_0f7a4 10 = .ok (.ireturn, 1) := by decide +kernel
theorem dJ9_max_7cf53_0 : decode cJ9_max_7cf53 0 = .ok (.iload_n 0, 1) := by decide +kernel
theorem dJ9_max_7cf53_1 : decode cJ9_max_7cf53 1 = .ok (.iload_n 1, 1) := by decide +kernel
theorem dJ9_max_7cf53_2 : decode cJ9_max_7cf53 2 = .ok (.if_icmp .lt 7, 3) := by decide +kernel
theorem dJ9_max_7cf53_5 : decode cJ9_max_7cf53 5 = .ok (.iload_n 0, 1) := by decide +kernel
theorem dJ9_max_7cf53_6 : decode cJ9_max_7cf53 6 = .ok (.goto 4, 3) := by decide +kernel
theorem dJ9_max_7cf53_9 : decode cJ9_max_7cf53 9 = .ok (.iload_n 1, 1) := by decide +kernel
theorem dJ9_max_7cf53_10 : decode cJ9_max_7cf53 10 = .ok (.ireturn, 1) := by decide +kernel
theorem dJ9_min_7cf53_0 : decode cJ9_min_7cf53 0 = .ok (.iload_n 0, 1) := by decide +kernel
theorem dJ9_min_7cf53_1 : decode cJ9_min_7cf53 1 = .ok (.iload_n 1, 1) := by decide +kernel
theorem dJ9_min_7cf53_2 : decode cJ9_min_7cf53 2 = .ok (.if_icmp .gt 7, 3) := by decide +kernel
theorem dJ9_min_7cf53_5 : decode cJ9_min_7cf53 5 = .ok (.iload_n 0, 1) := by decide +kernel
theorem dJ9_min_7cf53_6 : decode cJ9_min_7cf53 6 = .ok (.goto 4, 3) := by decide +kernel
theorem dJ9_min_7cf53_9 : decode cJ9_min_7cf53 9 = .ok (.iload_n 1, 1) := by decide +kernel
theorem dJ9_min_7cf53_10 : decode cJ9_min_7cf53 10 = .ok (.ireturn, 1) := by decide +kernel
theorem dL_law_0 : decode cL_law 0 = .ok (.new 7, 3) := by decide +kernel
theorem dL_law_3 : decode cL_law 3 = .ok (.dup, 1) := by decide +kernel
theorem dL_law_4 : decode cL_law 4 = .ok (.invokespecial 9, 3) := by decide +kernel
theorem dL_law_7 : decode cL_law 7 = .ok (.astore_n 1, 1) := by decide +kernel
theorem dL_law_8 : decode cL_law 8 = .ok (.new 10, 3) := by decide +kernel
theorem dL_law_11 : decode cL_law 11 = .ok (.dup, 1) := by decide +kernel
theorem dL_law_12 : decode cL_law 12 = .ok (.invokespecial 12, 3) := by decide +kernel
theorem dL_law_15 : decode cL_law 15 = .ok (.astore_n 2, 1) := by decide +kernel
theorem dL_law_16 : decode cL_law 16 = .ok (.iconst 0, 1) := by decide +kernel
theorem dL_law_17 : decode cL_law 17 = .ok (.istore_n 3, 1) := by decide +kernel
theorem dL_law_18 : decode cL_law 18 = .ok (.iload_n 3, 1) := by decide +kernel
theorem dL_law_19 : decode cL_law 19 = .ok (.aload_n 0, 1) := by decide +kernel
theorem dL_law_20 : decode cL_law 20 = .ok (.arraylength, 1) := by decide +kernel
theorem dL_law_21 : decode cL_law 21 = .ok (.bipush 6, 2) := by decide +kernel
theorem dL_law_23 : decode cL_law 23 = .ok (.isub, 1) := by decide +kernel
theorem dL_law_24 : decode cL_law 24 = .ok (.if_icmp .gt 827, 3) := by decide +kernel
theorem dL_law_27 : decode cL_law 27 = .ok (.aload_n 0, 1) := by decide +kernel
theorem dL_law_28 : decode cL_law 28 = .ok (.iload_n 3, 1) := by decide +kernel
theorem dL_law_29 : decode cL_law 29 = .ok (.iaload, 1) := by decide +kernel
theorem dL_law_30 : decode cL_law 30 = .ok (.bipush 31, 2) := by decide +kernel
theorem dL_law_32 : decode cL_law 32 = .ok (.iand, 1) := by decide +kernel
theorem dL_law_33 : decode cL_law 33 = .ok (.tableswitch 812 0 22 #[107, 118, 141, 194, 217, 240, 253, 286, 309, 348, 361, 424, 467, 500, 539, 588, 611, 644, 677, 710, 743, 776, 789], 107) := by decide +kernel
theorem dL_law_140 : decode cL_law 140 = .ok (.aload_n 1, 1) := by decide +kernel
theorem dL_law_141 : decode cL_law 141 = .ok (.invokevirtual 13, 3) := by decide +kernel
theorem dL_law_144 : decode cL_law 144 = .ok (.aload_n 2, 1) := by decide +kernel
theorem dL_law_145 : decode cL_law 145 = .ok (.invokevirtual 16, 3) := by decide +kernel
theorem dL_law_148 : decode cL_law 148 = .ok (.goto 697, 3) := by decide +kernel
theorem dL_law_151 : decode cL_law 151 = .ok (.aload_n 1, 1) := by decide +kernel
theorem dL_law_152 : decode cL_law 152 = .ok (.aload_n 0, 1) := by decide +kernel
theorem dL_law_153 : decode cL_law 153 = .ok (.iload_n 3, 1) := by decide +kernel
theorem dL_law_154 : decode cL_law 154 = .ok (.iconst 1, 1) := by decide +kernel
theorem dL_law_155 : decode cL_law 155 = .ok (.iadd, 1) := by decide +kernel
theorem dL_law_156 : decode cL_law 156 = .ok (.iaload, 1) := by decide +kernel
theorem dL_law_157 : decode cL_law 157 = .ok (.invokevirtual 17, 3) := by decide +kernel
theorem dL_law_160 : decode cL_law 160 = .ok (.aload_n 2, 1) := by decide +kernel
theorem dL_law_161 : decode cL_law 161 = .ok (.aload_n 0, 1) := by decide +kernel
theorem dL_law_162 : decode cL_law 162 = .ok (.iload_n 3, 1) := by decide +kernel
theorem dL_law_163 : decode cL_law 163 = .ok (.iconst 1, 1) := by decide +kernel
theorem dL_law_164 : decode cL_law 164 = .ok (.iadd, 1) := by decide +kernel
theorem dL_law_165 : decode cL_law 165 = .ok (.iaload, 1) := by decide +kernel
theorem dL_law_166 : decode cL_law 166 = .ok (.invokevirtual 21, 3) := by decide +kernel
theorem dL_law_169 : decode cL_law 169 = .ok (.if_icmp .eq 676, 3) := by decide +kernel
theorem dL_law_172 : decode cL_law 172 = .ok (.iconst 0, 1) := by decide +kernel
theorem dL_law_173 : decode cL_law 173 = .ok (.ireturn, 1) := by decide +kernel
theorem dL_law_174 : decode cL_law 174 = .ok (.aload_n 1, 1) := by decide +kernel
theorem dL_law_175 : decode cL_law 175 = .ok (.aload_n 0, 1) := by decide +kernel
theorem dL_law_176 : decode cL_law 176 = .ok (.iload_n 3, 1) := by decide +kernel
theorem dL_law_177 : decode cL_law 177 = .ok (.iconst 1, 1) := by decide +kernel
theorem dL_law_178 : decode cL_law 178 = .ok (.iadd, 1) := by decide +kernel
theorem dL_law_179 : decode cL_law 179 = .ok (.iaload, 1) := by decide +kernel
theorem dL_law_180 : decode cL_law 180 = .ok (.i2l, 1) := by decide +kernel
theorem dL_law_181 : decode cL_law 181 = .ok (.bipush 32, 2) := by decide +kernel
theorem dL_law_183 : decode cL_law 183 = .ok (.lshl, 1) := by decide +kernel
theorem dL_law_184 : decode cL_law 184 = .ok (.aload_n 0, 1) := by decide +kernel
theorem dL_law_185 : decode cL_law 185 = .ok (.iload_n 3, 1) := by decide +kernel
theorem dL_law_186 : decode cL_law 186 = .ok (.iconst 2, 1) := by decide +kernel
theorem dL_law_187 : decode cL_law 187 = .ok (.iadd, 1) := by decide +kernel
theorem dL_law_188 : decode cL_law 188 = .ok (.iaload, 1) := by decide +kernel
theorem dL_law_189 : decode cL_law 189 = .ok (.i2l, 1) := by decide +kernel
theorem dL_law_190 : decode cL_law 190 = .ok (.ldc2_w 22, 3) := by decide +kernel
theorem dL_law_193 : decode cL_law 193 = .ok (.land, 1) := by decide +kernel
theorem dL_law_194 : decode cL_law 194 = .ok (.lor, 1) := by decide +kernel
theorem dL_law_195 : decode cL_law 195 = .ok (.invokevirtual 24, 3) := by decide +kernel
theorem dL_law_198 : decode cL_law 198 = .ok (.aload_n 2, 1) := by decide +kernel
theorem dL_law_199 : decode cL_law 199 = .ok (.aload_n 0, 1) := by decide +kernel
theorem dL_law_200 : decode cL_law 200 = .ok (.iload_n 3, 1) := by decide +kernel
theorem dL_law_201 : decode cL_law 201 = .ok (.iconst 1, 1) := by decide +kernel
theorem dL_law_202 : decode cL_law 202 = .ok (.iadd, 1) := by decide +kernel
theorem dL_law_203 : decode cL_law 203 = .ok (.iaload, 1) := by decide +kernel
theorem dL_law_204 : decode cL_law 204 = .ok (.i2l, 1) := by decide +kernel
theorem dL_law_205 : decode cL_law 205 = .ok (.bipush 32, 2) := by decide +kernel
theorem dL_law_207 : decode cL_law 207 = .ok (.lshl, 1) := by decide +kernel
theorem dL_law_208 : decode cL_law 208 = .ok (.aload_n 0, 1) := by decide +kernel
theorem dL_law_209 : decode cL_law 209 = .ok (.iload_n 3, 1) := by decide +kernel
theorem dL_law_210 : decode cL_law 210 = .ok (.iconst 2, 1) := by decide +kernel
theorem dL_law_211 : decode cL_law 211 = .ok (.iadd, 1) := by decide +kernel
theorem dL_law_212 : decode cL_law 212 = .ok (.iaload, 1) := by decide +kernel
theorem dL_law_213 : decode cL_law 213 = .ok (.i2l, 1) := by decide +kernel
theorem dL_law_214 : decode cL_law 214 = .ok (.ldc2_w 22, 3) := by decide +kernel
theorem dL_law_217 : decode cL_law 217 = .ok (.land, 1) := by decide +kernel
theorem dL_law_218 : decode cL_law 218 = .ok (.lor, 1) := by decide +kernel
theorem dL_law_219 : decode cL_law 219 = .ok (.invokevirtual 28, 3) := by decide +kernel
theorem dL_law_222 : decode cL_law 222 = .ok (.if_icmp .eq 623, 3) := by decide +kernel
theorem dL_law_225 : decode cL_law 225 = .ok (.iconst 0, 1) := by decide +kernel
theorem dL_law_226 : decode cL_law 226 = .ok (.ireturn, 1) := by decide +kernel
theorem dL_law_227 : decode cL_law 227 = .ok (.aload_n 1, 1) := by decide +kernel
theorem dL_law_228 : decode cL_law 228 = .ok (.aload_n 0, 1) := by decide +kernel
theorem dL_law_229 : decode cL_law 229 = .ok (.iload_n 3, 1) := by decide +kernel
theorem dL_law_230 : decode cL_law 230 = .ok (.iconst 1, 1) := by decide +kernel
theorem dL_law_231 : decode cL_law 231 = .ok (.iadd, 1) := by decide +kernel
theorem dL_law_232 : decode cL_law 232 = .ok (.iaload, 1) := by decide +kernel
theorem dL_law_233 : decode cL_law 233 = .ok (.invokevirtual 29, 3) := by decide +kernel
theorem dL_law_236 : decode cL_law 236 = .ok (.aload_n 2, 1) := by decide +kernel
theorem dL_law_237 : decode cL_law 237 = .ok (.aload_n 0, 1) := by decide +kernel
theorem dL_law_238 : decode cL_law 238 = .ok (.iload_n 3, 1) := by decide +kernel
theorem dL_law_239 : decode cL_law 239 = .ok (.iconst 1, 1) := by decide +kernel
theorem dL_law_240 : decode cL_law 240 = .ok (.iadd, 1) := by decide +kernel
theorem dL_law_241 : decode cL_law 241 = .ok (.iaload, 1) := by decide +kernel
theorem dL_law_242 : decode cL_law 242 = .ok (.invokevirtual 32, 3) := by decide +kernel
theorem dL_law_245 : decode cL_law 245 = .ok (.if_icmp .eq 600, 3) := by decide +kernel
theorem dL_law_248 : decode cL_law 248 = .ok (.iconst 0, 1) := by decide +kernel
theorem dL_law_249 : decode cL_law 249 = .ok (.ireturn, 1) := by decide +kernel
theorem dL_law_250 : decode cL_law 250 = .ok (.aload_n 1, 1) := by decide +kernel
theorem dL_law_251 : decode cL_law 251 = .ok (.aload_n 0, 1) := by decide +kernel
theorem dL_law_252 : decode cL_law 252 = .ok (.iload_n 3, 1) := by decide +kernel
theorem dL_law_253 : decode cL_law 253 = .ok (.iconst 1, 1) := by decide +kernel
theorem dL_law_254 : decode cL_law 254 = .ok (.iadd, 1) := by decide +kernel
theorem dL_law_255 : decode cL_law 255 = .ok (.iaload, 1) := by decide +kernel
theorem dL_law_256 : decode cL_law 256 = .ok (.invokevirtual 33, 3) := by decide +kernel
theorem dL_law_259 : decode cL_law 259 = .ok (.aload_n 2, 1) := by decide +kernel
theorem dL_law_260 : decode cL_law 260 = .ok (.aload_n 0, 1) := by decide +kernel
theorem dL_law_261 : decode cL_law 261 = .ok (.iload_n 3, 1) := by decide +kernel
theorem dL_law_262 : decode cL_law 262 = .ok (.iconst 1, 1) := by decide +kernel
theorem dL_law_263 : decode cL_law 263 = .ok (.iadd, 1) := by decide +kernel
theorem dL_law_264 : decode cL_law 264 = .ok (.iaload, 1) := by decide +kernel
theorem dL_law_265 : decode cL_law 265 = .ok (.invokevirtual 36, 3) := by decide +kernel
theorem dL_law_268 : decode cL_law 268 = .ok (.if_icmp .eq 577, 3) := by decide +kernel
theorem dL_law_271 : decode cL_law 271 = .ok (.iconst 0, 1) := by decide +kernel
theorem dL_law_272 : decode cL_law 272 = .ok (.ireturn, 1) := by decide +kernel
theorem dL_law_273 : decode cL_law 273 = .ok (.aload_n 1, 1) := by decide +kernel
theorem dL_law_274 : decode cL_law 274 = .ok (.invokevirtual 37, 3) := by decide +kernel
theorem dL_law_277 : decode cL_law 277 = .ok (.aload_n 2, 1) := by decide +kernel
theorem dL_law_278 : decode cL_law 278 = .ok (.invokevirtual 41, 3) := by decide +kernel
theorem dL_law_281 : decode cL_law 281 = .ok (.if_icmp .eq 564, 3) := by decide +kernel
theorem dL_law_284 : decode cL_law 284 = .ok (.iconst 0, 1) := by decide +kernel
theorem dL_law_285 : decode cL_law 285 = .ok (.ireturn, 1) := by decide +kernel
theorem dL_law_286 : decode cL_law 286 = .ok (.aload_n 1, 1) := by decide +kernel
theorem dL_law_287 : decode cL_law 287 = .ok (.aload_n 0, 1) := by decide +kernel
theorem dL_law_288 : decode cL_law 288 = .ok (.iload_n 3, 1) := by decide +kernel
theorem dL_law_289 : decode cL_law 289 = .ok (.iconst 1, 1) := by decide +kernel
theorem dL_law_290 : decode cL_law 290 = .ok (.iadd, 1) := by decide +kernel
theorem dL_law_291 : decode cL_law 291 = .ok (.iaload, 1) := by decide +kernel
theorem dL_law_292 : decode cL_law 292 = .ok (.aload_n 0, 1) := by decide +kernel
theorem dL_law_293 : decode cL_law 293 = .ok (.iload_n 3, 1) := by decide +kernel
theorem dL_law_294 : decode cL_law 294 = .ok (.iconst 2, 1) := by decide +kernel
theorem dL_law_295 : decode cL_law 295 = .ok (.iadd, 1) := by decide +kernel
theorem dL_law_296 : decode cL_law 296 = .ok (.iaload, 1) := by decide +kernel
theorem dL_law_297 : decode cL_law 297 = .ok (.invokevirtual 42, 3) := by decide +kernel
theorem dL_law_300 : decode cL_law 300 = .ok (.aload_n 2, 1) := by decide +kernel
theorem dL_law_301 : decode cL_law 301 = .ok (.aload_n 0, 1) := by decide +kernel
theorem dL_law_302 : decode cL_law 302 = .ok (.iload_n 3, 1) := by decide +kernel
theorem dL_law_303 : decode cL_law 303 = .ok (.iconst 1, 1) := by decide +kernel
theorem dL_law_304 : decode cL_law 304 = .ok (.iadd, 1) := by decide +kernel
theorem dL_law_305 : decode cL_law 305 = .ok (.iaload, 1) := by decide +kernel
theorem dL_law_306 : decode cL_law 306 = .ok (.aload_n 0, 1) := by decide +kernel
theorem dL_law_307 : decode cL_law 307 = .ok (.iload_n 3, 1) := by decide +kernel
theorem dL_law_308 : decode cL_law 308 = .ok (.iconst 2, 1) := by decide +kernel
theorem dL_law_309 : decode cL_law 309 = .ok (.iadd, 1) := by decide +kernel
theorem dL_law_310 : decode cL_law 310 = .ok (.iaload, 1) := by decide +kernel
theorem dL_law_311 : decode cL_law 311 = .ok (.invokevirtual 46, 3) := by decide +kernel
theorem dL_law_314 : decode cL_law 314 = .ok (.if_icmp .eq 531, 3) := by decide +kernel
theorem dL_law_317 : decode cL_law 317 = .ok (.iconst 0, 1) := by decide +kernel
theorem dL_law_318 : decode cL_law 318 = .ok (.ireturn, 1) := by decide +kernel
theorem dL_law_319 : decode cL_law 319 = .ok (.aload_n 1, 1) := by decide +kernel
theorem dL_law_320 : decode cL_law 320 = .ok (.aload_n 0, 1) := by decide +kernel
theorem dL_law_321 : decode cL_law 321 = .ok (.iload_n 3, 1) := by decide +kernel
theorem dL_law_322 : decode cL_law 322 = .ok (.iconst 1, 1) := by decide +kernel
theorem dL_law_323 : decode cL_law 323 = .ok (.iadd, 1) := by decide +kernel
theorem dL_law_324 : decode cL_law 324 = .ok (.iaload, 1) := by decide +kernel
theorem dL_law_325 : decode cL_law 325 = .ok (.invokevirtual 47, 3) := by decide +kernel
theorem dL_law_328 : decode cL_law 328 = .ok (.aload_n 2, 1) := by decide +kernel
theorem dL_law_329 : decode cL_law 329 = .ok (.aload_n 0, 1) := by decide +kernel
theorem dL_law_330 : decode cL_law 330 = .ok (.iload_n 3, 1) := by decide +kernel
theorem dL_law_331 : decode cL_law 331 = .ok (.iconst 1, 1) := by decide +kernel
theorem dL_law_332 : decode cL_law 332 = .ok (.iadd, 1) := by decide +kernel
theorem dL_law_333 : decode cL_law 333 = .ok (.iaload, 1) := by decide +kernel
theorem dL_law_334 : decode cL_law 334 = .ok (.invokevirtual 50, 3) := by decide +kernel
theorem dL_law_337 : decode cL_law 337 = .ok (.if_icmp .eq 508, 3) := by decide +kernel
theorem dL_law_340 : decode cL_law 340 = .ok (.iconst 0, 1) := by decide +kernel
theorem dL_law_341 : decode cL_law 341 = .ok (.ireturn, 1) := by decide +kernel
theorem dL_law_342 : decode cL_law 342 = .ok (.aload_n 1, 1) := by decide +kernel
theorem dL_law_343 : decode cL_law 343 = .ok (.aload_n 0, 1) := by decide +kernel
theorem dL_law_344 : decode cL_law 344 = .ok (.iload_n 3, 1) := by decide +kernel
theorem dL_law_345 : decode cL_law 345 = .ok (.iconst 1, 1) := by decide +kernel
theorem dL_law_346 : decode cL_law 346 = .ok (.iadd, 1) := by decide +kernel
theorem dL_law_347 : decode cL_law 347 = .ok (.iaload, 1) := by decide +kernel
theorem dL_law_348 : decode cL_law 348 = .ok (.ifCond .eq 7, 3) := by decide +kernel
theorem dL_law_351 : decode cL_law 351 = .ok (.iconst 1, 1) := by decide +kernel
theorem dL_law_352 : decode cL_law 352 = .ok (.goto 4, 3) := by decide +kernel
theorem dL_law_355 : decode cL_law 355 = .ok (.iconst 0, 1) := by decide +kernel
theorem dL_law_356 : decode cL_law 356 = .ok (.invokevirtual 51, 3) := by decide +kernel
theorem dL_law_359 : decode cL_law 359 = .ok (.aload_n 2, 1) := by decide +kernel
theorem dL_law_360 : decode cL_law 360 = .ok (.aload_n 0, 1) := by decide +kernel
theorem dL_law_361 : decode cL_law 361 = .ok (.iload_n 3, 1) := by decide +kernel
theorem dL_law_362 : decode cL_law 362 = .ok (.iconst 1, 1) := by decide +kernel
theorem dL_law_363 : decode cL_law 363 = .ok (.iadd, 1) := by decide +kernel
theorem dL_law_364 : decode cL_law 364 = .ok (.iaload, 1) := by decide +kernel
theorem dL_law_365 : decode cL_law 365 = .ok (.ifCond .eq 7, 3) := by decide +kernel
theorem dL_law_368 : decode cL_law 368 = .ok (.iconst 1, 1) := by decide +kernel
theorem dL_law_369 : decode cL_law 369 = .ok (.goto 4, 3) := by decide +kernel
theorem dL_law_372 : decode cL_law 372 = .ok (.iconst 0, 1) := by decide +kernel
theorem dL_law_373 : decode cL_law 373 = .ok (.invokevirtual 55, 3) := by decide +kernel
theorem dL_law_376 : decode cL_law 376 = .ok (.if_icmp .eq 469, 3) := by decide +kernel
theorem dL_law_379 : decode cL_law 379 = .ok (.iconst 0, 1) := by decide +kernel
theorem dL_law_380 : decode cL_law 380 = .ok (.ireturn, 1) := by decide +kernel
theorem dL_law_381 : decode cL_law 381 = .ok (.aload_n 1, 1) := by decide +kernel
theorem dL_law_382 : decode cL_law 382 = .ok (.invokevirtual 56, 3) := by decide +kernel
theorem dL_law_385 : decode cL_law 385 = .ok (.aload_n 2, 1) := by decide +kernel
theorem dL_law_386 : decode cL_law 386 = .ok (.invokevirtual 59, 3) := by decide +kernel
theorem dL_law_389 : decode cL_law 389 = .ok (.if_icmp .eq 456, 3) := by decide +kernel
theorem dL_law_392 : decode cL_law 392 = .ok (.iconst 0, 1) := by decide +kernel
theorem dL_law_393 : decode cL_law 393 = .ok (.ireturn, 1) := by decide +kernel
theorem dL_law_394 : decode cL_law 394 = .ok (.aload_n 1, 1) := by decide +kernel
theorem dL_law_395 : decode cL_law 395 = .ok (.aload_n 0, 1) := by decide +kernel
theorem dL_law_396 : decode cL_law 396 = .ok (.iload_n 3, 1) := by decide +kernel
theorem dL_law_397 : decode cL_law 397 = .ok (.iconst 1, 1) := by decide +kernel
theorem dL_law_398 : decode cL_law 398 = .ok (.iadd, 1) := by decide +kernel
theorem dL_law_399 : decode cL_law 399 = .ok (.iaload, 1) := by decide +kernel
theorem dL_law_400 : decode cL_law 400 = .ok (.aload_n 0, 1) := by decide +kernel
theorem dL_law_401 : decode cL_law 401 = .ok (.iload_n 3, 1) := by decide +kernel
theorem dL_law_402 : decode cL_law 402 = .ok (.iconst 2, 1) := by decide +kernel
theorem dL_law_403 : decode cL_law 403 = .ok (.iadd, 1) := by decide +kernel
theorem dL_law_404 : decode cL_law 404 = .ok (.iaload, 1) := by decide +kernel
theorem dL_law_405 : decode cL_law 405 = .ok (.aload_n 0, 1) := by decide +kernel
theorem dL_law_406 : decode cL_law 406 = .ok (.iload_n 3, 1) := by decide +kernel
theorem dL_law_407 : decode cL_law 407 = .ok (.iconst 3, 1) := by decide +kernel
theorem dL_law_408 : decode cL_law 408 = .ok (.iadd, 1) := by decide +kernel
theorem dL_law_409 : decode cL_law 409 = .ok (.iaload, 1) := by decide +kernel
theorem dL_law_410 : decode cL_law 410 = .ok (.aload_n 0, 1) := by decide +kernel
theorem dL_law_411 : decode cL_law 411 = .ok (.iload_n 3, 1) := by decide +kernel
theorem dL_law_412 : decode cL_law 412 = .ok (.iconst 4, 1) := by decide +kernel
theorem dL_law_413 : decode cL_law 413 = .ok (.iadd, 1) := by decide +kernel
theorem dL_law_414 : decode cL_law 414 = .ok (.iaload, 1) := by decide +kernel
theorem dL_law_415 : decode cL_law 415 = .ok (.aload_n 0, 1) := by decide +kernel
theorem dL_law_416 : decode cL_law 416 = .ok (.iload_n 3, 1) := by decide +kernel
theorem dL_law_417 : decode cL_law 417 = .ok (.iconst 5, 1) := by decide +kernel
theorem dL_law_418 : decode cL_law 418 = .ok (.iadd, 1) := by decide +kernel
theorem dL_law_419 : decode cL_law 419 = .ok (.iaload, 1) := by decide +kernel
theorem dL_law_420 : decode cL_law 420 = .ok (.invokevirtual 60, 3) := by decide +kernel
theorem dL_law_423 : decode cL_law 423 = .ok (.aload_n 2, 1) := by decide +kernel
theorem dL_law_424 : decode cL_law 424 = .ok (.aload_n 0, 1) := by decide +kernel
theorem dL_law_425 : decode cL_law 425 = .ok (.iload_n 3, 1) := by decide +kernel
theorem dL_law_426 : decode cL_law 426 = .ok (.iconst 1, 1) := by decide +kernel
theorem dL_law_427 : decode cL_law 427 = .ok (.iadd, 1) := by decide +kernel
theorem dL_law_428 : decode cL_law 428 = .ok (.iaload, 1) := by decide +kernel
theorem dL_law_429 : decode cL_law 429 = .ok (.aload_n 0, 1) := by decide +kernel
theorem dL_law_430 : decode cL_law 430 = .ok (.iload_n 3, 1) := by decide +kernel
theorem dL_law_431 : decode cL_law 431 = .ok (.iconst 2, 1) := by decide +kernel
theorem dL_law_432 : decode cL_law 432 = .ok (.iadd, 1) := by decide +kernel
theorem dL_law_433 : decode cL_law 433 = .ok (.iaload, 1) := by decide +kernel
theorem dL_law_434 : decode cL_law 434 = .ok (.aload_n 0, 1) := by decide +kernel
theorem dL_law_435 : decode cL_law 435 = .ok (.iload_n 3, 1) := by decide +kernel
theorem dL_law_436 : decode cL_law 436 = .ok (.iconst 3, 1) := by decide +kernel
theorem dL_law_437 : decode cL_law 437 = .ok (.iadd, 1) := by decide +kernel
theorem dL_law_438 : decode cL_law 438 = .ok (.iaload, 1) := by decide +kernel
theorem dL_law_439 : decode cL_law 439 = .ok (.aload_n 0, 1) := by decide +kernel
theorem dL_law_440 : decode cL_law 440 = .ok (.iload_n 3, 1) := by decide +kernel
theorem dL_law_441 : decode cL_law 441 = .ok (.iconst 4, 1) := by decide +kernel
theorem dL_law_442 : decode cL_law 442 = .ok (.iadd, 1) := by decide +kernel
theorem dL_law_443 : decode cL_law 443 = .ok (.iaload, 1) := by decide +kernel
theorem dL_law_444 : decode cL_law 444 = .ok (.aload_n 0, 1) := by decide +kernel
theorem dL_law_445 : decode cL_law 445 = .ok (.iload_n 3, 1) := by decide +kernel
theorem dL_law_446 : decode cL_law 446 = .ok (.iconst 5, 1) := by decide +kernel
theorem dL_law_447 : decode cL_law 447 = .ok (.iadd, 1) := by decide +kernel
theorem dL_law_448 : decode cL_law 448 = .ok (.iaload, 1) := by decide +kernel
theorem dL_law_449 : decode cL_law 449 = .ok (.invokevirtual 64, 3) := by decide +kernel
theorem dL_law_452 : decode cL_law 452 = .ok (.if_icmp .eq 393, 3) := by decide +kernel
theorem dL_law_455 : decode cL_law 455 = .ok (.iconst 0, 1) := by decide +kernel
theorem dL_law_456 : decode cL_law 456 = .ok (.ireturn, 1) := by decide +kernel
theorem dL_law_457 : decode cL_law 457 = .ok (.aload_n 1, 1) := by decide +kernel
theorem dL_law_458 : decode cL_law 458 = .ok (.aload_n 0, 1) := by decide +kernel
theorem dL_law_459 : decode cL_law 459 = .ok (.iload_n 3, 1) := by decide +kernel
theorem dL_law_460 : decode cL_law 460 = .ok (.iconst 1, 1) := by decide +kernel
theorem dL_law_461 : decode cL_law 461 = .ok (.iadd, 1) := by decide +kernel
theorem dL_law_462 : decode cL_law 462 = .ok (.iaload, 1) := by decide +kernel
theorem dL_law_463 : decode cL_law 463 = .ok (.aload_n 0, 1) := by decide +kernel
theorem dL_law_464 : decode cL_law 464 = .ok (.iload_n 3, 1) := by decide +kernel
theorem dL_law_465 : decode cL_law 465 = .ok (.iconst 2, 1) := by decide +kernel
theorem dL_law_466 : decode cL_law 466 = .ok (.iadd, 1) := by decide +kernel
theorem dL_law_467 : decode cL_law 467 = .ok (.iaload, 1) := by decide +kernel
theorem dL_law_468 : decode cL_law 468 = .ok (.aload_n 0, 1) := by decide +kernel
theorem dL_law_469 : decode cL_law 469 = .ok (.iload_n 3, 1) := by decide +kernel
theorem dL_law_470 : decode cL_law 470 = .ok (.iconst 3, 1) := by decide +kernel
theorem dL_law_471 : decode cL_law 471 = .ok (.iadd, 1) := by decide +kernel
theorem dL_law_472 : decode cL_law 472 = .ok (.iaload, 1) := by decide +kernel
theorem dL_law_473 : decode cL_law 473 = .ok (.invokevirtual 65, 3) := by decide +kernel
theorem dL_law_476 : decode cL_law 476 = .ok (.aload_n 2, 1) := by decide +kernel
theorem dL_law_477 : decode cL_law 477 = .ok (.aload_n 0, 1) := by decide +kernel
theorem dL_law_478 : decode cL_law 478 = .ok (.iload_n 3, 1) := by decide +kernel
theorem dL_law_479 : decode cL_law 479 = .ok (.iconst 1, 1) := by decide +kernel
theorem dL_law_480 : decode cL_law 480 = .ok (.iadd, 1) := by decide +kernel
theorem dL_law_481 : decode cL_law 481 = .ok (.iaload, 1) := by decide +kernel
theorem dL_law_482 : decode cL_law 482 = .ok (.aload_n 0, 1) := by decide +kernel
theorem dL_law_483 : decode cL_law 483 = .ok (.iload_n 3, 1) := by decide +kernel
theorem dL_law_484 : decode cL_law 484 = .ok (.iconst 2, 1) := by decide +kernel
theorem dL_law_485 : decode cL_law 485 = .ok (.iadd, 1) := by decide +kernel
theorem dL_law_486 : decode cL_law 486 = .ok (.iaload, 1) := by decide +kernel
theorem dL_law_487 : decode cL_law 487 = .ok (.aload_n 0, 1) := by decide +kernel
theorem dL_law_488 : decode cL_law 488 = .ok (.iload_n 3, 1) := by decide +kernel
theorem dL_law_489 : decode cL_law 489 = .ok (.iconst 3, 1) := by decide +kernel
theorem dL_law_490 : decode cL_law 490 = .ok (.iadd, 1) := by decide +kernel
theorem dL_law_491 : decode cL_law 491 = .ok (.iaload, 1) := by decide +kernel
theorem dL_law_492 : decode cL_law 492 = .ok (.invokevirtual 69, 3) := by decide +kernel
theorem dL_law_495 : decode cL_law 495 = .ok (.if_icmp .eq 350, 3) := by decide +kernel
theorem dL_law_498 : decode cL_law 498 = .ok (.iconst 0, 1) := by decide +kernel
theorem dL_law_499 : decode cL_law 499 = .ok (.ireturn, 1) := by decide +kernel
theorem dL_law_500 : decode cL_law 500 = .ok (.aload_n 1, 1) := by decide +kernel
theorem dL_law_501 : decode cL_law 501 = .ok (.aload_n 0, 1) := by decide +kernel
theorem dL_law_502 : decode cL_law 502 = .ok (.iload_n 3, 1) := by decide +kernel
theorem dL_law_503 : decode cL_law 503 = .ok (.iconst 1, 1) := by decide +kernel
theorem dL_law_504 : decode cL_law 504 = .ok (.iadd, 1) := by decide +kernel
theorem dL_law_505 : decode cL_law 505 = .ok (.iaload, 1) := by decide +kernel
theorem dL_law_506 : decode cL_law 506 = .ok (.aload_n 0, 1) := by decide +kernel
theorem dL_law_507 : decode cL_law 507 = .ok (.iload_n 3, 1) := by decide +kernel
theorem dL_law_508 : decode cL_law 508 = .ok (.iconst 2, 1) := by decide +kernel
theorem dL_law_509 : decode cL_law 509 = .ok (.iadd, 1) := by decide +kernel
theorem dL_law_510 : decode cL_law 510 = .ok (.iaload, 1) := by decide +kernel
theorem dL_law_511 : decode cL_law 511 = .ok (.invokevirtual 70, 3) := by decide +kernel
theorem dL_law_514 : decode cL_law 514 = .ok (.aload_n 2, 1) := by decide +kernel
theorem dL_law_515 : decode cL_law 515 = .ok (.aload_n 0, 1) := by decide +kernel
theorem dL_law_516 : decode cL_law 516 = .ok (.iload_n 3, 1) := by decide +kernel
theorem dL_law_517 : decode cL_law 517 = .ok (.iconst 1, 1) := by decide +kernel
theorem dL_law_518 : decode cL_law 518 = .ok (.iadd, 1) := by decide +kernel
theorem dL_law_519 : decode cL_law 519 = .ok (.iaload, 1) := by decide +kernel
theorem dL_law_520 : decode cL_law 520 = .ok (.aload_n 0, 1) := by decide +kernel
theorem dL_law_521 : decode cL_law 521 = .ok (.iload_n 3, 1) := by decide +kernel
theorem dL_law_522 : decode cL_law 522 = .ok (.iconst 2, 1) := by decide +kernel
theorem dL_law_523 : decode cL_law 523 = .ok (.iadd, 1) := by decide +kernel
theorem dL_law_524 : decode cL_law 524 = .ok (.iaload, 1) := by decide +kernel
theorem dL_law_525 : decode cL_law 525 = .ok (.invokevirtual 73, 3) := by decide +kernel
theorem dL_law_528 : decode cL_law 528 = .ok (.if_icmp .eq 317, 3) := by decide +kernel
theorem dL_law_531 : decode cL_law 531 = .ok (.iconst 0, 1) := by decide +kernel
theorem dL_law_532 : decode cL_law 532 = .ok (.ireturn, 1) := by decide +kernel
theorem dL_law_533 : decode cL_law 533 = .ok (.aload_n 1, 1) := by decide +kernel
theorem dL_law_534 : decode cL_law 534 = .ok (.aload_n 0, 1) := by decide +kernel
theorem dL_law_535 : decode cL_law 535 = .ok (.iload_n 3, 1) := by decide +kernel
theorem dL_law_536 : decode cL_law 536 = .ok (.iconst 1, 1) := by decide +kernel
theorem dL_law_537 : decode cL_law 537 = .ok (.iadd, 1) := by decide +kernel
theorem dL_law_538 : decode cL_law 538 = .ok (.iaload, 1) := by decide +kernel
theorem dL_law_539 : decode cL_law 539 = .ok (.ifCond .eq 7, 3) := by decide +kernel
theorem dL_law_542 : decode cL_law 542 = .ok (.iconst 1, 1) := by decide +kernel
theorem dL_law_543 : decode cL_law 543 = .ok (.goto 4, 3) := by decide +kernel
theorem dL_law_546 : decode cL_law 546 = .ok (.iconst 0, 1) := by decide +kernel
theorem dL_law_547 : decode cL_law 547 = .ok (.invokevirtual 74, 3) := by decide +kernel
theorem dL_law_550 : decode cL_law 550 = .ok (.aload_n 2, 1) := by decide +kernel
theorem dL_law_551 : decode cL_law 551 = .ok (.aload_n 0, 1) := by decide +kernel
theorem dL_law_552 : decode cL_law 552 = .ok (.iload_n 3, 1) := by decide +kernel
theorem dL_law_553 : decode cL_law 553 = .ok (.iconst 1, 1) := by decide +kernel
theorem dL_law_554 : decode cL_law 554 = .ok (.iadd, 1) := by decide +kernel
theorem dL_law_555 : decode cL_law 555 = .ok (.iaload, 1) := by decide +kernel
theorem dL_law_556 : decode cL_law 556 = .ok (.ifCond .eq 7, 3) := by decide +kernel
theorem dL_law_559 : decode cL_law 559 = .ok (.iconst 1, 1) := by decide +kernel
theorem dL_law_560 : decode cL_law 560 = .ok (.goto 4, 3) := by decide +kernel
theorem dL_law_563 : decode cL_law 563 = .ok (.iconst 0, 1) := by decide +kernel
theorem dL_law_564 : decode cL_law 564 = .ok (.invokevirtual 77, 3) := by decide +kernel
theorem dL_law_567 : decode cL_law 567 = .ok (.if_icmp .eq 278, 3) := by decide +kernel
theorem dL_law_570 : decode cL_law 570 = .ok (.iconst 0, 1) := by decide +kernel
theorem dL_law_571 : decode cL_law 571 = .ok (.ireturn, 1) := by decide +kernel
theorem dL_law_572 : decode cL_law 572 = .ok (.aload_n 1, 1) := by decide +kernel
theorem dL_law_573 : decode cL_law 573 = .ok (.aload_n 0, 1) := by decide +kernel
theorem dL_law_574 : decode cL_law 574 = .ok (.iload_n 3, 1) := by decide +kernel
theorem dL_law_575 : decode cL_law 575 = .ok (.iconst 1, 1) := by decide +kernel
theorem dL_law_576 : decode cL_law 576 = .ok (.iadd, 1) := by decide +kernel
theorem dL_law_577 : decode cL_law 577 = .ok (.iaload, 1) := by decide +kernel
theorem dL_law_578 : decode cL_law 578 = .ok (.aload_n 0, 1) := by decide +kernel
theorem dL_law_579 : decode cL_law 579 = .ok (.iload_n 3, 1) := by decide +kernel
theorem dL_law_580 : decode cL_law 580 = .ok (.iconst 2, 1) := by decide +kernel
theorem dL_law_581 : decode cL_law 581 = .ok (.iadd, 1) := by decide +kernel
theorem dL_law_582 : decode cL_law 582 = .ok (.iaload, 1) := by decide +kernel
theorem dL_law_583 : decode cL_law 583 = .ok (.ifCond .eq 7, 3) := by decide +kernel
theorem dL_law_586 : decode cL_law 586 = .ok (.iconst 1, 1) := by decide +kernel
theorem dL_law_587 : decode cL_law 587 = .ok (.goto 4, 3) := by decide +kernel
theorem dL_law_590 : decode cL_law 590 = .ok (.iconst 0, 1) := by decide +kernel
theorem dL_law_591 : decode cL_law 591 = .ok (.invokevirtual 78, 3) := by decide +kernel
theorem dL_law_594 : decode cL_law 594 = .ok (.aload_n 2, 1) := by decide +kernel
theorem dL_law_595 : decode cL_law 595 = .ok (.aload_n 0, 1) := by decide +kernel
theorem dL_law_596 : decode cL_law 596 = .ok (.iload_n 3, 1) := by decide +kernel
theorem dL_law_597 : decode cL_law 597 = .ok (.iconst 1, 1) := by decide +kernel
theorem dL_law_598 : decode cL_law 598 = .ok (.iadd, 1) := by decide +kernel
theorem dL_law_599 : decode cL_law 599 = .ok (.iaload, 1) := by decide +kernel
theorem dL_law_600 : decode cL_law 600 = .ok (.aload_n 0, 1) := by decide +kernel
theorem dL_law_601 : decode cL_law 601 = .ok (.iload_n 3, 1) := by decide +kernel
theorem dL_law_602 : decode cL_law 602 = .ok (.iconst 2, 1) := by decide +kernel
theorem dL_law_603 : decode cL_law 603 = .ok (.iadd, 1) := by decide +kernel
theorem dL_law_604 : decode cL_law 604 = .ok (.iaload, 1) := by decide +kernel
theorem dL_law_605 : decode cL_law 605 = .ok (.ifCond .eq 7, 3) := by decide +kernel
theorem dL_law_608 : decode cL_law 608 = .ok (.iconst 1, 1) := by decide +kernel
theorem dL_law_609 : decode cL_law 609 = .ok (.goto 4, 3) := by decide +kernel
theorem dL_law_612 : decode cL_law 612 = .ok (.iconst 0, 1) := by decide +kernel
theorem dL_law_613 : decode cL_law 613 = .ok (.invokevirtual 82, 3) := by decide +kernel
theorem dL_law_616 : decode cL_law 616 = .ok (.if_icmp .eq 229, 3) := by decide +kernel
theorem dL_law_619 : decode cL_law 619 = .ok (.iconst 0, 1) := by decide +kernel
theorem dL_law_620 : decode cL_law 620 = .ok (.ireturn, 1) := by decide +kernel
theorem dL_law_621 : decode cL_law 621 = .ok (.aload_n 1, 1) := by decide +kernel
theorem dL_law_622 : decode cL_law 622 = .ok (.aload_n 0, 1) := by decide +kernel
theorem dL_law_623 : decode cL_law 623 = .ok (.iload_n 3, 1) := by decide +kernel
theorem dL_law_624 : decode cL_law 624 = .ok (.iconst 1, 1) := by decide +kernel
theorem dL_law_625 : decode cL_law 625 = .ok (.iadd, 1) := by decide +kernel
theorem dL_law_626 : decode cL_law 626 = .ok (.iaload, 1) := by decide +kernel
theorem dL_law_627 : decode cL_law 627 = .ok (.invokevirtual 83, 3) := by decide +kernel
theorem dL_law_630 : decode cL_law 630 = .ok (.aload_n 2, 1) := by decide +kernel
theorem dL_law_631 : decode cL_law 631 = .ok (.aload_n 0, 1) := by decide +kernel
theorem dL_law_632 : decode cL_law 632 = .ok (.iload_n 3, 1) := by decide +kernel
theorem dL_law_633 : decode cL_law 633 = .ok (.iconst 1, 1) := by decide +kernel
theorem dL_law_634 : decode cL_law 634 = .ok (.iadd, 1) := by decide +kernel
theorem dL_law_635 : decode cL_law 635 = .ok (.iaload, 1) := by decide +kernel
theorem dL_law_636 : decode cL_law 636 = .ok (.invokevirtual 86, 3) := by decide +kernel
theorem dL_law_639 : decode cL_law 639 = .ok (.if_icmp .eq 206, 3) := by decide +kernel
theorem dL_law_642 : decode cL_law 642 = .ok (.iconst 0, 1) := by decide +kernel
theorem dL_law_643 : decode cL_law 643 = .ok (.ireturn, 1) := by decide +kernel
theorem dL_law_644 : decode cL_law 644 = .ok (.aload_n 1, 1) := by decide +kernel
theorem dL_law_645 : decode cL_law 645 = .ok (.aload_n 0, 1) := by decide +kernel
theorem dL_law_646 : decode cL_law 646 = .ok (.iload_n 3, 1) := by decide +kernel
theorem dL_law_647 : decode cL_law 647 = .ok (.iconst 1, 1) := by decide +kernel
theorem dL_law_648 : decode cL_law 648 = .ok (.iadd, 1) := by decide +kernel
theorem dL_law_649 : decode cL_law 649 = .ok (.iaload, 1) := by decide +kernel
theorem dL_law_650 : decode cL_law 650 = .ok (.aload_n 0, 1) := by decide +kernel
theorem dL_law_651 : decode cL_law 651 = .ok (.iload_n 3, 1) := by decide +kernel
theorem dL_law_652 : decode cL_law 652 = .ok (.iconst 2, 1) := by decide +kernel
theorem dL_law_653 : decode cL_law 653 = .ok (.iadd, 1) := by decide +kernel
theorem dL_law_654 : decode cL_law 654 = .ok (.iaload, 1) := by decide +kernel
theorem dL_law_655 : decode cL_law 655 = .ok (.invokevirtual 87, 3) := by decide +kernel
theorem dL_law_658 : decode cL_law 658 = .ok (.aload_n 2, 1) := by decide +kernel
theorem dL_law_659 : decode cL_law 659 = .ok (.aload_n 0, 1) := by decide +kernel
theorem dL_law_660 : decode cL_law 660 = .ok (.iload_n 3, 1) := by decide +kernel
theorem dL_law_661 : decode cL_law 661 = .ok (.iconst 1, 1) := by decide +kernel
theorem dL_law_662 : decode cL_law 662 = .ok (.iadd, 1) := by decide +kernel
theorem dL_law_663 : decode cL_law 663 = .ok (.iaload, 1) := by decide +kernel
theorem dL_law_664 : decode cL_law 664 = .ok (.aload_n 0, 1) := by decide +kernel
theorem dL_law_665 : decode cL_law 665 = .ok (.iload_n 3, 1) := by decide +kernel
theorem dL_law_666 : decode cL_law 666 = .ok (.iconst 2, 1) := by decide +kernel
theorem dL_law_667 : decode cL_law 667 = .ok (.iadd, 1) := by decide +kernel
theorem dL_law_668 : decode cL_law 668 = .ok (.iaload, 1) := by decide +kernel
theorem dL_law_669 : decode cL_law 669 = .ok (.invokevirtual 90, 3) := by decide +kernel
theorem dL_law_672 : decode cL_law 672 = .ok (.if_icmp .eq 173, 3) := by decide +kernel
theorem dL_law_675 : decode cL_law 675 = .ok (.iconst 0, 1) := by decide +kernel
theorem dL_law_676 : decode cL_law 676 = .ok (.ireturn, 1) := by decide +kernel
theorem dL_law_677 : decode cL_law 677 = .ok (.aload_n 1, 1) := by decide +kernel
theorem dL_law_678 : decode cL_law 678 = .ok (.aload_n 0, 1) := by decide +kernel
theorem dL_law_679 : decode cL_law 679 = .ok (.iload_n 3, 1) := by decide +kernel
theorem dL_law_680 : decode cL_law 680 = .ok (.iconst 1, 1) := by decide +kernel
theorem dL_law_681 : decode cL_law 681 = .ok (.iadd, 1) := by decide +kernel
theorem dL_law_682 : decode cL_law 682 = .ok (.iaload, 1) := by decide +kernel
theorem dL_law_683 : decode cL_law 683 = .ok (.aload_n 0, 1) := by decide +kernel
theorem dL_law_684 : decode cL_law 684 = .ok (.iload_n 3, 1) := by decide +kernel
theorem dL_law_685 : decode cL_law 685 = .ok (.iconst 2, 1) := by decide +kernel
theorem dL_law_686 : decode cL_law 686 = .ok (.iadd, 1) := by decide +kernel
theorem dL_law_687 : decode cL_law 687 = .ok (.iaload, 1) := by decide +kernel
theorem dL_law_688 : decode cL_law 688 = .ok (.invokevirtual 91, 3) := by decide +kernel
theorem dL_law_691 : decode cL_law 691 = .ok (.aload_n 2, 1) := by decide +kernel
theorem dL_law_692 : decode cL_law 692 = .ok (.aload_n 0, 1) := by decide +kernel
theorem dL_law_693 : decode cL_law 693 = .ok (.iload_n 3, 1) := by decide +kernel
theorem dL_law_694 : decode cL_law 694 = .ok (.iconst 1, 1) := by decide +kernel
theorem dL_law_695 : decode cL_law 695 = .ok (.iadd, 1) := by decide +kernel
theorem dL_law_696 : decode cL_law 696 = .ok (.iaload, 1) := by decide +kernel
theorem dL_law_697 : decode cL_law 697 = .ok (.aload_n 0, 1) := by decide +kernel
theorem dL_law_698 : decode cL_law 698 = .ok (.iload_n 3, 1) := by decide +kernel
theorem dL_law_699 : decode cL_law 699 = .ok (.iconst 2, 1) := by decide +kernel
theorem dL_law_700 : decode cL_law 700 = .ok (.iadd, 1) := by decide +kernel
theorem dL_law_701 : decode cL_law 701 = .ok (.iaload, 1) := by decide +kernel
theorem dL_law_702 : decode cL_law 702 = .ok (.invokevirtual 94, 3) := by decide +kernel
theorem dL_law_705 : decode cL_law 705 = .ok (.if_icmp .eq 140, 3) := by decide +kernel
theorem dL_law_708 : decode cL_law 708 = .ok (.iconst 0, 1) := by decide +kernel
theorem dL_law_709 : decode cL_law 709 = .ok (.ireturn, 1) := by decide +kernel
theorem dL_law_710 : decode cL_law 710 = .ok (.aload_n 1, 1) := by decide +kernel
theorem dL_law_711 : decode cL_law 711 = .ok (.aload_n 0, 1) := by decide +kernel
theorem dL_law_712 : decode cL_law 712 = .ok (.iload_n 3, 1) := by decide +kernel
theorem dL_law_713 : decode cL_law 713 = .ok (.iconst 1, 1) := by decide +kernel
theorem dL_law_714 : decode cL_law 714 = .ok (.iadd, 1) := by decide +kernel
theorem dL_law_715 : decode cL_law 715 = .ok (.iaload, 1) := by decide +kernel
theorem dL_law_716 : decode cL_law 716 = .ok (.aload_n 0, 1) := by decide +kernel
theorem dL_law_717 : decode cL_law 717 = .ok (.iload_n 3, 1) := by decide +kernel
theorem dL_law_718 : decode cL_law 718 = .ok (.iconst 2, 1) := by decide +kernel
theorem dL_law_719 : decode cL_law 719 = .ok (.iadd, 1) := by decide +kernel
theorem dL_law_720 : decode cL_law 720 = .ok (.iaload, 1) := by decide +kernel
theorem dL_law_721 : decode cL_law 721 = .ok (.invokevirtual 95, 3) := by decide +kernel
theorem dL_law_724 : decode cL_law 724 = .ok (.aload_n 2, 1) := by decide +kernel
theorem dL_law_725 : decode cL_law 725 = .ok (.aload_n 0, 1) := by decide +kernel
theorem dL_law_726 : decode cL_law 726 = .ok (.iload_n 3, 1) := by decide +kernel
theorem dL_law_727 : decode cL_law 727 = .ok (.iconst 1, 1) := by decide +kernel
theorem dL_law_728 : decode cL_law 728 = .ok (.iadd, 1) := by decide +kernel
theorem dL_law_729 : decode cL_law 729 = .ok (.iaload, 1) := by decide +kernel
theorem dL_law_730 : decode cL_law 730 = .ok (.aload_n 0, 1) := by decide +kernel
theorem dL_law_731 : decode cL_law 731 = .ok (.iload_n 3, 1) := by decide +kernel
theorem dL_law_732 : decode cL_law 732 = .ok (.iconst 2, 1) := by decide +kernel
theorem dL_law_733 : decode cL_law 733 = .ok (.iadd, 1) := by decide +kernel
theorem dL_law_734 : decode cL_law 734 = .ok (.iaload, 1) := by decide +kernel
theorem dL_law_735 : decode cL_law 735 = .ok (.invokevirtual 98, 3) := by decide +kernel
theorem dL_law_738 : decode cL_law 738 = .ok (.if_icmp .eq 107, 3) := by decide +kernel
theorem dL_law_741 : decode cL_law 741 = .ok (.iconst 0, 1) := by decide +kernel
theorem dL_law_742 : decode cL_law 742 = .ok (.ireturn, 1) := by decide +kernel
theorem dL_law_743 : decode cL_law 743 = .ok (.aload_n 1, 1) := by decide +kernel
theorem dL_law_744 : decode cL_law 744 = .ok (.aload_n 0, 1) := by decide +kernel
theorem dL_law_745 : decode cL_law 745 = .ok (.iload_n 3, 1) := by decide +kernel
theorem dL_law_746 : decode cL_law 746 = .ok (.iconst 1, 1) := by decide +kernel
theorem dL_law_747 : decode cL_law 747 = .ok (.iadd, 1) := by decide +kernel
theorem dL_law_748 : decode cL_law 748 = .ok (.iaload, 1) := by decide +kernel
theorem dL_law_749 : decode cL_law 749 = .ok (.aload_n 0, 1) := by decide +kernel
theorem dL_law_750 : decode cL_law 750 = .ok (.iload_n 3, 1) := by decide +kernel
theorem dL_law_751 : decode cL_law 751 = .ok (.iconst 2, 1) := by decide +kernel
theorem dL_law_752 : decode cL_law 752 = .ok (.iadd, 1) := by decide +kernel
theorem dL_law_753 : decode cL_law 753 = .ok (.iaload, 1) := by decide +kernel
theorem dL_law_754 : decode cL_law 754 = .ok (.invokevirtual 99, 3) := by decide +kernel
theorem dL_law_757 : decode cL_law 757 = .ok (.aload_n 2, 1) := by decide +kernel
theorem dL_law_758 : decode cL_law 758 = .ok (.aload_n 0, 1) := by decide +kernel
theorem dL_law_759 : decode cL_law 759 = .ok (.iload_n 3, 1) := by decide +kernel
theorem dL_law_760 : decode cL_law 760 = .ok (.iconst 1, 1) := by decide +kernel
theorem dL_law_761 : decode cL_law 761 = .ok (.iadd, 1) := by decide +kernel
theorem dL_law_762 : decode cL_law 762 = .ok (.iaload, 1) := by decide +kernel
theorem dL_law_763 : decode cL_law 763 = .ok (.aload_n 0, 1) := by decide +kernel
theorem dL_law_764 : decode cL_law 764 = .ok (.iload_n 3, 1) := by decide +kernel
theorem dL_law_765 : decode cL_law 765 = .ok (.iconst 2, 1) := by decide +kernel
theorem dL_law_766 : decode cL_law 766 = .ok (.iadd, 1) := by decide +kernel
theorem dL_law_767 : decode cL_law 767 = .ok (.iaload, 1) := by decide +kernel
theorem dL_law_768 : decode cL_law 768 = .ok (.invokevirtual 102, 3) := by decide +kernel
theorem dL_law_771 : decode cL_law 771 = .ok (.if_icmp .eq 74, 3) := by decide +kernel
theorem dL_law_774 : decode cL_law 774 = .ok (.iconst 0, 1) := by decide +kernel
theorem dL_law_775 : decode cL_law 775 = .ok (.ireturn, 1) := by decide +kernel
theorem dL_law_776 : decode cL_law 776 = .ok (.aload_n 1, 1) := by decide +kernel
theorem dL_law_777 : decode cL_law 777 = .ok (.aload_n 0, 1) := by decide +kernel
theorem dL_law_778 : decode cL_law 778 = .ok (.iload_n 3, 1) := by decide +kernel
theorem dL_law_779 : decode cL_law 779 = .ok (.iconst 1, 1) := by decide +kernel
theorem dL_law_780 : decode cL_law 780 = .ok (.iadd, 1) := by decide +kernel
theorem dL_law_781 : decode cL_law 781 = .ok (.iaload, 1) := by decide +kernel
theorem dL_law_782 : decode cL_law 782 = .ok (.aload_n 0, 1) := by decide +kernel
theorem dL_law_783 : decode cL_law 783 = .ok (.iload_n 3, 1) := by decide +kernel
theorem dL_law_784 : decode cL_law 784 = .ok (.iconst 2, 1) := by decide +kernel
theorem dL_law_785 : decode cL_law 785 = .ok (.iadd, 1) := by decide +kernel
theorem dL_law_786 : decode cL_law 786 = .ok (.iaload, 1) := by decide +kernel
theorem dL_law_787 : decode cL_law 787 = .ok (.invokevirtual 103, 3) := by decide +kernel
theorem dL_law_790 : decode cL_law 790 = .ok (.aload_n 2, 1) := by decide +kernel
theorem dL_law_791 : decode cL_law 791 = .ok (.aload_n 0, 1) := by decide +kernel
theorem dL_law_792 : decode cL_law 792 = .ok (.iload_n 3, 1) := by decide +kernel
theorem dL_law_793 : decode cL_law 793 = .ok (.iconst 1, 1) := by decide +kernel
theorem dL_law_794 : decode cL_law 794 = .ok (.iadd, 1) := by decide +kernel
theorem dL_law_795 : decode cL_law 795 = .ok (.iaload, 1) := by decide +kernel
theorem dL_law_796 : decode cL_law 796 = .ok (.aload_n 0, 1) := by decide +kernel
theorem dL_law_797 : decode cL_law 797 = .ok (.iload_n 3, 1) := by decide +kernel
theorem dL_law_798 : decode cL_law 798 = .ok (.iconst 2, 1) := by decide +kernel
theorem dL_law_799 : decode cL_law 799 = .ok (.iadd, 1) := by decide +kernel
theorem dL_law_800 : decode cL_law 800 = .ok (.iaload, 1) := by decide +kernel
theorem dL_law_801 : decode cL_law 801 = .ok (.invokevirtual 106, 3) := by decide +kernel
theorem dL_law_804 : decode cL_law 804 = .ok (.if_icmp .eq 41, 3) := by decide +kernel
theorem dL_law_807 : decode cL_law 807 = .ok (.iconst 0, 1) := by decide +kernel
theorem dL_law_808 : decode cL_law 808 = .ok (.ireturn, 1) := by decide +kernel
theorem dL_law_809 : decode cL_law 809 = .ok (.aload_n 1, 1) := by decide +kernel
theorem dL_law_810 : decode cL_law 810 = .ok (.invokevirtual 107, 3) := by decide +kernel
theorem dL_law_813 : decode cL_law 813 = .ok (.aload_n 2, 1) := by decide +kernel
theorem dL_law_814 : decode cL_law 814 = .ok (.invokevirtual 110, 3) := by decide +kernel
theorem dL_law_817 : decode cL_law 817 = .ok (.if_icmp .eq 28, 3) := by decide +kernel
theorem dL_law_820 : decode cL_law 820 = .ok (.iconst 0, 1) := by decide +kernel
theorem dL_law_821 : decode cL_law 821 = .ok (.ireturn, 1) := by decide +kernel
theorem dL_law_822 : decode cL_law 822 = .ok (.aload_n 1, 1) := by decide +kernel
theorem dL_law_823 : decode cL_law 823 = .ok (.aload_n 0, 1) := by decide +kernel
theorem dL_law_824 : decode cL_law 824 = .ok (.iload_n 3, 1) := by decide +kernel
theorem dL_law_825 : decode cL_law 825 = .ok (.iconst 1, 1) := by decide +kernel
theorem dL_law_826 : decode cL_law 826 = .ok (.iadd, 1) := by decide +kernel
theorem dL_law_827 : decode cL_law 827 = .ok (.iaload, 1) := by decide +kernel
theorem dL_law_828 : decode cL_law 828 = .ok (.invokevirtual 111, 3) := by decide +kernel
theorem dL_law_831 : decode cL_law 831 = .ok (.aload_n 2, 1) := by decide +kernel
theorem dL_law_832 : decode cL_law 832 = .ok (.aload_n 0, 1) := by decide +kernel
theorem dL_law_833 : decode cL_law 833 = .ok (.iload_n 3, 1) := by decide +kernel
theorem dL_law_834 : decode cL_law 834 = .ok (.iconst 1, 1) := by decide +kernel
theorem dL_law_835 : decode cL_law 835 = .ok (.iadd, 1) := by decide +kernel
theorem dL_law_836 : decode cL_law 836 = .ok (.iaload, 1) := by decide +kernel
theorem dL_law_837 : decode cL_law 837 = .ok (.invokevirtual 114, 3) := by decide +kernel
theorem dL_law_840 : decode cL_law 840 = .ok (.if_icmp .eq 5, 3) := by decide +kernel
theorem dL_law_843 : decode cL_law 843 = .ok (.iconst 0, 1) := by decide +kernel
theorem dL_law_844 : decode cL_law 844 = .ok (.ireturn, 1) := by decide +kernel
theorem dL_law_845 : decode cL_law 845 = .ok (.iinc 3 6, 3) := by decide +kernel
theorem dL_law_848 : decode cL_law 848 = .ok (.goto (-830), 3) := by decide +kernel
theorem dL_law_851 : decode cL_law 851 = .ok (.iconst 1, 1) := by decide +kernel
theorem dL_law_852 : decode cL_law 852 = .ok (.ireturn, 1) := by decide +kernel
theorem dX0_init_0 : decode cX0_init 0 = .ok (.aload_n 0, 1) := by decide +kernel
theorem dX0_init_1 : decode cX0_init 1 = .ok (.invokespecial 3, 3) := by decide +kernel
theorem dX0_init_4 : decode cX0_init 4 = .ok (.aload_n 0, 1) := by decide +kernel
theorem dX0_init_5 : decode cX0_init 5 = .ok (.sipush 512, 3) := by decide +kernel
theorem dX0_init_8 : decode cX0_init 8 = .ok (.putfield 9, 3) := by decide +kernel
theorem dX0_init_11 : decode cX0_init 11 = .ok (.aload_n 0, 1) := by decide +kernel
theorem dX0_init_12 : decode cX0_init 12 = .ok (.bipush 60, 2) := by decide +kernel
theorem dX0_init_14 : decode cX0_init 14 = .ok (.newarray .int, 2) := by decide +kernel
theorem dX0_init_16 : decode cX0_init 16 = .ok (.putfield 15, 3) := by decide +kernel
theorem dX0_init_19 : decode cX0_init 19 = .ok (.aload_n 0, 1) := by decide +kernel
theorem dX0_init_20 : decode cX0_init 20 = .ok (.sipush 180, 3) := by decide +kernel
theorem dX0_init_23 : decode cX0_init 23 = .ok (.newarray .int, 2) := by decide +kernel
theorem dX0_init_25 : decode cX0_init 25 = .ok (.putfield 19, 3) := by decide +kernel
theorem dX0_init_28 : decode cX0_init 28 = .ok (.aload_n 0, 1) := by decide +kernel
theorem dX0_init_29 : decode cX0_init 29 = .ok (.sipush 180, 3) := by decide +kernel
theorem dX0_init_32 : decode cX0_init 32 = .ok (.newarray .int, 2) := by decide +kernel
theorem dX0_init_34 : decode cX0_init 34 = .ok (.putfield 22, 3) := by decide +kernel
theorem dX0_init_37 : decode cX0_init 37 = .ok (.aload_n 0, 1) := by decide +kernel
theorem dX0_init_38 : decode cX0_init 38 = .ok (.sipush 600, 3) := by decide +kernel
theorem dX0_init_41 : decode cX0_init 41 = .ok (.newarray .int, 2) := by decide +kernel
theorem dX0_init_43 : decode cX0_init 43 = .ok (.putfield 25, 3) := by decide +kernel
theorem dX0_init_46 : decode cX0_init 46 = .ok (.aload_n 0, 1) := by decide +kernel
theorem dX0_init_47 : decode cX0_init 47 = .ok (.sipush 600, 3) := by decide +kernel
theorem dX0_init_50 : decode cX0_init 50 = .ok (.newarray .int, 2) := by decide +kernel
theorem dX0_init_52 : decode cX0_init 52 = .ok (.putfield 28, 3) := by decide +kernel
theorem dX0_init_55 : decode cX0_init 55 = .ok (.aload_n 0, 1) := by decide +kernel
theorem dX0_init_56 : decode cX0_init 56 = .ok (.sipush 600, 3) := by decide +kernel
theorem dX0_init_59 : decode cX0_init 59 = .ok (.newarray .int, 2) := by decide +kernel
theorem dX0_init_61 : decode cX0_init 61 = .ok (.putfield 31, 3) := by decide +kernel
theorem dX0_init_64 : decode cX0_init 64 = .ok (.aload_n 0, 1) := by decide +kernel
theorem dX0_init_65 : decode cX0_init 65 = .ok (.sipush 600, 3) := by decide +kernel
theorem dX0_init_68 : decode cX0_init 68 = .ok (.newarray .int, 2) := by decide +kernel
theorem dX0_init_70 : decode cX0_init 70 = .ok (.putfield 34, 3) := by decide +kernel
theorem dX0_init_73 : decode cX0_init 73 = .ok (.aload_n 0, 1) := by decide +kernel
theorem dX0_init_74 : decode cX0_init 74 = .ok (.sipush 600, 3) := by decide +kernel
theorem dX0_init_77 : decode cX0_init 77 = .ok (.newarray .int, 2) := by decide +kernel
theorem dX0_init_79 : decode cX0_init 79 = .ok (.putfield 37, 3) := by decide +kernel
theorem dX0_init_82 : decode cX0_init 82 = .ok (.aload_n 0, 1) := by decide +kernel
theorem dX0_init_83 : decode cX0_init 83 = .ok (.sipush 600, 3) := by decide +kernel
theorem dX0_init_86 : decode cX0_init 86 = .ok (.newarray .int, 2) := by decide +kernel
theorem dX0_init_88 : decode cX0_init 88 = .ok (.putfield 40, 3) := by decide +kernel
theorem dX0_init_91 : decode cX0_init 91 = .ok (.aload_n 0, 1) := by decide +kernel
theorem dX0_init_92 : decode cX0_init 92 = .ok (.sipush 600, 3) := by decide +kernel
theorem dX0_init_95 : decode cX0_init 95 = .ok (.newarray .int, 2) := by decide +kernel
theorem dX0_init_97 : decode cX0_init 97 = .ok (.putfield 43, 3) := by decide +kernel
theorem dX0_init_100 : decode cX0_init 100 = .ok (.aload_n 0, 1) := by decide +kernel
theorem dX0_init_101 : decode cX0_init 101 = .ok (.sipush 600, 3) := by decide +kernel
theorem dX0_init_104 : decode cX0_init 104 = .ok (.newarray .int, 2) := by decide +kernel
theorem dX0_init_106 : decode cX0_init 106 = .ok (.putfield 46, 3) := by decide +kernel
theorem dX0_init_109 : decode cX0_init 109 = .ok (.aload_n 0, 1) := by decide +kernel
theorem dX0_init_110 : decode cX0_init 110 = .ok (.sipush 600, 3) := by decide +kernel
theorem dX0_init_113 : decode cX0_init 113 = .ok (.newarray .int, 2) := by decide +kernel
theorem dX0_init_115 : decode cX0_init 115 = .ok (.putfield 49, 3) := by decide +kernel
theorem dX0_init_118 : decode cX0_init 118 = .ok (.aload_n 0, 1) := by decide +kernel
theorem dX0_init_119 : decode cX0_init 119 = .ok (.sipush 600, 3) := by decide +kernel
theorem dX0_init_122 : decode cX0_init 122 = .ok (.newarray .int, 2) := by decide +kernel
theorem dX0_init_124 : decode cX0_init 124 = .ok (.putfield 52, 3) := by decide +kernel
theorem dX0_init_127 : decode cX0_init 127 = .ok (.aload_n 0, 1) := by decide +kernel
theorem dX0_init_128 : decode cX0_init 128 = .ok (.sipush 2400, 3) := by decide +kernel
theorem dX0_init_131 : decode cX0_init 131 = .ok (.newarray .int, 2) := by decide +kernel
theorem dX0_init_133 : decode cX0_init 133 = .ok (.putfield 55, 3) := by decide +kernel
theorem dX0_init_136 : decode cX0_init 136 = .ok (.return_, 1) := by decide +kernel
theorem dX0_empty_0 : decode cX0_empty 0 = .ok (.aload_n 0, 1) := by decide +kernel
theorem dX0_empty_1 : decode cX0_empty 1 = .ok (.iload_n 1, 1) := by decide +kernel
theorem dX0_empty_2 : decode cX0_empty 2 = .ok (.putfield 9, 3) := by decide +kernel
theorem dX0_empty_5 : decode cX0_empty 5 = .ok (.aload_n 0, 1) := by decide +kernel
theorem dX0_empty_6 : decode cX0_empty 6 = .ok (.iconst 0, 1) := by decide +kernel
theorem dX0_empty_7 : decode cX0_empty 7 = .ok (.putfield 58, 3) := by decide +kernel
theorem dX0_empty_10 : decode cX0_empty 10 = .ok (.aload_n 0, 1) := by decide +kernel
theorem dX0_empty_11 : decode cX0_empty 11 = .ok (.iconst 0, 1) := by decide +kernel
theorem dX0_empty_12 : decode cX0_empty 12 = .ok (.putfield 61, 3) := by decide +kernel
theorem dX0_empty_15 : decode cX0_empty 15 = .ok (.aload_n 0, 1) := by decide +kernel
theorem dX0_empty_16 : decode cX0_empty 16 = .ok (.iconst 0, 1) := by decide +kernel
theorem dX0_empty_17 : decode cX0_empty 17 = .ok (.putfield 64, 3) := by decide +kernel
theorem dX0_empty_20 : decode cX0_empty 20 = .ok (.return_, 1) := by decide +kernel
theorem dX0_startBar_0 : decode cX0_startBar 0 = .ok (.aload_n 0, 1) := by decide +kernel
theorem dX0_startBar_1 : decode cX0_startBar 1 = .ok (.getfield 61, 3) := by decide +kernel
theorem dX0_startBar_4 : decode cX0_startBar 4 = .ok (.bipush 60, 2) := by decide +kernel
theorem dX0_startBar_6 : decode cX0_startBar 6 = .ok (.if_icmp .lt 5, 3) := by decide +kernel
theorem dX0_startBar_9 : decode cX0_startBar 9 = .ok (.iconst 0, 1) := by decide +kernel
theorem dX0_startBar_10 : decode cX0_startBar 10 = .ok (.ireturn, 1) := by decide +kernel
theorem dX0_startBar_11 : decode cX0_startBar 11 = .ok (.aload_n 0, 1) := by decide +kernel
theorem dX0_startBar_12 : decode cX0_startBar 12 = .ok (.getfield 15, 3) := by decide +kernel
theorem dX0_startBar_15 : decode cX0_startBar 15 = .ok (.aload_n 0, 1) := by decide +kernel
theorem dX0_startBar_16 : decode cX0_startBar 16 = .ok (.getfield 61, 3) := by decide +kernel
theorem dX0_startBar_19 : decode cX0_startBar 19 = .ok (.iconst 0, 1) := by decide +kernel
theorem dX0_startBar_20 : decode cX0_startBar 20 = .ok (.iastore, 1) := by decide +kernel
theorem dX0_startBar_21 : decode cX0_startBar 21 = .ok (.aload_n 0, 1) := by decide +kernel
theorem dX0_startBar_22 : decode cX0_startBar 22 = .ok (.dup, 1) := by decide +kernel
theorem dX0_startBar_23 : decode cX0_startBar 23 = .ok (.getfield 61, 3) := by decide +kernel
theorem dX0_startBar_26 : decode cX0_startBar 26 = .ok (.iconst 1, 1) := by decide +kernel
theorem dX0_startBar_27 : decode cX0_startBar 27 = .ok (.iadd, 1) := by decide +kernel
theorem dX0_startBar_28 : decode cX0_startBar 28 = .ok (.putfield 61, 3) := by decide +kernel
theorem dX0_startBar_31 : decode cX0_startBar 31 = .ok (.iload_n 1, 1) := by decide +kernel
theorem dX0_startBar_32 : decode cX0_startBar 32 = .ok (.ifCond .ne 10, 3) := by decide +kernel
theorem dX0_startBar_35 : decode cX0_startBar 35 = .ok (.aload_n 0, 1) := by decide +kernel
theorem dX0_startBar_36 : decode cX0_startBar 36 = .ok (.invokevirtual 67, 3) := by decide +kernel
theorem dX0_startBar_39 : decode cX0_startBar 39 = .ok (.ifCond .eq 7, 3) := by decide +kernel
theorem dX0_startBar_42 : decode cX0_startBar 42 = .ok (.iconst 1, 1) := by decide +kernel
theorem dX0_startBar_43 : decode cX0_startBar 43 = .ok (.goto 4, 3) := by decide +kernel
theorem dX0_startBar_46 : decode cX0_startBar 46 = .ok (.iconst 0, 1) := by decide +kernel
theorem dX0_startBar_47 : decode cX0_startBar 47 = .ok (.ireturn, 1) := by decide +kernel
theorem dX0_startVoice_0 : decode cX0_startVoice 0 = .ok (.aload_n 0, 1) := by decide +kernel
theorem dX0_startVoice_1 : decode cX0_startVoice 1 = .ok (.getfield 61, 3) := by decide +kernel
theorem dX0_startVoice_4 : decode cX0_startVoice 4 = .ok (.iconst 1, 1) := by decide +kernel
theorem dX0_startVoice_5 : decode cX0_startVoice 5 = .ok (.isub, 1) := by decide +kernel
theorem dX0_startVoice_6 : decode cX0_startVoice 6 = .ok (.istore_n 1, 1) := by decide +kernel
theorem dX0_startVoice_7 : decode cX0_startVoice 7 = .ok (.iload_n 1, 1) := by decide +kernel
theorem dX0_startVoice_8 : decode cX0_startVoice 8 = .ok (.ifCond .lt 13, 3) := by decide +kernel
theorem dX0_startVoice_11 : decode cX0_startVoice 11 = .ok (.aload_n 0, 1) := by decide +kernel
theorem dX0_startVoice_12 : decode cX0_startVoice 12 = .ok (.getfield 15, 3) := by decide +kernel
theorem dX0_startVoice_15 : decode cX0_startVoice 15 = .ok (.iload_n 1, 1) := by decide +kernel
theorem dX0_startVoice_16 : decode cX0_startVoice 16 = .ok (.iaload, 1) := by decide +kernel
theorem dX0_startVoice_17 : decode cX0_startVoice 17 = .ok (.iconst 3, 1) := by decide +kernel
theorem dX0_startVoice_18 : decode cX0_startVoice 18 = .ok (.if_icmp .lt 5, 3) := by decide +kernel
theorem dX0_startVoice_21 : decode cX0_startVoice 21 = .ok (.iconst 0, 1) := by decide +kernel
theorem dX0_startVoice_22 : decode cX0_startVoice 22 = .ok (.ireturn, 1) := by decide +kernel
theorem dX0_startVoice_23 : decode cX0_startVoice 23 = .ok (.iload_n 1, 1) := by decide +kernel
theorem dX0_startVoice_24 : decode cX0_startVoice 24 = .ok (.iconst 3, 1) := by decide +kernel
theorem dX0_startVoice_25 : decode cX0_startVoice 25 = .ok (.imul, 1) := by decide +kernel
theorem dX0_startVoice_26 : decode cX0_startVoice 26 = .ok (.aload_n 0, 1) := by decide +kernel
theorem dX0_startVoice_27 : decode cX0_startVoice 27 = .ok (.getfield 15, 3) := by decide +kernel
theorem dX0_startVoice_30 : decode cX0_startVoice 30 = .ok (.iload_n 1, 1) := by decide +kernel
theorem dX0_startVoice_31 : decode cX0_startVoice 31 = .ok (.iaload, 1) := by decide +kernel
theorem dX0_startVoice_32 : decode cX0_startVoice 32 = .ok (.iadd, 1) := by decide +kernel
theorem dX0_startVoice_33 : decode cX0_startVoice 33 = .ok (.istore_n 2, 1) := by decide +kernel
theorem dX0_startVoice_34 : decode cX0_startVoice 34 = .ok (.aload_n 0, 1) := by decide +kernel
theorem dX0_startVoice_35 : decode cX0_startVoice 35 = .ok (.getfield 19, 3) := by decide +kernel
theorem dX0_startVoice_38 : decode cX0_startVoice 38 = .ok (.iload_n 2, 1) := by decide +kernel
theorem dX0_startVoice_39 : decode cX0_startVoice 39 = .ok (.aload_n 0, 1) := by decide +kernel
theorem dX0_startVoice_40 : decode cX0_startVoice 40 = .ok (.getfield 64, 3) := by decide +kernel
theorem dX0_startVoice_43 : decode cX0_startVoice 43 = .ok (.iastore, 1) := by decide +kernel
theorem dX0_startVoice_44 : decode cX0_startVoice 44 = .ok (.aload_n 0, 1) := by decide +kernel
theorem dX0_startVoice_45 : decode cX0_startVoice 45 = .ok (.getfield 22, 3) := by decide +kernel
theorem dX0_startVoice_48 : decode cX0_startVoice 48 = .ok (.iload_n 2, 1) := by decide +kernel
theorem dX0_startVoice_49 : decode cX0_startVoice 49 = .ok (.iconst 0, 1) := by decide +kernel
theorem dX0_startVoice_50 : decode cX0_startVoice 50 = .ok (.iastore, 1) := by decide +kernel
theorem dX0_startVoice_51 : decode cX0_startVoice 51 = .ok (.aload_n 0, 1) := by decide +kernel
theorem dX0_startVoice_52 : decode cX0_startVoice 52 = .ok (.getfield 15, 3) := by decide +kernel
theorem dX0_startVoice_55 : decode cX0_startVoice 55 = .ok (.iload_n 1, 1) := by decide +kernel
theorem dX0_startVoice_56 : decode cX0_startVoice 56 = .ok (.dup2, 1) := by decide +kernel
theorem dX0_startVoice_57 : decode cX0_startVoice 57 = .ok (.iaload, 1) := by decide +kernel
theorem dX0_startVoice_58 : decode cX0_startVoice 58 = .ok (.iconst 1, 1) := by decide +kernel
theorem dX0_startVoice_59 : decode cX0_startVoice 59 = .ok (.iadd, 1) := by decide +kernel
theorem dX0_startVoice_60 : decode cX0_startVoice 60 = .ok (.iastore, 1) := by decide +kernel
theorem dX0_startVoice_61 : decode cX0_startVoice 61 = .ok (.iconst 1, 1) := by decide +kernel
theorem dX0_startVoice_62 : decode cX0_startVoice 62 = .ok (.ireturn, 1) := by decide +kernel
theorem dX0_slotOf_0 : decode cX0_slotOf 0 = .ok (.iload_n 1, 1) := by decide +kernel
theorem dX0_slotOf_1 : decode cX0_slotOf 1 = .ok (.ifCond .lt 25, 3) := by decide +kernel
theorem dX0_slotOf_4 : decode cX0_slotOf 4 = .ok (.iload_n 1, 1) := by decide +kernel
theorem dX0_slotOf_5 : decode cX0_slotOf 5 = .ok (.aload_n 0, 1) := by decide +kernel
theorem dX0_slotOf_6 : decode cX0_slotOf 6 = .ok (.getfield 61, 3) := by decide +kernel
theorem dX0_slotOf_9 : decode cX0_slotOf 9 = .ok (.if_icmp .ge 17, 3) := by decide +kernel
theorem dX0_slotOf_12 : decode cX0_slotOf 12 = .ok (.iload_n 2, 1) := by decide +kernel
theorem dX0_slotOf_13 : decode cX0_slotOf 13 = .ok (.ifCond .lt 13, 3) := by decide +kernel
theorem dX0_slotOf_16 : decode cX0_slotOf 16 = .ok (.iload_n 2, 1) := by decide +kernel
theorem dX0_slotOf_17 : decode cX0_slotOf 17 = .ok (.aload_n 0, 1) := by decide +kernel
theorem dX0_slotOf_18 : decode cX0_slotOf 18 = .ok (.getfield 15, 3) := by decide +kernel
theorem dX0_slotOf_21 : decode cX0_slotOf 21 = .ok (.iload_n 1, 1) := by decide +kernel
theorem dX0_slotOf_22 : decode cX0_slotOf 22 = .ok (.iaload, 1) := by decide +kernel
theorem dX0_slotOf_23 : decode cX0_slotOf 23 = .ok (.if_icmp .lt 5, 3) := by decide +kernel
theorem dX0_slotOf_26 : decode cX0_slotOf 26 = .ok (.iconst (-1), 1) := by decide +kernel
theorem dX0_slotOf_27 : decode cX0_slotOf 27 = .ok (.ireturn, 1) := by decide +kernel
theorem dX0_slotOf_28 : decode cX0_slotOf 28 = .ok (.iload_n 1, 1) := by decide +kernel
theorem dX0_slotOf_29 : decode cX0_slotOf 29 = .ok (.iconst 3, 1) := by decide +kernel
theorem dX0_slotOf_30 : decode cX0_slotOf 30 = .ok (.imul, 1) := by decide +kernel
theorem dX0_slotOf_31 : decode cX0_slotOf 31 = .ok (.iload_n 2, 1) := by decide +kernel
theorem dX0_slotOf_32 : decode cX0_slotOf 32 = .ok (.iadd, 1) := by decide +kernel
theorem dX0_slotOf_33 : decode cX0_slotOf 33 = .ok (.ireturn, 1) := by decide +kernel
theorem dX0_lastSlot_0 : decode cX0_lastSlot 0 = .ok (.aload_n 0, 1) := by decide +kernel
theorem dX0_lastSlot_1 : decode cX0_lastSlot 1 = .ok (.getfield 61, 3) := by decide +kernel
theorem dX0_lastSlot_4 : decode cX0_lastSlot 4 = .ok (.iconst 1, 1) := by decide +kernel
theorem dX0_lastSlot_5 : decode cX0_lastSlot 5 = .ok (.isub, 1) := by decide +kernel
theorem dX0_lastSlot_6 : decode cX0_lastSlot 6 = .ok (.istore_n 1, 1) := by decide +kernel
theorem dX0_lastSlot_7 : decode cX0_lastSlot 7 = .ok (.iload_n 1, 1) := by decide +kernel
theorem dX0_lastSlot_8 : decode cX0_lastSlot 8 = .ok (.ifCond .lt 12, 3) := by decide +kernel
theorem dX0_lastSlot_11 : decode cX0_lastSlot 11 = .ok (.aload_n 0, 1) := by decide +kernel
theorem dX0_lastSlot_12 : decode cX0_lastSlot 12 = .ok (.getfield 15, 3) := by decide +kernel
theorem dX0_lastSlot_15 : decode cX0_lastSlot 15 = .ok (.iload_n 1, 1) := by decide +kernel
theorem dX0_lastSlot_16 : decode cX0_lastSlot 16 = .ok (.iaload, 1) := by decide +kernel
theorem dX0_lastSlot_17 : decode cX0_lastSlot 17 = .ok (.ifCond .ne 7, 3) := by decide +kernel
theorem dX0_lastSlot_20 : decode cX0_lastSlot 20 = .ok (.iconst (-1), 1) := by decide +kernel
theorem dX0_lastSlot_21 : decode cX0_lastSlot 21 = .ok (.goto 15, 3) := by decide +kernel
theorem dX0_lastSlot_24 : decode cX0_lastSlot 24 = .ok (.iload_n 1, 1) := by decide +kernel
theorem dX0_lastSlot_25 : decode cX0_lastSlot 25 = .ok (.iconst 3, 1) := by decide +kernel
theorem dX0_lastSlot_26 : decode cX0_lastSlot 26 = .ok (.imul, 1) := by decide +kernel
theorem dX0_lastSlot_27 : decode cX0_lastSlot 27 = .ok (.aload_n 0, 1) := by decide +kernel
theorem dX0_lastSlot_28 : decode cX0_lastSlot 28 = .ok (.getfield 15, 3) := by decide +kernel
theorem dX0_lastSlot_31 : decode cX0_lastSlot 31 = .ok (.iload_n 1, 1) := by decide +kernel
theorem dX0_lastSlot_32 : decode cX0_lastSlot 32 = .ok (.iaload, 1) := by decide +kernel
theorem dX0_lastSlot_33 : decode cX0_lastSlot 33 = .ok (.iadd, 1) := by decide +kernel
theorem dX0_lastSlot_34 : decode cX0_lastSlot 34 = .ok (.iconst 1, 1) := by decide +kernel
theorem dX0_lastSlot_35 : decode cX0_lastSlot 35 = .ok (.isub, 1) := by decide +kernel
theorem dX0_lastSlot_36 : decode cX0_lastSlot 36 = .ok (.ireturn, 1) := by decide +kernel
theorem dX0_addItem_0 : decode cX0_addItem 0 = .ok (.aload_n 0, 1) := by decide +kernel
theorem dX0_addItem_1 : decode cX0_addItem 1 = .ok (.invokevirtual 71, 3) := by decide +kernel
theorem dX0_addItem_4 : decode cX0_addItem 4 = .ok (.istore 6, 2) := by decide +kernel
theorem dX0_addItem_6 : decode cX0_addItem 6 = .ok (.iload 6, 2) := by decide +kernel
theorem dX0_addItem_8 : decode cX0_addItem 8 = .ok (.ifCond .lt 13, 3) := by decide +kernel
theorem dX0_addItem_11 : decode cX0_addItem 11 = .ok (.aload_n 0, 1) := by decide +kernel
theorem dX0_addItem_12 : decode cX0_addItem 12 = .ok (.getfield 64, 3) := by decide +kernel
theorem dX0_addItem_15 : decode cX0_addItem 15 = .ok (.sipush 600, 3) := by decide +kernel
theorem dX0_addItem_18 : decode cX0_addItem 18 = .ok (.if_icmp .lt 5, 3) := by decide +kernel
theorem dX0_addItem_21 : decode cX0_addItem 21 = .ok (.iconst (-1), 1) := by decide +kernel
theorem dX0_addItem_22 : decode cX0_addItem 22 = .ok (.ireturn, 1) := by decide +kernel
theorem dX0_addItem_23 : decode cX0_addItem 23 = .ok (.aload_n 0, 1) := by decide +kernel
theorem dX0_addItem_24 : decode cX0_addItem 24 = .ok (.getfield 25, 3) := by decide +kernel
theorem dX0_addItem_27 : decode cX0_addItem 27 = .ok (.aload_n 0, 1) := by decide +kernel
theorem dX0_addItem_28 : decode cX0_addItem 28 = .ok (.getfield 64, 3) := by decide +kernel
theorem dX0_addItem_31 : decode cX0_addItem 31 = .ok (.aload_n 0, 1) := by decide +kernel
theorem dX0_addItem_32 : decode cX0_addItem 32 = .ok (.getfield 61, 3) := by decide +kernel
theorem dX0_addItem_35 : decode cX0_addItem 35 = .ok (.iconst 1, 1) := by decide +kernel
theorem dX0_addItem_36 : decode cX0_addItem 36 = .ok (.isub, 1) := by decide +kernel
theorem dX0_addItem_37 : decode cX0_addItem 37 = .ok (.iastore, 1) := by decide +kernel
theorem dX0_addItem_38 : decode cX0_addItem 38 = .ok (.aload_n 0, 1) := by decide +kernel
theorem dX0_addItem_39 : decode cX0_addItem 39 = .ok (.getfield 28, 3) := by decide +kernel
theorem dX0_addItem_42 : decode cX0_addItem 42 = .ok (.aload_n 0, 1) := by decide +kernel
theorem dX0_addItem_43 : decode cX0_addItem 43 = .ok (.getfield 64, 3) := by decide +kernel
theorem dX0_addItem_46 : decode cX0_addItem 46 = .ok (.aload_n 0, 1) := by decide +kernel
theorem dX0_addItem_47 : decode cX0_addItem 47 = .ok (.getfield 15, 3) := by decide +kernel
theorem dX0_addItem_50 : decode cX0_addItem 50 = .ok (.aload_n 0, 1) := by decide +kernel
theorem dX0_addItem_51 : decode cX0_addItem 51 = .ok (.getfield 61, 3) := by decide +kernel
theorem dX0_addItem_54 : decode cX0_addItem 54 = .ok (.iconst 1, 1) := by decide +kernel
theorem dX0_addItem_55 : decode cX0_addItem 55 = .ok (.isub, 1) := by decide +kernel
theorem dX0_addItem_56 : decode cX0_addItem 56 = .ok (.iaload, 1) := by decide +kernel
theorem dX0_addItem_57 : decode cX0_addItem 57 = .ok (.iconst 1, 1) := by decide +kernel
theorem dX0_addItem_58 : decode cX0_addItem 58 = .ok (.isub, 1) := by decide +kernel
theorem dX0_addItem_59 : decode cX0_addItem 59 = .ok (.iastore, 1) := by decide +kernel
theorem dX0_addItem_60 : decode cX0_addItem 60 = .ok (.aload_n 0, 1) := by decide +kernel
theorem dX0_addItem_61 : decode cX0_addItem 61 = .ok (.getfield 31, 3) := by decide +kernel
theorem dX0_addItem_64 : decode cX0_addItem 64 = .ok (.aload_n 0, 1) := by decide +kernel
theorem dX0_addItem_65 : decode cX0_addItem 65 = .ok (.getfield 64, 3) := by decide +kernel
theorem dX0_addItem_68 : decode cX0_addItem 68 = .ok (.iload_n 1, 1) := by decide +kernel
theorem dX0_addItem_69 : decode cX0_addItem 69 = .ok (.iastore, 1) := by decide +kernel
theorem dX0_addItem_70 : decode cX0_addItem 70 = .ok (.aload_n 0, 1) := by decide +kernel
theorem dX0_addItem_71 : decode cX0_addItem 71 = .ok (.getfield 34, 3) := by decide +kernel
theorem dX0_addItem_74 : decode cX0_addItem 74 = .ok (.aload_n 0, 1) := by decide +kernel
theorem dX0_addItem_75 : decode cX0_addItem 75 = .ok (.getfield 64, 3) := by decide +kernel
theorem dX0_addItem_78 : decode cX0_addItem 78 = .ok (.iload_n 2, 1) := by decide +kernel
theorem dX0_addItem_79 : decode cX0_addItem 79 = .ok (.iastore, 1) := by decide +kernel
theorem dX0_addItem_80 : decode cX0_addItem 80 = .ok (.aload_n 0, 1) := by decide +kernel
theorem dX0_addItem_81 : decode cX0_addItem 81 = .ok (.getfield 37, 3) := by decide +kernel
theorem dX0_addItem_84 : decode cX0_addItem 84 = .ok (.aload_n 0, 1) := by decide +kernel
theorem dX0_addItem_85 : decode cX0_addItem 85 = .ok (.getfield 64, 3) := by decide +kernel
theorem dX0_addItem_88 : decode cX0_addItem 88 = .ok (.iload_n 3, 1) := by decide +kernel
theorem dX0_addItem_89 : decode cX0_addItem 89 = .ok (.iastore, 1) := by decide +kernel
theorem dX0_addItem_90 : decode cX0_addItem 90 = .ok (.aload_n 0, 1) := by decide +kernel
theorem dX0_addItem_91 : decode cX0_addItem 91 = .ok (.getfield 40, 3) := by decide +kernel
theorem dX0_addItem_94 : decode cX0_addItem 94 = .ok (.aload_n 0, 1) := by decide +kernel
theorem dX0_addItem_95 : decode cX0_addItem 95 = .ok (.getfield 64, 3) := by decide +kernel
theorem dX0_addItem_98 : decode cX0_addItem 98 = .ok (.iload 4, 2) := by decide +kernel
theorem dX0_addItem_100 : decode cX0_addItem 100 = .ok (.iastore, 1) := by decide +kernel
theorem dX0_addItem_101 : decode cX0_addItem 101 = .ok (.aload_n 0, 1) := by decide +kernel
theorem dX0_addItem_102 : decode cX0_addItem 102 = .ok (.getfield 43, 3) := by decide +kernel
theorem dX0_addItem_105 : decode cX0_addItem 105 = .ok (.aload_n 0, 1) := by decide +kernel
theorem dX0_addItem_106 : decode cX0_addItem 106 = .ok (.getfield 64, 3) := by decide +kernel
theorem dX0_addItem_109 : decode cX0_addItem 109 = .ok (.iload 5, 2) := by decide +kernel
theorem dX0_addItem_111 : decode cX0_addItem 111 = .ok (.iastore, 1) := by decide +kernel
theorem dX0_addItem_112 : decode cX0_addItem 112 = .ok (.aload_n 0, 1) := by decide +kernel
theorem dX0_addItem_113 : decode cX0_addItem 113 = .ok (.getfield 46, 3) := by decide +kernel
theorem dX0_addItem_116 : decode cX0_addItem 116 = .ok (.aload_n 0, 1) := by decide +kernel
theorem dX0_addItem_117 : decode cX0_addItem 117 = .ok (.getfield 64, 3) := by decide +kernel
theorem dX0_addItem_120 : decode cX0_addItem 120 = .ok (.iconst 0, 1) := by decide +kernel
theorem dX0_addItem_121 : decode cX0_addItem 121 = .ok (.iastore, 1) := by decide +kernel
theorem dX0_addItem_122 : decode cX0_addItem 122 = .ok (.aload_n 0, 1) := by decide +kernel
theorem dX0_addItem_123 : decode cX0_addItem 123 = .ok (.getfield 49, 3) := by decide +kernel
theorem dX0_addItem_126 : decode cX0_addItem 126 = .ok (.aload_n 0, 1) := by decide +kernel
theorem dX0_addItem_127 : decode cX0_addItem 127 = .ok (.getfield 64, 3) := by decide +kernel
theorem dX0_addItem_130 : decode cX0_addItem 130 = .ok (.iconst 0, 1) := by decide +kernel
theorem dX0_addItem_131 : decode cX0_addItem 131 = .ok (.iastore, 1) := by decide +kernel
theorem dX0_addItem_132 : decode cX0_addItem 132 = .ok (.aload_n 0, 1) := by decide +kernel
theorem dX0_addItem_133 : decode cX0_addItem 133 = .ok (.getfield 52, 3) := by decide +kernel
theorem dX0_addItem_136 : decode cX0_addItem 136 = .ok (.aload_n 0, 1) := by decide +kernel
theorem dX0_addItem_137 : decode cX0_addItem 137 = .ok (.getfield 64, 3) := by decide +kernel
theorem dX0_addItem_140 : decode cX0_addItem 140 = .ok (.iconst 0, 1) := by decide +kernel
theorem dX0_addItem_141 : decode cX0_addItem 141 = .ok (.iastore, 1) := by decide +kernel
theorem dX0_addItem_142 : decode cX0_addItem 142 = .ok (.aload_n 0, 1) := by decide +kernel
theorem dX0_addItem_143 : decode cX0_addItem 143 = .ok (.getfield 22, 3) := by decide +kernel
theorem dX0_addItem_146 : decode cX0_addItem 146 = .ok (.iload 6, 2) := by decide +kernel
theorem dX0_addItem_148 : decode cX0_addItem 148 = .ok (.dup2, 1) := by decide +kernel
theorem dX0_addItem_149 : decode cX0_addItem 149 = .ok (.iaload, 1) := by decide +kernel
theorem dX0_addItem_150 : decode cX0_addItem 150 = .ok (.iconst 1, 1) := by decide +kernel
theorem dX0_addItem_151 : decode cX0_addItem 151 = .ok (.iadd, 1) := by decide +kernel
theorem dX0_addItem_152 : decode cX0_addItem 152 = .ok (.iastore, 1) := by decide +kernel
theorem dX0_addItem_153 : decode cX0_addItem 153 = .ok (.aload_n 0, 1) := by decide +kernel
theorem dX0_addItem_154 : decode cX0_addItem 154 = .ok (.dup, 1) := by decide +kernel
theorem dX0_addItem_155 : decode cX0_addItem 155 = .ok (.getfield 64, 3) := by decide +kernel
theorem dX0_addItem_158 : decode cX0_addItem 158 = .ok (.iconst 1, 1) := by decide +kernel
theorem dX0_addItem_159 : decode cX0_addItem 159 = .ok (.iadd, 1) := by decide +kernel
theorem dX0_addItem_160 : decode cX0_addItem 160 = .ok (.putfield 64, 3) := by decide +kernel
theorem dX0_addItem_163 : decode cX0_addItem 163 = .ok (.aload_n 0, 1) := by decide +kernel
theorem dX0_addItem_164 : decode cX0_addItem 164 = .ok (.getfield 64, 3) := by decide +kernel
theorem dX0_addItem_167 : decode cX0_addItem 167 = .ok (.iconst 1, 1) := by decide +kernel
theorem dX0_addItem_168 : decode cX0_addItem 168 = .ok (.isub, 1) := by decide +kernel
theorem dX0_addItem_169 : decode cX0_addItem 169 = .ok (.ireturn, 1) := by decide +kernel
theorem dX0_addInterval_0 : decode cX0_addInterval 0 = .ok (.aload_n 0, 1) := by decide +kernel
theorem dX0_addInterval_1 : decode cX0_addInterval 1 = .ok (.getfield 64, 3) := by decide +kernel
theorem dX0_addInterval_4 : decode cX0_addInterval 4 = .ok (.iconst 1, 1) := by decide +kernel
theorem dX0_addInterval_5 : decode cX0_addInterval 5 = .ok (.isub, 1) := by decide +kernel
theorem dX0_addInterval_6 : decode cX0_addInterval 6 = .ok (.istore_n 3, 1) := by decide +kernel
theorem dX0_addInterval_7 : decode cX0_addInterval 7 = .ok (.iload_n 3, 1) := by decide +kernel
theorem dX0_addInterval_8 : decode cX0_addInterval 8 = .ok (.ifCond .lt 13, 3) := by decide +kernel
theorem dX0_addInterval_11 : decode cX0_addInterval 11 = .ok (.aload_n 0, 1) := by decide +kernel
theorem dX0_addInterval_12 : decode cX0_addInterval 12 = .ok (.getfield 52, 3) := by decide +kernel
theorem dX0_addInterval_15 : decode cX0_addInterval 15 = .ok (.iload_n 3, 1) := by decide +kernel
theorem dX0_addInterval_16 : decode cX0_addInterval 16 = .ok (.iaload, 1) := by decide +kernel
theorem dX0_addInterval_17 : decode cX0_addInterval 17 = .ok (.iconst 4, 1) := by decide +kernel
theorem dX0_addInterval_18 : decode cX0_addInterval 18 = .ok (.if_icmp .lt 4, 3) := by decide +kernel
theorem dX0_addInterval_21 : decode cX0_addInterval 21 = .ok (.return_, 1) := by decide +kernel
theorem dX0_addInterval_22 : decode cX0_addInterval 22 = .ok (.aload_n 0, 1) := by decide +kernel
theorem dX0_addInterval_23 : decode cX0_addInterval 23 = .ok (.getfield 55, 3) := by decide +kernel
theorem dX0_addInterval_26 : decode cX0_addInterval 26 = .ok (.iload_n 3, 1) := by decide +kernel
theorem dX0_addInterval_27 : decode cX0_addInterval 27 = .ok (.iconst 4, 1) := by decide +kernel
theorem dX0_addInterval_28 : decode cX0_addInterval 28 = .ok (.imul, 1) := by decide +kernel
theorem dX0_addInterval_29 : decode cX0_addInterval 29 = .ok (.aload_n 0, 1) := by decide +kernel
theorem dX0_addInterval_30 : decode cX0_addInterval 30 = .ok (.getfield 52, 3) := by decide +kernel
theorem dX0_addInterval_33 : decode cX0_addInterval 33 = .ok (.iload_n 3, 1) := by decide +kernel
theorem dX0_addInterval_34 : decode cX0_addInterval 34 = .ok (.iaload, 1) := by decide +kernel
theorem dX0_addInterval_35 : decode cX0_addInterval 35 = .ok (.iadd, 1) := by decide +kernel
theorem dX0_addInterval_36 : decode cX0_addInterval 36 = .ok (.iload_n 1, 1) := by decide +kernel
theorem dX0_addInterval_37 : decode cX0_addInterval 37 = .ok (.bipush 16, 2) := by decide +kernel
theorem dX0_addInterval_39 : decode cX0_addInterval 39 = .ok (.iload_n 2, 1) := by decide +kernel
theorem dX0_addInterval_40 : decode cX0_addInterval 40 = .ok (.imul, 1) := by decide +kernel
theorem dX0_addInterval_41 : decode cX0_addInterval 41 = .ok (.iadd, 1) := by decide +kernel
theorem dX0_addInterval_42 : decode cX0_addInterval 42 = .ok (.iastore, 1) := by decide +kernel
theorem dX0_addInterval_43 : decode cX0_addInterval 43 = .ok (.aload_n 0, 1) := by decide +kernel
theorem dX0_addInterval_44 : decode cX0_addInterval 44 = .ok (.getfield 52, 3) := by decide +kernel
theorem dX0_addInterval_47 : decode cX0_addInterval 47 = .ok (.iload_n 3, 1) := by decide +kernel
theorem dX0_addInterval_48 : decode cX0_addInterval 48 = .ok (.dup2, 1) := by decide +kernel
theorem dX0_addInterval_49 : decode cX0_addInterval 49 = .ok (.iaload, 1) := by decide +kernel
theorem dX0_addInterval_50 : decode cX0_addInterval 50 = .ok (.iconst 1, 1) := by decide +kernel
theorem dX0_addInterval_51 : decode cX0_addInterval 51 = .ok (.iadd, 1) := by decide +kernel
theorem dX0_addInterval_52 : decode cX0_addInterval 52 = .ok (.iastore, 1) := by decide +kernel
theorem dX0_addInterval_53 : decode cX0_addInterval 53 = .ok (.return_, 1) := by decide +kernel
theorem dX0_intervalAt_0 : decode cX0_intervalAt 0 = .ok (.iload_n 2, 1) := by decide +kernel
theorem dX0_intervalAt_1 : decode cX0_intervalAt 1 = .ok (.ifCond .lt 26, 3) := by decide +kernel
theorem dX0_intervalAt_4 : decode cX0_intervalAt 4 = .ok (.iload_n 2, 1) := by decide +kernel
theorem dX0_intervalAt_5 : decode cX0_intervalAt 5 = .ok (.aload_n 0, 1) := by decide +kernel
theorem dX0_intervalAt_6 : decode cX0_intervalAt 6 = .ok (.getfield 52, 3) := by decide +kernel
theorem dX0_intervalAt_9 : decode cX0_intervalAt 9 = .ok (.iload_n 1, 1) := by decide +kernel
theorem dX0_intervalAt_10 : decode cX0_intervalAt 10 = .ok (.iaload, 1) := by decide +kernel
theorem dX0_intervalAt_11 : decode cX0_intervalAt 11 = .ok (.if_icmp .ge 16, 3) := by decide +kernel
theorem dX0_intervalAt_14 : decode cX0_intervalAt 14 = .ok (.aload_n 0, 1) := by decide +kernel
theorem dX0_intervalAt_15 : decode cX0_intervalAt 15 = .ok (.getfield 55, 3) := by decide +kernel
theorem dX0_intervalAt_18 : decode cX0_intervalAt 18 = .ok (.iload_n 1, 1) := by decide +kernel
theorem dX0_intervalAt_19 : decode cX0_intervalAt 19 = .ok (.iconst 4, 1) := by decide +kernel
theorem dX0_intervalAt_20 : decode cX0_intervalAt 20 = .ok (.imul, 1) := by decide +kernel
theorem dX0_intervalAt_21 : decode cX0_intervalAt 21 = .ok (.iload_n 2, 1) := by decide +kernel
theorem dX0_intervalAt_22 : decode cX0_intervalAt 22 = .ok (.iadd, 1) := by decide +kernel
theorem dX0_intervalAt_23 : decode cX0_intervalAt 23 = .ok (.iaload, 1) := by decide +kernel
theorem dX0_intervalAt_24 : decode cX0_intervalAt 24 = .ok (.goto 4, 3) := by decide +kernel
theorem dX0_intervalAt_27 : decode cX0_intervalAt 27 = .ok (.iconst 0, 1) := by decide +kernel
theorem dX0_intervalAt_28 : decode cX0_intervalAt 28 = .ok (.ireturn, 1) := by decide +kernel
theorem dX0_intervalPitch_0 : decode cX0_intervalPitch 0 = .ok (.iload_n 3, 1) := by decide +kernel
theorem dX0_intervalPitch_1 : decode cX0_intervalPitch 1 = .ok (.iconst 2, 1) := by decide +kernel
theorem dX0_intervalPitch_2 : decode cX0_intervalPitch 2 = .ok (.if_icmp .ne 16, 3) := by decide +kernel
theorem dX0_intervalPitch_5 : decode cX0_intervalPitch 5 = .ok (.aload_n 0, 1) := by decide +kernel
theorem dX0_intervalPitch_6 : decode cX0_intervalPitch 6 = .ok (.getfield 31, 3) := by decide +kernel
theorem dX0_intervalPitch_9 : decode cX0_intervalPitch 9 = .ok (.iload_n 1, 1) := by decide +kernel
theorem dX0_intervalPitch_10 : decode cX0_intervalPitch 10 = .ok (.iaload, 1) := by decide +kernel
theorem dX0_intervalPitch_11 : decode cX0_intervalPitch 11 = .ok (.iload_n 2, 1) := by decide +kernel
theorem dX0_intervalPitch_12 : decode cX0_intervalPitch 12 = .ok (.iadd, 1) := by decide +kernel
theorem dX0_intervalPitch_13 : decode cX0_intervalPitch 13 = .ok (.iconst 1, 1) := by decide +kernel
theorem dX0_intervalPitch_14 : decode cX0_intervalPitch 14 = .ok (.isub, 1) := by decide +kernel
theorem dX0_intervalPitch_15 : decode cX0_intervalPitch 15 = .ok (.goto 13, 3) := by decide +kernel
theorem dX0_intervalPitch_18 : decode cX0_intervalPitch 18 = .ok (.aload_n 0, 1) := by decide +kernel
theorem dX0_intervalPitch_19 : decode cX0_intervalPitch 19 = .ok (.getfield 31, 3) := by decide +kernel
theorem dX0_intervalPitch_22 : decode cX0_intervalPitch 22 = .ok (.iload_n 1, 1) := by decide +kernel
theorem dX0_intervalPitch_23 : decode cX0_intervalPitch 23 = .ok (.iaload, 1) := by decide +kernel
theorem dX0_intervalPitch_24 : decode cX0_intervalPitch 24 = .ok (.iload_n 2, 1) := by decide +kernel
theorem dX0_intervalPitch_25 : decode cX0_intervalPitch 25 = .ok (.isub, 1) := by decide +kernel
theorem dX0_intervalPitch_26 : decode cX0_intervalPitch 26 = .ok (.iconst 1, 1) := by decide +kernel
theorem dX0_intervalPitch_27 : decode cX0_intervalPitch 27 = .ok (.iadd, 1) := by decide +kernel
theorem dX0_intervalPitch_28 : decode cX0_intervalPitch 28 = .ok (.ireturn, 1) := by decide +kernel
theorem dX0_suitsHand_0 : decode cX0_suitsHand 0 = .ok (.iconst 0, 1) := by decide +kernel
theorem dX0_suitsHand_1 : decode cX0_suitsHand 1 = .ok (.istore_n 2, 1) := by decide +kernel
theorem dX0_suitsHand_2 : decode cX0_suitsHand 2 = .ok (.iload_n 2, 1) := by decide +kernel
theorem dX0_suitsHand_3 : decode cX0_suitsHand 3 = .ok (.aload_n 0, 1) := by decide +kernel
theorem dX0_suitsHand_4 : decode cX0_suitsHand 4 = .ok (.getfield 64, 3) := by decide +kernel
theorem dX0_suitsHand_7 : decode cX0_suitsHand 7 = .ok (.if_icmp .ge 50, 3) := by decide +kernel
theorem dX0_suitsHand_10 : decode cX0_suitsHand 10 = .ok (.iconst 0, 1) := by decide +kernel
theorem dX0_suitsHand_11 : decode cX0_suitsHand 11 = .ok (.istore_n 3, 1) := by decide +kernel
theorem dX0_suitsHand_12 : decode cX0_suitsHand 12 = .ok (.iload_n 3, 1) := by decide +kernel
theorem dX0_suitsHand_13 : decode cX0_suitsHand 13 = .ok (.aload_n 0, 1) := by decide +kernel
theorem dX0_suitsHand_14 : decode cX0_suitsHand 14 = .ok (.getfield 52, 3) := by decide +kernel
theorem dX0_suitsHand_17 : decode cX0_suitsHand 17 = .ok (.iload_n 2, 1) := by decide +kernel
theorem dX0_suitsHand_18 : decode cX0_suitsHand 18 = .ok (.iaload, 1) := by decide +kernel
theorem dX0_suitsHand_19 : decode cX0_suitsHand 19 = .ok (.if_icmp .ge 32, 3) := by decide +kernel
theorem dX0_suitsHand_22 : decode cX0_suitsHand 22 = .ok (.aload_n 0, 1) := by decide +kernel
theorem dX0_suitsHand_23 : decode cX0_suitsHand 23 = .ok (.iload_n 2, 1) := by decide +kernel
theorem dX0_suitsHand_24 : decode cX0_suitsHand 24 = .ok (.aload_n 0, 1) := by decide +kernel
theorem dX0_suitsHand_25 : decode cX0_suitsHand 25 = .ok (.iload_n 2, 1) := by decide +kernel
theorem dX0_suitsHand_26 : decode cX0_suitsHand 26 = .ok (.iload_n 3, 1) := by decide +kernel
theorem dX0_suitsHand_27 : decode cX0_suitsHand 27 = .ok (.invokevirtual 75, 3) := by decide +kernel
theorem dX0_suitsHand_30 : decode cX0_suitsHand 30 = .ok (.bipush 15, 2) := by decide +kernel
theorem dX0_suitsHand_32 : decode cX0_suitsHand 32 = .ok (.iand, 1) := by decide +kernel
theorem dX0_suitsHand_33 : decode cX0_suitsHand 33 = .ok (.iload_n 1, 1) := by decide +kernel
theorem dX0_suitsHand_34 : decode cX0_suitsHand 34 = .ok (.invokevirtual 79, 3) := by decide +kernel
theorem dX0_suitsHand_37 : decode cX0_suitsHand 37 = .ok (.invokestatic 83, 3) := by decide +kernel
theorem dX0_suitsHand_40 : decode cX0_suitsHand 40 = .ok (.ifCond .ne 5, 3) := by decide +kernel
theorem dX0_suitsHand_43 : decode cX0_suitsHand 43 = .ok (.iconst 0, 1) := by decide +kernel
theorem dX0_suitsHand_44 : decode cX0_suitsHand 44 = .ok (.ireturn, 1) := by decide +kernel
theorem dX0_suitsHand_45 : decode cX0_suitsHand 45 = .ok (.iinc 3 1, 3) := by decide +kernel
theorem dX0_suitsHand_48 : decode cX0_suitsHand 48 = .ok (.goto (-36), 3) := by decide +kernel
theorem dX0_suitsHand_51 : decode cX0_suitsHand 51 = .ok (.iinc 2 1, 3) := by decide +kernel
theorem dX0_suitsHand_54 : decode cX0_suitsHand 54 = .ok (.goto (-52), 3) := by decide +kernel
theorem dX0_suitsHand_57 : decode cX0_suitsHand 57 = .ok (.iconst 1, 1) := by decide +kernel
theorem dX0_suitsHand_58 : decode cX0_suitsHand 58 = .ok (.ireturn, 1) := by decide +kernel
theorem dX0_isNote_0 : decode cX0_isNote 0 = .ok (.aload_n 0, 1) := by decide +kernel
theorem dX0_isNote_1 : decode cX0_isNote 1 = .ok (.getfield 31, 3) := by decide +kernel
theorem dX0_isNote_4 : decode cX0_isNote 4 = .ok (.iload_n 1, 1) := by decide +kernel
theorem dX0_isNote_5 : decode cX0_isNote 5 = .ok (.iaload, 1) := by decide +kernel
theorem dX0_isNote_6 : decode cX0_isNote 6 = .ok (.ifCond .eq 7, 3) := by decide +kernel
theorem dX0_isNote_9 : decode cX0_isNote 9 = .ok (.iconst 1, 1) := by decide +kernel
theorem dX0_isNote_10 : decode cX0_isNote 10 = .ok (.goto 4, 3) := by decide +kernel
theorem dX0_isNote_13 : decode cX0_isNote 13 = .ok (.iconst 0, 1) := by decide +kernel
