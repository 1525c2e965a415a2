section LW
variable {l : Launch} {base : Nat} {D : va_G} {cI cZ : ClassId} {p : Program} {e : Env} {s : State} {m : MethodId} {b : Nat} {below : List Frame} {meth : Method} {c : Code}
theorem d_Law_law_0 : decode code 0 = .ok (.new 7, 3) := by decide +kernel
theorem d_Law_law_3 : decode code 3 = .ok (.dup, 1) := by decide +kernel
theorem d_Law_law_4 : decode code 4 = .ok (.invokespecial 9, 3) := by decide +kernel
theorem d_Law_law_7 : decode code 7 = .ok (.astore_n 1, 1) := by decide +kernel
theorem d_Law_law_8 : decode code 8 = .ok (.new 10, 3) := by decide +kernel
theorem d_Law_law_11 : decode code 11 = .ok (.dup, 1) := by decide +kernel
theorem d_Law_law_12 : decode code 12 = .ok (.invokespecial 12, 3) := by decide +kernel
theorem d_Law_law_15 : decode code 15 = .ok (.astore_n 2, 1) := by decide +kernel
theorem d_Law_law_16 : decode code 16 = .ok (.iconst 0, 1) := by decide +kernel
theorem d_Law_law_17 : decode code 17 = .ok (.istore_n 3, 1) := by decide +kernel
theorem d_Law_law_18 : decode code 18 = .ok (.iload_n 3, 1) := by decide +kernel
theorem d_Law_law_19 : decode code 19 = .ok (.aload_n 0, 1) := by decide +kernel
theorem d_Law_law_20 : decode code 20 = .ok (.arraylength, 1) := by decide +kernel
theorem d_Law_law_21 : decode code 21 = .ok (.iconst 5, 1) := by decide +kernel
theorem d_Law_law_22 : decode code 22 = .ok (.isub, 1) := by decide +kernel
theorem d_Law_law_23 : decode code 23 = .ok (.if_icmp .gt 718, 3) := by decide +kernel
theorem d_Law_law_26 : decode code 26 = .ok (.aload_n 0, 1) := by decide +kernel
theorem d_Law_law_27 : decode code 27 = .ok (.iload_n 3, 1) := by decide +kernel
theorem d_Law_law_28 : decode code 28 = .ok (.iaload, 1) := by decide +kernel
theorem d_Law_law_29 : decode code 29 = .ok (.bipush 31, 2) := by decide +kernel
theorem d_Law_law_31 : decode code 31 = .ok (.iand, 1) := by decide +kernel
theorem d_Law_law_32 : decode code 32 = .ok (.tableswitch 703 0 20 #[100, 123, 136, 149, 172, 205, 248, 271, 294, 347, 390, 423, 466, 509, 542, 575, 608, 621, 634, 657, 680], 100) := by decide +kernel
theorem d_Law_law_132 : decode code 132 = .ok (.aload_n 1, 1) := by decide +kernel
theorem d_Law_law_133 : decode code 133 = .ok (.aload_n 0, 1) := by decide +kernel
theorem d_Law_law_134 : decode code 134 = .ok (.iload_n 3, 1) := by decide +kernel
theorem d_Law_law_135 : decode code 135 = .ok (.iconst 1, 1) := by decide +kernel
theorem d_Law_law_136 : decode code 136 = .ok (.iadd, 1) := by decide +kernel
theorem d_Law_law_137 : decode code 137 = .ok (.iaload, 1) := by decide +kernel
theorem d_Law_law_138 : decode code 138 = .ok (.invokevirtual 13, 3) := by decide +kernel
theorem d_Law_law_141 : decode code 141 = .ok (.aload_n 2, 1) := by decide +kernel
theorem d_Law_law_142 : decode code 142 = .ok (.aload_n 0, 1) := by decide +kernel
theorem d_Law_law_143 : decode code 143 = .ok (.iload_n 3, 1) := by decide +kernel
theorem d_Law_law_144 : decode code 144 = .ok (.iconst 1, 1) := by decide +kernel
theorem d_Law_law_145 : decode code 145 = .ok (.iadd, 1) := by decide +kernel
theorem d_Law_law_146 : decode code 146 = .ok (.iaload, 1) := by decide +kernel
theorem d_Law_law_147 : decode code 147 = .ok (.invokevirtual 17, 3) := by decide +kernel
theorem d_Law_law_150 : decode code 150 = .ok (.if_icmp .eq 585, 3) := by decide +kernel
theorem d_Law_law_153 : decode code 153 = .ok (.iconst 0, 1) := by decide +kernel
theorem d_Law_law_154 : decode code 154 = .ok (.ireturn, 1) := by decide +kernel
theorem d_Law_law_155 : decode code 155 = .ok (.aload_n 1, 1) := by decide +kernel
theorem d_Law_law_156 : decode code 156 = .ok (.invokevirtual 18, 3) := by decide +kernel
theorem d_Law_law_159 : decode code 159 = .ok (.aload_n 2, 1) := by decide +kernel
theorem d_Law_law_160 : decode code 160 = .ok (.invokevirtual 22, 3) := by decide +kernel
theorem d_Law_law_163 : decode code 163 = .ok (.if_icmp .eq 572, 3) := by decide +kernel
theorem d_Law_law_166 : decode code 166 = .ok (.iconst 0, 1) := by decide +kernel
theorem d_Law_law_167 : decode code 167 = .ok (.ireturn, 1) := by decide +kernel
theorem d_Law_law_168 : decode code 168 = .ok (.aload_n 1, 1) := by decide +kernel
theorem d_Law_law_169 : decode code 169 = .ok (.invokevirtual 23, 3) := by decide +kernel
theorem d_Law_law_172 : decode code 172 = .ok (.aload_n 2, 1) := by decide +kernel
theorem d_Law_law_173 : decode code 173 = .ok (.invokevirtual 26, 3) := by decide +kernel
theorem d_Law_law_176 : decode code 176 = .ok (.if_icmp .eq 559, 3) := by decide +kernel
theorem d_Law_law_179 : decode code 179 = .ok (.iconst 0, 1) := by decide +kernel
theorem d_Law_law_180 : decode code 180 = .ok (.ireturn, 1) := by decide +kernel
theorem d_Law_law_181 : decode code 181 = .ok (.aload_n 1, 1) := by decide +kernel
theorem d_Law_law_182 : decode code 182 = .ok (.aload_n 0, 1) := by decide +kernel
theorem d_Law_law_183 : decode code 183 = .ok (.iload_n 3, 1) := by decide +kernel
theorem d_Law_law_184 : decode code 184 = .ok (.iconst 1, 1) := by decide +kernel
theorem d_Law_law_185 : decode code 185 = .ok (.iadd, 1) := by decide +kernel
theorem d_Law_law_186 : decode code 186 = .ok (.iaload, 1) := by decide +kernel
theorem d_Law_law_187 : decode code 187 = .ok (.invokevirtual 27, 3) := by decide +kernel
theorem d_Law_law_190 : decode code 190 = .ok (.aload_n 2, 1) := by decide +kernel
theorem d_Law_law_191 : decode code 191 = .ok (.aload_n 0, 1) := by decide +kernel
theorem d_Law_law_192 : decode code 192 = .ok (.iload_n 3, 1) := by decide +kernel
theorem d_Law_law_193 : decode code 193 = .ok (.iconst 1, 1) := by decide +kernel
theorem d_Law_law_194 : decode code 194 = .ok (.iadd, 1) := by decide +kernel
theorem d_Law_law_195 : decode code 195 = .ok (.iaload, 1) := by decide +kernel
theorem d_Law_law_196 : decode code 196 = .ok (.invokevirtual 30, 3) := by decide +kernel
theorem d_Law_law_199 : decode code 199 = .ok (.if_icmp .eq 536, 3) := by decide +kernel
theorem d_Law_law_202 : decode code 202 = .ok (.iconst 0, 1) := by decide +kernel
theorem d_Law_law_203 : decode code 203 = .ok (.ireturn, 1) := by decide +kernel
theorem d_Law_law_204 : decode code 204 = .ok (.aload_n 1, 1) := by decide +kernel
theorem d_Law_law_205 : decode code 205 = .ok (.aload_n 0, 1) := by decide +kernel
theorem d_Law_law_206 : decode code 206 = .ok (.iload_n 3, 1) := by decide +kernel
theorem d_Law_law_207 : decode code 207 = .ok (.iconst 1, 1) := by decide +kernel
theorem d_Law_law_208 : decode code 208 = .ok (.iadd, 1) := by decide +kernel
theorem d_Law_law_209 : decode code 209 = .ok (.iaload, 1) := by decide +kernel
theorem d_Law_law_210 : decode code 210 = .ok (.aload_n 0, 1) := by decide +kernel
theorem d_Law_law_211 : decode code 211 = .ok (.iload_n 3, 1) := by decide +kernel
theorem d_Law_law_212 : decode code 212 = .ok (.iconst 2, 1) := by decide +kernel
theorem d_Law_law_213 : decode code 213 = .ok (.iadd, 1) := by decide +kernel
theorem d_Law_law_214 : decode code 214 = .ok (.iaload, 1) := by decide +kernel
theorem d_Law_law_215 : decode code 215 = .ok (.invokevirtual 31, 3) := by decide +kernel
theorem d_Law_law_218 : decode code 218 = .ok (.aload_n 2, 1) := by decide +kernel
theorem d_Law_law_219 : decode code 219 = .ok (.aload_n 0, 1) := by decide +kernel
theorem d_Law_law_220 : decode code 220 = .ok (.iload_n 3, 1) := by decide +kernel
theorem d_Law_law_221 : decode code 221 = .ok (.iconst 1, 1) := by decide +kernel
theorem d_Law_law_222 : decode code 222 = .ok (.iadd, 1) := by decide +kernel
theorem d_Law_law_223 : decode code 223 = .ok (.iaload, 1) := by decide +kernel
theorem d_Law_law_224 : decode code 224 = .ok (.aload_n 0, 1) := by decide +kernel
theorem d_Law_law_225 : decode code 225 = .ok (.iload_n 3, 1) := by decide +kernel
theorem d_Law_law_226 : decode code 226 = .ok (.iconst 2, 1) := by decide +kernel
theorem d_Law_law_227 : decode code 227 = .ok (.iadd, 1) := by decide +kernel
theorem d_Law_law_228 : decode code 228 = .ok (.iaload, 1) := by decide +kernel
theorem d_Law_law_229 : decode code 229 = .ok (.invokevirtual 35, 3) := by decide +kernel
theorem d_Law_law_232 : decode code 232 = .ok (.if_icmp .eq 503, 3) := by decide +kernel
theorem d_Law_law_235 : decode code 235 = .ok (.iconst 0, 1) := by decide +kernel
theorem d_Law_law_236 : decode code 236 = .ok (.ireturn, 1) := by decide +kernel
theorem d_Law_law_237 : decode code 237 = .ok (.aload_n 1, 1) := by decide +kernel
theorem d_Law_law_238 : decode code 238 = .ok (.aload_n 0, 1) := by decide +kernel
theorem d_Law_law_239 : decode code 239 = .ok (.iload_n 3, 1) := by decide +kernel
theorem d_Law_law_240 : decode code 240 = .ok (.iconst 1, 1) := by decide +kernel
theorem d_Law_law_241 : decode code 241 = .ok (.iadd, 1) := by decide +kernel
theorem d_Law_law_242 : decode code 242 = .ok (.iaload, 1) := by decide +kernel
theorem d_Law_law_243 : decode code 243 = .ok (.aload_n 0, 1) := by decide +kernel
theorem d_Law_law_244 : decode code 244 = .ok (.iload_n 3, 1) := by decide +kernel
theorem d_Law_law_245 : decode code 245 = .ok (.iconst 2, 1) := by decide +kernel
theorem d_Law_law_246 : decode code 246 = .ok (.iadd, 1) := by decide +kernel
theorem d_Law_law_247 : decode code 247 = .ok (.iaload, 1) := by decide +kernel
theorem d_Law_law_248 : decode code 248 = .ok (.aload_n 0, 1) := by decide +kernel
theorem d_Law_law_249 : decode code 249 = .ok (.iload_n 3, 1) := by decide +kernel
theorem d_Law_law_250 : decode code 250 = .ok (.iconst 3, 1) := by decide +kernel
theorem d_Law_law_251 : decode code 251 = .ok (.iadd, 1) := by decide +kernel
theorem d_Law_law_252 : decode code 252 = .ok (.iaload, 1) := by decide +kernel
theorem d_Law_law_253 : decode code 253 = .ok (.invokevirtual 36, 3) := by decide +kernel
theorem d_Law_law_256 : decode code 256 = .ok (.aload_n 2, 1) := by decide +kernel
theorem d_Law_law_257 : decode code 257 = .ok (.aload_n 0, 1) := by decide +kernel
theorem d_Law_law_258 : decode code 258 = .ok (.iload_n 3, 1) := by decide +kernel
theorem d_Law_law_259 : decode code 259 = .ok (.iconst 1, 1) := by decide +kernel
theorem d_Law_law_260 : decode code 260 = .ok (.iadd, 1) := by decide +kernel
theorem d_Law_law_261 : decode code 261 = .ok (.iaload, 1) := by decide +kernel
theorem d_Law_law_262 : decode code 262 = .ok (.aload_n 0, 1) := by decide +kernel
theorem d_Law_law_263 : decode code 263 = .ok (.iload_n 3, 1) := by decide +kernel
theorem d_Law_law_264 : decode code 264 = .ok (.iconst 2, 1) := by decide +kernel
theorem d_Law_law_265 : decode code 265 = .ok (.iadd, 1) := by decide +kernel
theorem d_Law_law_266 : decode code 266 = .ok (.iaload, 1) := by decide +kernel
theorem d_Law_law_267 : decode code 267 = .ok (.aload_n 0, 1) := by decide +kernel
theorem d_Law_law_268 : decode code 268 = .ok (.iload_n 3, 1) := by decide +kernel
theorem d_Law_law_269 : decode code 269 = .ok (.iconst 3, 1) := by decide +kernel
theorem d_Law_law_270 : decode code 270 = .ok (.iadd, 1) := by decide +kernel
theorem d_Law_law_271 : decode code 271 = .ok (.iaload, 1) := by decide +kernel
theorem d_Law_law_272 : decode code 272 = .ok (.invokevirtual 40, 3) := by decide +kernel
theorem d_Law_law_275 : decode code 275 = .ok (.if_icmp .eq 460, 3) := by decide +kernel
theorem d_Law_law_278 : decode code 278 = .ok (.iconst 0, 1) := by decide +kernel
theorem d_Law_law_279 : decode code 279 = .ok (.ireturn, 1) := by decide +kernel
theorem d_Law_law_280 : decode code 280 = .ok (.aload_n 1, 1) := by decide +kernel
theorem d_Law_law_281 : decode code 281 = .ok (.aload_n 0, 1) := by decide +kernel
theorem d_Law_law_282 : decode code 282 = .ok (.iload_n 3, 1) := by decide +kernel
theorem d_Law_law_283 : decode code 283 = .ok (.iconst 1, 1) := by decide +kernel
theorem d_Law_law_284 : decode code 284 = .ok (.iadd, 1) := by decide +kernel
theorem d_Law_law_285 : decode code 285 = .ok (.iaload, 1) := by decide +kernel
theorem d_Law_law_286 : decode code 286 = .ok (.invokevirtual 41, 3) := by decide +kernel
theorem d_Law_law_289 : decode code 289 = .ok (.aload_n 2, 1) := by decide +kernel
theorem d_Law_law_290 : decode code 290 = .ok (.aload_n 0, 1) := by decide +kernel
theorem d_Law_law_291 : decode code 291 = .ok (.iload_n 3, 1) := by decide +kernel
theorem d_Law_law_292 : decode code 292 = .ok (.iconst 1, 1) := by decide +kernel
theorem d_Law_law_293 : decode code 293 = .ok (.iadd, 1) := by decide +kernel
theorem d_Law_law_294 : decode code 294 = .ok (.iaload, 1) := by decide +kernel
theorem d_Law_law_295 : decode code 295 = .ok (.invokevirtual 44, 3) := by decide +kernel
theorem d_Law_law_298 : decode code 298 = .ok (.if_icmp .eq 437, 3) := by decide +kernel
theorem d_Law_law_301 : decode code 301 = .ok (.iconst 0, 1) := by decide +kernel
theorem d_Law_law_302 : decode code 302 = .ok (.ireturn, 1) := by decide +kernel
theorem d_Law_law_303 : decode code 303 = .ok (.aload_n 1, 1) := by decide +kernel
theorem d_Law_law_304 : decode code 304 = .ok (.aload_n 0, 1) := by decide +kernel
theorem d_Law_law_305 : decode code 305 = .ok (.iload_n 3, 1) := by decide +kernel
theorem d_Law_law_306 : decode code 306 = .ok (.iconst 1, 1) := by decide +kernel
theorem d_Law_law_307 : decode code 307 = .ok (.iadd, 1) := by decide +kernel
theorem d_Law_law_308 : decode code 308 = .ok (.iaload, 1) := by decide +kernel
theorem d_Law_law_309 : decode code 309 = .ok (.invokevirtual 45, 3) := by decide +kernel
theorem d_Law_law_312 : decode code 312 = .ok (.aload_n 2, 1) := by decide +kernel
theorem d_Law_law_313 : decode code 313 = .ok (.aload_n 0, 1) := by decide +kernel
theorem d_Law_law_314 : decode code 314 = .ok (.iload_n 3, 1) := by decide +kernel
theorem d_Law_law_315 : decode code 315 = .ok (.iconst 1, 1) := by decide +kernel
theorem d_Law_law_316 : decode code 316 = .ok (.iadd, 1) := by decide +kernel
theorem d_Law_law_317 : decode code 317 = .ok (.iaload, 1) := by decide +kernel
theorem d_Law_law_318 : decode code 318 = .ok (.invokevirtual 48, 3) := by decide +kernel
theorem d_Law_law_321 : decode code 321 = .ok (.if_icmp .eq 414, 3) := by decide +kernel
theorem d_Law_law_324 : decode code 324 = .ok (.iconst 0, 1) := by decide +kernel
theorem d_Law_law_325 : decode code 325 = .ok (.ireturn, 1) := by decide +kernel
theorem d_Law_law_326 : decode code 326 = .ok (.aload_n 1, 1) := by decide +kernel
theorem d_Law_law_327 : decode code 327 = .ok (.aload_n 0, 1) := by decide +kernel
theorem d_Law_law_328 : decode code 328 = .ok (.iload_n 3, 1) := by decide +kernel
theorem d_Law_law_329 : decode code 329 = .ok (.iconst 1, 1) := by decide +kernel
theorem d_Law_law_330 : decode code 330 = .ok (.iadd, 1) := by decide +kernel
theorem d_Law_law_331 : decode code 331 = .ok (.iaload, 1) := by decide +kernel
theorem d_Law_law_332 : decode code 332 = .ok (.aload_n 0, 1) := by decide +kernel
theorem d_Law_law_333 : decode code 333 = .ok (.iload_n 3, 1) := by decide +kernel
theorem d_Law_law_334 : decode code 334 = .ok (.iconst 2, 1) := by decide +kernel
theorem d_Law_law_335 : decode code 335 = .ok (.iadd, 1) := by decide +kernel
theorem d_Law_law_336 : decode code 336 = .ok (.iaload, 1) := by decide +kernel
theorem d_Law_law_337 : decode code 337 = .ok (.aload_n 0, 1) := by decide +kernel
theorem d_Law_law_338 : decode code 338 = .ok (.iload_n 3, 1) := by decide +kernel
theorem d_Law_law_339 : decode code 339 = .ok (.iconst 3, 1) := by decide +kernel
theorem d_Law_law_340 : decode code 340 = .ok (.iadd, 1) := by decide +kernel
theorem d_Law_law_341 : decode code 341 = .ok (.iaload, 1) := by decide +kernel
theorem d_Law_law_342 : decode code 342 = .ok (.aload_n 0, 1) := by decide +kernel
theorem d_Law_law_343 : decode code 343 = .ok (.iload_n 3, 1) := by decide +kernel
theorem d_Law_law_344 : decode code 344 = .ok (.iconst 4, 1) := by decide +kernel
theorem d_Law_law_345 : decode code 345 = .ok (.iadd, 1) := by decide +kernel
theorem d_Law_law_346 : decode code 346 = .ok (.iaload, 1) := by decide +kernel
theorem d_Law_law_347 : decode code 347 = .ok (.invokevirtual 49, 3) := by decide +kernel
theorem d_Law_law_350 : decode code 350 = .ok (.aload_n 2, 1) := by decide +kernel
theorem d_Law_law_351 : decode code 351 = .ok (.aload_n 0, 1) := by decide +kernel
theorem d_Law_law_352 : decode code 352 = .ok (.iload_n 3, 1) := by decide +kernel
theorem d_Law_law_353 : decode code 353 = .ok (.iconst 1, 1) := by decide +kernel
theorem d_Law_law_354 : decode code 354 = .ok (.iadd, 1) := by decide +kernel
theorem d_Law_law_355 : decode code 355 = .ok (.iaload, 1) := by decide +kernel
theorem d_Law_law_356 : decode code 356 = .ok (.aload_n 0, 1) := by decide +kernel
theorem d_Law_law_357 : decode code 357 = .ok (.iload_n 3, 1) := by decide +kernel
theorem d_Law_law_358 : decode code 358 = .ok (.iconst 2, 1) := by decide +kernel
theorem d_Law_law_359 : decode code 359 = .ok (.iadd, 1) := by decide +kernel
theorem d_Law_law_360 : decode code 360 = .ok (.iaload, 1) := by decide +kernel
theorem d_Law_law_361 : decode code 361 = .ok (.aload_n 0, 1) := by decide +kernel
theorem d_Law_law_362 : decode code 362 = .ok (.iload_n 3, 1) := by decide +kernel
theorem d_Law_law_363 : decode code 363 = .ok (.iconst 3, 1) := by decide +kernel
theorem d_Law_law_364 : decode code 364 = .ok (.iadd, 1) := by decide +kernel
theorem d_Law_law_365 : decode code 365 = .ok (.iaload, 1) := by decide +kernel
theorem d_Law_law_366 : decode code 366 = .ok (.aload_n 0, 1) := by decide +kernel
theorem d_Law_law_367 : decode code 367 = .ok (.iload_n 3, 1) := by decide +kernel
theorem d_Law_law_368 : decode code 368 = .ok (.iconst 4, 1) := by decide +kernel
theorem d_Law_law_369 : decode code 369 = .ok (.iadd, 1) := by decide +kernel
theorem d_Law_law_370 : decode code 370 = .ok (.iaload, 1) := by decide +kernel
theorem d_Law_law_371 : decode code 371 = .ok (.invokevirtual 53, 3) := by decide +kernel
theorem d_Law_law_374 : decode code 374 = .ok (.if_icmp .eq 361, 3) := by decide +kernel
theorem d_Law_law_377 : decode code 377 = .ok (.iconst 0, 1) := by decide +kernel
theorem d_Law_law_378 : decode code 378 = .ok (.ireturn, 1) := by decide +kernel
theorem d_Law_law_379 : decode code 379 = .ok (.aload_n 1, 1) := by decide +kernel
theorem d_Law_law_380 : decode code 380 = .ok (.aload_n 0, 1) := by decide +kernel
theorem d_Law_law_381 : decode code 381 = .ok (.iload_n 3, 1) := by decide +kernel
theorem d_Law_law_382 : decode code 382 = .ok (.iconst 1, 1) := by decide +kernel
theorem d_Law_law_383 : decode code 383 = .ok (.iadd, 1) := by decide +kernel
theorem d_Law_law_384 : decode code 384 = .ok (.iaload, 1) := by decide +kernel
theorem d_Law_law_385 : decode code 385 = .ok (.aload_n 0, 1) := by decide +kernel
theorem d_Law_law_386 : decode code 386 = .ok (.iload_n 3, 1) := by decide +kernel
theorem d_Law_law_387 : decode code 387 = .ok (.iconst 2, 1) := by decide +kernel
theorem d_Law_law_388 : decode code 388 = .ok (.iadd, 1) := by decide +kernel
theorem d_Law_law_389 : decode code 389 = .ok (.iaload, 1) := by decide +kernel
theorem d_Law_law_390 : decode code 390 = .ok (.aload_n 0, 1) := by decide +kernel
theorem d_Law_law_391 : decode code 391 = .ok (.iload_n 3, 1) := by decide +kernel
theorem d_Law_law_392 : decode code 392 = .ok (.iconst 3, 1) := by decide +kernel
theorem d_Law_law_393 : decode code 393 = .ok (.iadd, 1) := by decide +kernel
theorem d_Law_law_394 : decode code 394 = .ok (.iaload, 1) := by decide +kernel
theorem d_Law_law_395 : decode code 395 = .ok (.invokevirtual 54, 3) := by decide +kernel
theorem d_Law_law_398 : decode code 398 = .ok (.aload_n 2, 1) := by decide +kernel
theorem d_Law_law_399 : decode code 399 = .ok (.aload_n 0, 1) := by decide +kernel
theorem d_Law_law_400 : decode code 400 = .ok (.iload_n 3, 1) := by decide +kernel
theorem d_Law_law_401 : decode code 401 = .ok (.iconst 1, 1) := by decide +kernel
theorem d_Law_law_402 : decode code 402 = .ok (.iadd, 1) := by decide +kernel
theorem d_Law_law_403 : decode code 403 = .ok (.iaload, 1) := by decide +kernel
theorem d_Law_law_404 : decode code 404 = .ok (.aload_n 0, 1) := by decide +kernel
theorem d_Law_law_405 : decode code 405 = .ok (.iload_n 3, 1) := by decide +kernel
theorem d_Law_law_406 : decode code 406 = .ok (.iconst 2, 1) := by decide +kernel
theorem d_Law_law_407 : decode code 407 = .ok (.iadd, 1) := by decide +kernel
theorem d_Law_law_408 : decode code 408 = .ok (.iaload, 1) := by decide +kernel
theorem d_Law_law_409 : decode code 409 = .ok (.aload_n 0, 1) := by decide +kernel
theorem d_Law_law_410 : decode code 410 = .ok (.iload_n 3, 1) := by decide +kernel
theorem d_Law_law_411 : decode code 411 = .ok (.iconst 3, 1) := by decide +kernel
theorem d_Law_law_412 : decode code 412 = .ok (.iadd, 1) := by decide +kernel
theorem d_Law_law_413 : decode code 413 = .ok (.iaload, 1) := by decide +kernel
theorem d_Law_law_414 : decode code 414 = .ok (.invokevirtual 57, 3) := by decide +kernel
theorem d_Law_law_417 : decode code 417 = .ok (.if_icmp .eq 318, 3) := by decide +kernel
theorem d_Law_law_420 : decode code 420 = .ok (.iconst 0, 1) := by decide +kernel
theorem d_Law_law_421 : decode code 421 = .ok (.ireturn, 1) := by decide +kernel
theorem d_Law_law_422 : decode code 422 = .ok (.aload_n 1, 1) := by decide +kernel
theorem d_Law_law_423 : decode code 423 = .ok (.aload_n 0, 1) := by decide +kernel
theorem d_Law_law_424 : decode code 424 = .ok (.iload_n 3, 1) := by decide +kernel
theorem d_Law_law_425 : decode code 425 = .ok (.iconst 1, 1) := by decide +kernel
theorem d_Law_law_426 : decode code 426 = .ok (.iadd, 1) := by decide +kernel
theorem d_Law_law_427 : decode code 427 = .ok (.iaload, 1) := by decide +kernel
theorem d_Law_law_428 : decode code 428 = .ok (.aload_n 0, 1) := by decide +kernel
theorem d_Law_law_429 : decode code 429 = .ok (.iload_n 3, 1) := by decide +kernel
theorem d_Law_law_430 : decode code 430 = .ok (.iconst 2, 1) := by decide +kernel
theorem d_Law_law_431 : decode code 431 = .ok (.iadd, 1) := by decide +kernel
theorem d_Law_law_432 : decode code 432 = .ok (.iaload, 1) := by decide +kernel
theorem d_Law_law_433 : decode code 433 = .ok (.invokevirtual 58, 3) := by decide +kernel
theorem d_Law_law_436 : decode code 436 = .ok (.aload_n 2, 1) := by decide +kernel
theorem d_Law_law_437 : decode code 437 = .ok (.aload_n 0, 1) := by decide +kernel
theorem d_Law_law_438 : decode code 438 = .ok (.iload_n 3, 1) := by decide +kernel
theorem d_Law_law_439 : decode code 439 = .ok (.iconst 1, 1) := by decide +kernel
theorem d_Law_law_440 : decode code 440 = .ok (.iadd, 1) := by decide +kernel
theorem d_Law_law_441 : decode code 441 = .ok (.iaload, 1) := by decide +kernel
theorem d_Law_law_442 : decode code 442 = .ok (.aload_n 0, 1) := by decide +kernel
theorem d_Law_law_443 : decode code 443 = .ok (.iload_n 3, 1) := by decide +kernel
theorem d_Law_law_444 : decode code 444 = .ok (.iconst 2, 1) := by decide +kernel
theorem d_Law_law_445 : decode code 445 = .ok (.iadd, 1) := by decide +kernel
theorem d_Law_law_446 : decode code 446 = .ok (.iaload, 1) := by decide +kernel
theorem d_Law_law_447 : decode code 447 = .ok (.invokevirtual 61, 3) := by decide +kernel
theorem d_Law_law_450 : decode code 450 = .ok (.if_icmp .eq 285, 3) := by decide +kernel
theorem d_Law_law_453 : decode code 453 = .ok (.iconst 0, 1) := by decide +kernel
theorem d_Law_law_454 : decode code 454 = .ok (.ireturn, 1) := by decide +kernel
theorem d_Law_law_455 : decode code 455 = .ok (.aload_n 1, 1) := by decide +kernel
theorem d_Law_law_456 : decode code 456 = .ok (.aload_n 0, 1) := by decide +kernel
theorem d_Law_law_457 : decode code 457 = .ok (.iload_n 3, 1) := by decide +kernel
theorem d_Law_law_458 : decode code 458 = .ok (.iconst 1, 1) := by decide +kernel
theorem d_Law_law_459 : decode code 459 = .ok (.iadd, 1) := by decide +kernel
theorem d_Law_law_460 : decode code 460 = .ok (.iaload, 1) := by decide +kernel
theorem d_Law_law_461 : decode code 461 = .ok (.aload_n 0, 1) := by decide +kernel
theorem d_Law_law_462 : decode code 462 = .ok (.iload_n 3, 1) := by decide +kernel
theorem d_Law_law_463 : decode code 463 = .ok (.iconst 2, 1) := by decide +kernel
theorem d_Law_law_464 : decode code 464 = .ok (.iadd, 1) := by decide +kernel
theorem d_Law_law_465 : decode code 465 = .ok (.iaload, 1) := by decide +kernel
theorem d_Law_law_466 : decode code 466 = .ok (.aload_n 0, 1) := by decide +kernel
theorem d_Law_law_467 : decode code 467 = .ok (.iload_n 3, 1) := by decide +kernel
theorem d_Law_law_468 : decode code 468 = .ok (.iconst 3, 1) := by decide +kernel
theorem d_Law_law_469 : decode code 469 = .ok (.iadd, 1) := by decide +kernel
theorem d_Law_law_470 : decode code 470 = .ok (.iaload, 1) := by decide +kernel
theorem d_Law_law_471 : decode code 471 = .ok (.invokevirtual 62, 3) := by decide +kernel
theorem d_Law_law_474 : decode code 474 = .ok (.aload_n 2, 1) := by decide +kernel
theorem d_Law_law_475 : decode code 475 = .ok (.aload_n 0, 1) := by decide +kernel
theorem d_Law_law_476 : decode code 476 = .ok (.iload_n 3, 1) := by decide +kernel
theorem d_Law_law_477 : decode code 477 = .ok (.iconst 1, 1) := by decide +kernel
theorem d_Law_law_478 : decode code 478 = .ok (.iadd, 1) := by decide +kernel
theorem d_Law_law_479 : decode code 479 = .ok (.iaload, 1) := by decide +kernel
theorem d_Law_law_480 : decode code 480 = .ok (.aload_n 0, 1) := by decide +kernel
theorem d_Law_law_481 : decode code 481 = .ok (.iload_n 3, 1) := by decide +kernel
theorem d_Law_law_482 : decode code 482 = .ok (.iconst 2, 1) := by decide +kernel
theorem d_Law_law_483 : decode code 483 = .ok (.iadd, 1) := by decide +kernel
theorem d_Law_law_484 : decode code 484 = .ok (.iaload, 1) := by decide +kernel
theorem d_Law_law_485 : decode code 485 = .ok (.aload_n 0, 1) := by decide +kernel
theorem d_Law_law_486 : decode code 486 = .ok (.iload_n 3, 1) := by decide +kernel
theorem d_Law_law_487 : decode code 487 = .ok (.iconst 3, 1) := by decide +kernel
theorem d_Law_law_488 : decode code 488 = .ok (.iadd, 1) := by decide +kernel
theorem d_Law_law_489 : decode code 489 = .ok (.iaload, 1) := by decide +kernel
theorem d_Law_law_490 : decode code 490 = .ok (.invokevirtual 65, 3) := by decide +kernel
theorem d_Law_law_493 : decode code 493 = .ok (.if_icmp .eq 242, 3) := by decide +kernel
theorem d_Law_law_496 : decode code 496 = .ok (.iconst 0, 1) := by decide +kernel
theorem d_Law_law_497 : decode code 497 = .ok (.ireturn, 1) := by decide +kernel
theorem d_Law_law_498 : decode code 498 = .ok (.aload_n 1, 1) := by decide +kernel
theorem d_Law_law_499 : decode code 499 = .ok (.aload_n 0, 1) := by decide +kernel
theorem d_Law_law_500 : decode code 500 = .ok (.iload_n 3, 1) := by decide +kernel
theorem d_Law_law_501 : decode code 501 = .ok (.iconst 1, 1) := by decide +kernel
theorem d_Law_law_502 : decode code 502 = .ok (.iadd, 1) := by decide +kernel
theorem d_Law_law_503 : decode code 503 = .ok (.iaload, 1) := by decide +kernel
theorem d_Law_law_504 : decode code 504 = .ok (.aload_n 0, 1) := by decide +kernel
theorem d_Law_law_505 : decode code 505 = .ok (.iload_n 3, 1) := by decide +kernel
theorem d_Law_law_506 : decode code 506 = .ok (.iconst 2, 1) := by decide +kernel
theorem d_Law_law_507 : decode code 507 = .ok (.iadd, 1) := by decide +kernel
theorem d_Law_law_508 : decode code 508 = .ok (.iaload, 1) := by decide +kernel
theorem d_Law_law_509 : decode code 509 = .ok (.aload_n 0, 1) := by decide +kernel
theorem d_Law_law_510 : decode code 510 = .ok (.iload_n 3, 1) := by decide +kernel
theorem d_Law_law_511 : decode code 511 = .ok (.iconst 3, 1) := by decide +kernel
theorem d_Law_law_512 : decode code 512 = .ok (.iadd, 1) := by decide +kernel
theorem d_Law_law_513 : decode code 513 = .ok (.iaload, 1) := by decide +kernel
theorem d_Law_law_514 : decode code 514 = .ok (.invokevirtual 66, 3) := by decide +kernel
theorem d_Law_law_517 : decode code 517 = .ok (.aload_n 2, 1) := by decide +kernel
theorem d_Law_law_518 : decode code 518 = .ok (.aload_n 0, 1) := by decide +kernel
theorem d_Law_law_519 : decode code 519 = .ok (.iload_n 3, 1) := by decide +kernel
theorem d_Law_law_520 : decode code 520 = .ok (.iconst 1, 1) := by decide +kernel
theorem d_Law_law_521 : decode code 521 = .ok (.iadd, 1) := by decide +kernel
theorem d_Law_law_522 : decode code 522 = .ok (.iaload, 1) := by decide +kernel
theorem d_Law_law_523 : decode code 523 = .ok (.aload_n 0, 1) := by decide +kernel
theorem d_Law_law_524 : decode code 524 = .ok (.iload_n 3, 1) := by decide +kernel
theorem d_Law_law_525 : decode code 525 = .ok (.iconst 2, 1) := by decide +kernel
theorem d_Law_law_526 : decode code 526 = .ok (.iadd, 1) := by decide +kernel
theorem d_Law_law_527 : decode code 527 = .ok (.iaload, 1) := by decide +kernel
theorem d_Law_law_528 : decode code 528 = .ok (.aload_n 0, 1) := by decide +kernel
theorem d_Law_law_529 : decode code 529 = .ok (.iload_n 3, 1) := by decide +kernel
theorem d_Law_law_530 : decode code 530 = .ok (.iconst 3, 1) := by decide +kernel
theorem d_Law_law_531 : decode code 531 = .ok (.iadd, 1) := by decide +kernel
theorem d_Law_law_532 : decode code 532 = .ok (.iaload, 1) := by decide +kernel
theorem d_Law_law_533 : decode code 533 = .ok (.invokevirtual 69, 3) := by decide +kernel
theorem d_Law_law_536 : decode code 536 = .ok (.if_icmp .eq 199, 3) := by decide +kernel
theorem d_Law_law_539 : decode code 539 = .ok (.iconst 0, 1) := by decide +kernel
theorem d_Law_law_540 : decode code 540 = .ok (.ireturn, 1) := by decide +kernel
theorem d_Law_law_541 : decode code 541 = .ok (.aload_n 1, 1) := by decide +kernel
theorem d_Law_law_542 : decode code 542 = .ok (.aload_n 0, 1) := by decide +kernel
theorem d_Law_law_543 : decode code 543 = .ok (.iload_n 3, 1) := by decide +kernel
theorem d_Law_law_544 : decode code 544 = .ok (.iconst 1, 1) := by decide +kernel
theorem d_Law_law_545 : decode code 545 = .ok (.iadd, 1) := by decide +kernel
theorem d_Law_law_546 : decode code 546 = .ok (.iaload, 1) := by decide +kernel
theorem d_Law_law_547 : decode code 547 = .ok (.aload_n 0, 1) := by decide +kernel
theorem d_Law_law_548 : decode code 548 = .ok (.iload_n 3, 1) := by decide +kernel
theorem d_Law_law_549 : decode code 549 = .ok (.iconst 2, 1) := by decide +kernel
theorem d_Law_law_550 : decode code 550 = .ok (.iadd, 1) := by decide +kernel
theorem d_Law_law_551 : decode code 551 = .ok (.iaload, 1) := by decide +kernel
theorem d_Law_law_552 : decode code 552 = .ok (.invokevirtual 70, 3) := by decide +kernel
theorem d_Law_law_555 : decode code 555 = .ok (.aload_n 2, 1) := by decide +kernel
theorem d_Law_law_556 : decode code 556 = .ok (.aload_n 0, 1) := by decide +kernel
theorem d_Law_law_557 : decode code 557 = .ok (.iload_n 3, 1) := by decide +kernel
theorem d_Law_law_558 : decode code 558 = .ok (.iconst 1, 1) := by decide +kernel
theorem d_Law_law_559 : decode code 559 = .ok (.iadd, 1) := by decide +kernel
theorem d_Law_law_560 : decode code 560 = .ok (.iaload, 1) := by decide +kernel
theorem d_Law_law_561 : decode code 561 = .ok (.aload_n 0, 1) := by decide +kernel
theorem d_Law_law_562 : decode code 562 = .ok (.iload_n 3, 1) := by decide +kernel
theorem d_Law_law_563 : decode code 563 = .ok (.iconst 2, 1) := by decide +kernel
theorem d_Law_law_564 : decode code 564 = .ok (.iadd, 1) := by decide +kernel
theorem d_Law_law_565 : decode code 565 = .ok (.iaload, 1) := by decide +kernel
theorem d_Law_law_566 : decode code 566 = .ok (.invokevirtual 73, 3) := by decide +kernel
theorem d_Law_law_569 : decode code 569 = .ok (.if_icmp .eq 166, 3) := by decide +kernel
theorem d_Law_law_572 : decode code 572 = .ok (.iconst 0, 1) := by decide +kernel
theorem d_Law_law_573 : decode code 573 = .ok (.ireturn, 1) := by decide +kernel
theorem d_Law_law_574 : decode code 574 = .ok (.aload_n 1, 1) := by decide +kernel
theorem d_Law_law_575 : decode code 575 = .ok (.aload_n 0, 1) := by decide +kernel
theorem d_Law_law_576 : decode code 576 = .ok (.iload_n 3, 1) := by decide +kernel
theorem d_Law_law_577 : decode code 577 = .ok (.iconst 1, 1) := by decide +kernel
theorem d_Law_law_578 : decode code 578 = .ok (.iadd, 1) := by decide +kernel
theorem d_Law_law_579 : decode code 579 = .ok (.iaload, 1) := by decide +kernel
theorem d_Law_law_580 : decode code 580 = .ok (.aload_n 0, 1) := by decide +kernel
theorem d_Law_law_581 : decode code 581 = .ok (.iload_n 3, 1) := by decide +kernel
theorem d_Law_law_582 : decode code 582 = .ok (.iconst 2, 1) := by decide +kernel
theorem d_Law_law_583 : decode code 583 = .ok (.iadd, 1) := by decide +kernel
theorem d_Law_law_584 : decode code 584 = .ok (.iaload, 1) := by decide +kernel
theorem d_Law_law_585 : decode code 585 = .ok (.invokevirtual 74, 3) := by decide +kernel
theorem d_Law_law_588 : decode code 588 = .ok (.aload_n 2, 1) := by decide +kernel
theorem d_Law_law_589 : decode code 589 = .ok (.aload_n 0, 1) := by decide +kernel
theorem d_Law_law_590 : decode code 590 = .ok (.iload_n 3, 1) := by decide +kernel
theorem d_Law_law_591 : decode code 591 = .ok (.iconst 1, 1) := by decide +kernel
theorem d_Law_law_592 : decode code 592 = .ok (.iadd, 1) := by decide +kernel
theorem d_Law_law_593 : decode code 593 = .ok (.iaload, 1) := by decide +kernel
theorem d_Law_law_594 : decode code 594 = .ok (.aload_n 0, 1) := by decide +kernel
theorem d_Law_law_595 : decode code 595 = .ok (.iload_n 3, 1) := by decide +kernel
theorem d_Law_law_596 : decode code 596 = .ok (.iconst 2, 1) := by decide +kernel
theorem d_Law_law_597 : decode code 597 = .ok (.iadd, 1) := by decide +kernel
theorem d_Law_law_598 : decode code 598 = .ok (.iaload, 1) := by decide +kernel
theorem d_Law_law_599 : decode code 599 = .ok (.invokevirtual 77, 3) := by decide +kernel
theorem d_Law_law_602 : decode code 602 = .ok (.if_icmp .eq 133, 3) := by decide +kernel
theorem d_Law_law_605 : decode code 605 = .ok (.iconst 0, 1) := by decide +kernel
theorem d_Law_law_606 : decode code 606 = .ok (.ireturn, 1) := by decide +kernel
theorem d_Law_law_607 : decode code 607 = .ok (.aload_n 1, 1) := by decide +kernel
theorem d_Law_law_608 : decode code 608 = .ok (.aload_n 0, 1) := by decide +kernel
theorem d_Law_law_609 : decode code 609 = .ok (.iload_n 3, 1) := by decide +kernel
theorem d_Law_law_610 : decode code 610 = .ok (.iconst 1, 1) := by decide +kernel
theorem d_Law_law_611 : decode code 611 = .ok (.iadd, 1) := by decide +kernel
theorem d_Law_law_612 : decode code 612 = .ok (.iaload, 1) := by decide +kernel
theorem d_Law_law_613 : decode code 613 = .ok (.aload_n 0, 1) := by decide +kernel
theorem d_Law_law_614 : decode code 614 = .ok (.iload_n 3, 1) := by decide +kernel
theorem d_Law_law_615 : decode code 615 = .ok (.iconst 2, 1) := by decide +kernel
theorem d_Law_law_616 : decode code 616 = .ok (.iadd, 1) := by decide +kernel
theorem d_Law_law_617 : decode code 617 = .ok (.iaload, 1) := by decide +kernel
theorem d_Law_law_618 : decode code 618 = .ok (.invokevirtual 78, 3) := by decide +kernel
theorem d_Law_law_621 : decode code 621 = .ok (.aload_n 2, 1) := by decide +kernel
theorem d_Law_law_622 : decode code 622 = .ok (.aload_n 0, 1) := by decide +kernel
theorem d_Law_law_623 : decode code 623 = .ok (.iload_n 3, 1) := by decide +kernel
theorem d_Law_law_624 : decode code 624 = .ok (.iconst 1, 1) := by decide +kernel
theorem d_Law_law_625 : decode code 625 = .ok (.iadd, 1) := by decide +kernel
theorem d_Law_law_626 : decode code 626 = .ok (.iaload, 1) := by decide +kernel
theorem d_Law_law_627 : decode code 627 = .ok (.aload_n 0, 1) := by decide +kernel
theorem d_Law_law_628 : decode code 628 = .ok (.iload_n 3, 1) := by decide +kernel
theorem d_Law_law_629 : decode code 629 = .ok (.iconst 2, 1) := by decide +kernel
theorem d_Law_law_630 : decode code 630 = .ok (.iadd, 1) := by decide +kernel
theorem d_Law_law_631 : decode code 631 = .ok (.iaload, 1) := by decide +kernel
theorem d_Law_law_632 : decode code 632 = .ok (.invokevirtual 81, 3) := by decide +kernel
theorem d_Law_law_635 : decode code 635 = .ok (.if_icmp .eq 100, 3) := by decide +kernel
theorem d_Law_law_638 : decode code 638 = .ok (.iconst 0, 1) := by decide +kernel
theorem d_Law_law_639 : decode code 639 = .ok (.ireturn, 1) := by decide +kernel
theorem d_Law_law_640 : decode code 640 = .ok (.aload_n 1, 1) := by decide +kernel
theorem d_Law_law_641 : decode code 641 = .ok (.invokevirtual 82, 3) := by decide +kernel
theorem d_Law_law_644 : decode code 644 = .ok (.aload_n 2, 1) := by decide +kernel
theorem d_Law_law_645 : decode code 645 = .ok (.invokevirtual 85, 3) := by decide +kernel
theorem d_Law_law_648 : decode code 648 = .ok (.if_icmp .eq 87, 3) := by decide +kernel
theorem d_Law_law_651 : decode code 651 = .ok (.iconst 0, 1) := by decide +kernel
theorem d_Law_law_652 : decode code 652 = .ok (.ireturn, 1) := by decide +kernel
theorem d_Law_law_653 : decode code 653 = .ok (.aload_n 1, 1) := by decide +kernel
theorem d_Law_law_654 : decode code 654 = .ok (.invokevirtual 86, 3) := by decide +kernel
theorem d_Law_law_657 : decode code 657 = .ok (.aload_n 2, 1) := by decide +kernel
theorem d_Law_law_658 : decode code 658 = .ok (.invokevirtual 89, 3) := by decide +kernel
theorem d_Law_law_661 : decode code 661 = .ok (.if_icmp .eq 74, 3) := by decide +kernel
theorem d_Law_law_664 : decode code 664 = .ok (.iconst 0, 1) := by decide +kernel
theorem d_Law_law_665 : decode code 665 = .ok (.ireturn, 1) := by decide +kernel
theorem d_Law_law_666 : decode code 666 = .ok (.aload_n 1, 1) := by decide +kernel
theorem d_Law_law_667 : decode code 667 = .ok (.aload_n 0, 1) := by decide +kernel
theorem d_Law_law_668 : decode code 668 = .ok (.iload_n 3, 1) := by decide +kernel
theorem d_Law_law_669 : decode code 669 = .ok (.iconst 1, 1) := by decide +kernel
theorem d_Law_law_670 : decode code 670 = .ok (.iadd, 1) := by decide +kernel
theorem d_Law_law_671 : decode code 671 = .ok (.iaload, 1) := by decide +kernel
theorem d_Law_law_672 : decode code 672 = .ok (.invokevirtual 90, 3) := by decide +kernel
theorem d_Law_law_675 : decode code 675 = .ok (.aload_n 2, 1) := by decide +kernel
theorem d_Law_law_676 : decode code 676 = .ok (.aload_n 0, 1) := by decide +kernel
theorem d_Law_law_677 : decode code 677 = .ok (.iload_n 3, 1) := by decide +kernel
theorem d_Law_law_678 : decode code 678 = .ok (.iconst 1, 1) := by decide +kernel
theorem d_Law_law_679 : decode code 679 = .ok (.iadd, 1) := by decide +kernel
theorem d_Law_law_680 : decode code 680 = .ok (.iaload, 1) := by decide +kernel
theorem d_Law_law_681 : decode code 681 = .ok (.invokevirtual 93, 3) := by decide +kernel
theorem d_Law_law_684 : decode code 684 = .ok (.if_icmp .eq 51, 3) := by decide +kernel
theorem d_Law_law_687 : decode code 687 = .ok (.iconst 0, 1) := by decide +kernel
theorem d_Law_law_688 : decode code 688 = .ok (.ireturn, 1) := by decide +kernel
theorem d_Law_law_689 : decode code 689 = .ok (.aload_n 1, 1) := by decide +kernel
theorem d_Law_law_690 : decode code 690 = .ok (.aload_n 0, 1) := by decide +kernel
theorem d_Law_law_691 : decode code 691 = .ok (.iload_n 3, 1) := by decide +kernel
theorem d_Law_law_692 : decode code 692 = .ok (.iconst 1, 1) := by decide +kernel
theorem d_Law_law_693 : decode code 693 = .ok (.iadd, 1) := by decide +kernel
theorem d_Law_law_694 : decode code 694 = .ok (.iaload, 1) := by decide +kernel
theorem d_Law_law_695 : decode code 695 = .ok (.invokevirtual 94, 3) := by decide +kernel
theorem d_Law_law_698 : decode code 698 = .ok (.aload_n 2, 1) := by decide +kernel
theorem d_Law_law_699 : decode code 699 = .ok (.aload_n 0, 1) := by decide +kernel
theorem d_Law_law_700 : decode code 700 = .ok (.iload_n 3, 1) := by decide +kernel
theorem d_Law_law_701 : decode code 701 = .ok (.iconst 1, 1) := by decide +kernel
theorem d_Law_law_702 : decode code 702 = .ok (.iadd, 1) := by decide +kernel
theorem d_Law_law_703 : decode code 703 = .ok (.iaload, 1) := by decide +kernel
theorem d_Law_law_704 : decode code 704 = .ok (.invokevirtual 97, 3) := by decide +kernel
theorem d_Law_law_707 : decode code 707 = .ok (.if_icmp .eq 28, 3) := by decide +kernel
theorem d_Law_law_710 : decode code 710 = .ok (.iconst 0, 1) := by decide +kernel
theorem d_Law_law_711 : decode code 711 = .ok (.ireturn, 1) := by decide +kernel
theorem d_Law_law_712 : decode code 712 = .ok (.aload_n 1, 1) := by decide +kernel
theorem d_Law_law_713 : decode code 713 = .ok (.aload_n 0, 1) := by decide +kernel
theorem d_Law_law_714 : decode code 714 = .ok (.iload_n 3, 1) := by decide +kernel
theorem d_Law_law_715 : decode code 715 = .ok (.iconst 1, 1) := by decide +kernel
theorem d_Law_law_716 : decode code 716 = .ok (.iadd, 1) := by decide +kernel
theorem d_Law_law_717 : decode code 717 = .ok (.iaload, 1) := by decide +kernel
theorem d_Law_law_718 : decode code 718 = .ok (.invokevirtual 98, 3) := by decide +kernel
theorem d_Law_law_721 : decode code 721 = .ok (.aload_n 2, 1) := by decide +kernel
theorem d_Law_law_722 : decode code 722 = .ok (.aload_n 0, 1) := by decide +kernel
theorem d_Law_law_723 : decode code 723 = .ok (.iload_n 3, 1) := by decide +kernel
theorem d_Law_law_724 : decode code 724 = .ok (.iconst 1, 1) := by decide +kernel
theorem d_Law_law_725 : decode code 725 = .ok (.iadd, 1) := by decide +kernel
theorem d_Law_law_726 : decode code 726 = .ok (.iaload, 1) := by decide +kernel
theorem d_Law_law_727 : decode code 727 = .ok (.invokevirtual 101, 3) := by decide +kernel
theorem d_Law_law_730 : decode code 730 = .ok (.if_icmp .eq 5, 3) := by decide +kernel
theorem d_Law_law_733 : decode code 733 = .ok (.iconst 0, 1) := by decide +kernel
theorem d_Law_law_734 : decode code 734 = .ok (.ireturn, 1) := by decide +kernel
theorem d_Law_law_735 : decode code 735 = .ok (.iinc 3 5, 3) := by decide +kernel
theorem d_Law_law_738 : decode code 738 = .ok (.goto (-720), 3) := by decide +kernel
theorem d_Law_law_741 : decode code 741 = .ok (.iconst 1, 1) := by decide +kernel
theorem d_Law_law_742 : decode code 742 = .ok (.ireturn, 1) := by decide +kernel
def f_Law_law_18 (xs : Nat → Int32) (L : Nat) (l1 : Nat) (l2 : Nat) : Nat → Int32 → Hp → Option Int32
  | 0, _, _ => none
  | n + 1, l3, h =>
    if ((Int32.ofNat L) - (5 : Int32)) < l3 then (
      some (1 : Int32)
    ) else (
      (gX xs L l3).bind fun t3 =>
      if (t3 &&& (31 : Int32)) = (0 : Int32) then (
        (gX xs L (l3 + (1 : Int32))).bind fun t4 =>
        (f_MF_say h l1 t4).bind fun q5 =>
        (gX xs L (l3 + (1 : Int32))).bind fun t6 =>
        (f_Mo_say q5.2 l2 t6).bind fun q7 =>
        if q5.1 = q7.1 then (
          f_Law_law_18 xs L l1 l2 n (l3 + (5 : Int32)) q7.2
        ) else (
          some (0 : Int32)
        )
      ) else (
        if (t3 &&& (31 : Int32)) = (1 : Int32) then (
          (f_MF_wipe h l1).bind fun q8 =>
          (f_Mo_wipe q8.2 l2).bind fun q9 =>
          if q8.1 = q9.1 then (
            f_Law_law_18 xs L l1 l2 n (l3 + (5 : Int32)) q9.2
          ) else (
            some (0 : Int32)
          )
        ) else (
          if (t3 &&& (31 : Int32)) = (2 : Int32) then (
            (f_MF_fault h l1).bind fun t10 =>
            (f_Mo_fault h l2).bind fun q11 =>
            if t10 = q11.1 then (
              f_Law_law_18 xs L l1 l2 n (l3 + (5 : Int32)) q11.2
            ) else (
              some (0 : Int32)
            )
          ) else (
            if (t3 &&& (31 : Int32)) = (3 : Int32) then (
              (gX xs L (l3 + (1 : Int32))).bind fun t12 =>
              (f_MF_put h l1 t12).bind fun q13 =>
              (gX xs L (l3 + (1 : Int32))).bind fun t14 =>
              (f_Mo_put q13.2 l2 t14).bind fun q15 =>
              if q13.1 = q15.1 then (
                f_Law_law_18 xs L l1 l2 n (l3 + (5 : Int32)) q15.2
              ) else (
                some (0 : Int32)
              )
            ) else (
              if (t3 &&& (31 : Int32)) = (4 : Int32) then (
                (gX xs L (l3 + (1 : Int32))).bind fun t16 =>
                (gX xs L (l3 + (2 : Int32))).bind fun t17 =>
                (f_MF_drop h l1 t16 t17).bind fun q18 =>
                (gX xs L (l3 + (1 : Int32))).bind fun t19 =>
                (gX xs L (l3 + (2 : Int32))).bind fun t20 =>
                (f_Mo_drop q18.2 l2 t19 t20).bind fun q21 =>
                if q18.1 = q21.1 then (
                  f_Law_law_18 xs L l1 l2 n (l3 + (5 : Int32)) q21.2
                ) else (
                  some (0 : Int32)
                )
              ) else (
                if (t3 &&& (31 : Int32)) = (5 : Int32) then (
                  (gX xs L (l3 + (1 : Int32))).bind fun t22 =>
                  (gX xs L (l3 + (2 : Int32))).bind fun t23 =>
                  (gX xs L (l3 + (3 : Int32))).bind fun t24 =>
                  (f_MF_file h l1 t22 t23 t24).bind fun t25 =>
                  (gX xs L (l3 + (1 : Int32))).bind fun t26 =>
                  (gX xs L (l3 + (2 : Int32))).bind fun t27 =>
                  (gX xs L (l3 + (3 : Int32))).bind fun t28 =>
                  (f_Mo_file h l2 t26 t27 t28).bind fun t29 =>
                  if t25 = t29 then (
                    f_Law_law_18 xs L l1 l2 n (l3 + (5 : Int32)) h
                  ) else (
                    some (0 : Int32)
                  )
                ) else (
                  if (t3 &&& (31 : Int32)) = (6 : Int32) then (
                    (gX xs L (l3 + (1 : Int32))).bind fun t30 =>
                    (f_MF_copy h l1 t30).bind fun q31 =>
                    (gX xs L (l3 + (1 : Int32))).bind fun t32 =>
                    (f_Mo_copy q31.2 l2 t32).bind fun q33 =>
                    if q31.1 = q33.1 then (
                      f_Law_law_18 xs L l1 l2 n (l3 + (5 : Int32)) q33.2
                    ) else (
                      some (0 : Int32)
                    )
                  ) else (
                    if (t3 &&& (31 : Int32)) = (7 : Int32) then (
                      (gX xs L (l3 + (1 : Int32))).bind fun t34 =>
                      (f_MF_limit h l1 t34).bind fun q35 =>
                      (gX xs L (l3 + (1 : Int32))).bind fun t36 =>
                      (f_Mo_limit q35.2 l2 t36).bind fun q37 =>
                      if q35.1 = q37.1 then (
                        f_Law_law_18 xs L l1 l2 n (l3 + (5 : Int32)) q37.2
                      ) else (
                        some (0 : Int32)
                      )
                    ) else (
                      if (t3 &&& (31 : Int32)) = (8 : Int32) then (
                        (gX xs L (l3 + (1 : Int32))).bind fun t38 =>
                        (gX xs L (l3 + (2 : Int32))).bind fun t39 =>
                        (gX xs L (l3 + (3 : Int32))).bind fun t40 =>
                        (gX xs L (l3 + (4 : Int32))).bind fun t41 =>
                        (f_MF_alike h l1 t38 t39 t40 t41).bind fun t42 =>
                        (gX xs L (l3 + (1 : Int32))).bind fun t43 =>
                        (gX xs L (l3 + (2 : Int32))).bind fun t44 =>
                        (gX xs L (l3 + (3 : Int32))).bind fun t45 =>
                        (gX xs L (l3 + (4 : Int32))).bind fun t46 =>
                        (f_Mo_alike h l2 t43 t44 t45 t46).bind fun t47 =>
                        if t42 = t47 then (
                          f_Law_law_18 xs L l1 l2 n (l3 + (5 : Int32)) h
                        ) else (
                          some (0 : Int32)
                        )
                      ) else (
                        if (t3 &&& (31 : Int32)) = (9 : Int32) then (
                          (gX xs L (l3 + (1 : Int32))).bind fun t48 =>
                          (gX xs L (l3 + (2 : Int32))).bind fun t49 =>
                          (gX xs L (l3 + (3 : Int32))).bind fun t50 =>
                          (f_MF_pair h l1 t48 t49 t50).bind fun q51 =>
                          (gX xs L (l3 + (1 : Int32))).bind fun t52 =>
                          (gX xs L (l3 + (2 : Int32))).bind fun t53 =>
                          (gX xs L (l3 + (3 : Int32))).bind fun t54 =>
                          (f_Mo_pair q51.2 l2 t52 t53 t54).bind fun q55 =>
                          if q51.1 = q55.1 then (
                            f_Law_law_18 xs L l1 l2 n (l3 + (5 : Int32)) q55.2
                          ) else (
                            some (0 : Int32)
                          )
                        ) else (
                          if (t3 &&& (31 : Int32)) = (10 : Int32) then (
                            (gX xs L (l3 + (1 : Int32))).bind fun t56 =>
                            (gX xs L (l3 + (2 : Int32))).bind fun t57 =>
                            (f_MF_origin h l1 t56 t57).bind fun q58 =>
                            (gX xs L (l3 + (1 : Int32))).bind fun t59 =>
                            (gX xs L (l3 + (2 : Int32))).bind fun t60 =>
                            (f_Mo_origin q58.2 l2 t59 t60).bind fun q61 =>
                            if q58.1 = q61.1 then (
                              f_Law_law_18 xs L l1 l2 n (l3 + (5 : Int32)) q61.2
                            ) else (
                              some (0 : Int32)
                            )
                          ) else (
                            if (t3 &&& (31 : Int32)) = (11 : Int32) then (
                              (gX xs L (l3 + (1 : Int32))).bind fun t62 =>
                              (gX xs L (l3 + (2 : Int32))).bind fun t63 =>
                              (gX xs L (l3 + (3 : Int32))).bind fun t64 =>
                              (f_MF_votes h l1 t62 t63 t64).bind fun q65 =>
                              (gX xs L (l3 + (1 : Int32))).bind fun t66 =>
                              (gX xs L (l3 + (2 : Int32))).bind fun t67 =>
                              (gX xs L (l3 + (3 : Int32))).bind fun t68 =>
                              (f_Mo_votes q65.2 l2 t66 t67 t68).bind fun q69 =>
                              if q65.1 = q69.1 then (
                                f_Law_law_18 xs L l1 l2 n (l3 + (5 : Int32)) q69.2
                              ) else (
                                some (0 : Int32)
                              )
                            ) else (
                              if (t3 &&& (31 : Int32)) = (12 : Int32) then (
                                (gX xs L (l3 + (1 : Int32))).bind fun t70 =>
                                (gX xs L (l3 + (2 : Int32))).bind fun t71 =>
                                (gX xs L (l3 + (3 : Int32))).bind fun t72 =>
                                (f_MF_moved h l1 t70 t71 t72).bind fun q73 =>
                                (gX xs L (l3 + (1 : Int32))).bind fun t74 =>
                                (gX xs L (l3 + (2 : Int32))).bind fun t75 =>
                                (gX xs L (l3 + (3 : Int32))).bind fun t76 =>
                                (f_Mo_moved q73.2 l2 t74 t75 t76).bind fun q77 =>
                                if q73.1 = q77.1 then (
                                  f_Law_law_18 xs L l1 l2 n (l3 + (5 : Int32)) q77.2
                                ) else (
                                  some (0 : Int32)
                                )
                              ) else (
                                if (t3 &&& (31 : Int32)) = (13 : Int32) then (
                                  (gX xs L (l3 + (1 : Int32))).bind fun t78 =>
                                  (gX xs L (l3 + (2 : Int32))).bind fun t79 =>
                                  (f_MF_dest h l1 t78 t79).bind fun q80 =>
                                  (gX xs L (l3 + (1 : Int32))).bind fun t81 =>
                                  (gX xs L (l3 + (2 : Int32))).bind fun t82 =>
                                  (f_Mo_dest q80.2 l2 t81 t82).bind fun q83 =>
                                  if q80.1 = q83.1 then (
                                    f_Law_law_18 xs L l1 l2 n (l3 + (5 : Int32)) q83.2
                                  ) else (
                                    some (0 : Int32)
                                  )
                                ) else (
                                  if (t3 &&& (31 : Int32)) = (14 : Int32) then (
                                    (gX xs L (l3 + (1 : Int32))).bind fun t84 =>
                                    (gX xs L (l3 + (2 : Int32))).bind fun t85 =>
                                    (f_MF_entry h l1 t84 t85).bind fun q86 =>
                                    (gX xs L (l3 + (1 : Int32))).bind fun t87 =>
                                    (gX xs L (l3 + (2 : Int32))).bind fun t88 =>
                                    (f_Mo_entry q86.2 l2 t87 t88).bind fun q89 =>
                                    if q86.1 = q89.1 then (
                                      f_Law_law_18 xs L l1 l2 n (l3 + (5 : Int32)) q89.2
                                    ) else (
                                      some (0 : Int32)
                                    )
                                  ) else (
                                    if (t3 &&& (31 : Int32)) = (15 : Int32) then (
                                      (gX xs L (l3 + (1 : Int32))).bind fun t90 =>
                                      (gX xs L (l3 + (2 : Int32))).bind fun t91 =>
                                      (f_MF_clash h l1 t90 t91).bind fun q92 =>
                                      (gX xs L (l3 + (1 : Int32))).bind fun t93 =>
                                      (gX xs L (l3 + (2 : Int32))).bind fun t94 =>
                                      (f_Mo_clash q92.2 l2 t93 t94).bind fun q95 =>
                                      if q92.1 = q95.1 then (
                                        f_Law_law_18 xs L l1 l2 n (l3 + (5 : Int32)) q95.2
                                      ) else (
                                        some (0 : Int32)
                                      )
                                    ) else (
                                      if (t3 &&& (31 : Int32)) = (16 : Int32) then (
                                        (f_MF_settle h l1).bind fun q96 =>
                                        (f_Mo_settle q96.2 l2).bind fun q97 =>
                                        if q96.1 = q97.1 then (
                                          f_Law_law_18 xs L l1 l2 n (l3 + (5 : Int32)) q97.2
                                        ) else (
                                          some (0 : Int32)
                                        )
                                      ) else (
                                        if (t3 &&& (31 : Int32)) = (17 : Int32) then (
                                          (f_MF_exchange h l1).bind fun q98 =>
                                          (f_Mo_exchange q98.2 l2).bind fun q99 =>
                                          if q98.1 = q99.1 then (
                                            f_Law_law_18 xs L l1 l2 n (l3 + (5 : Int32)) q99.2
                                          ) else (
                                            some (0 : Int32)
                                          )
                                        ) else (
                                          if (t3 &&& (31 : Int32)) = (18 : Int32) then (
                                            (gX xs L (l3 + (1 : Int32))).bind fun t100 =>
                                            (f_MF_image h l1 t100).bind fun q101 =>
                                            (gX xs L (l3 + (1 : Int32))).bind fun t102 =>
                                            (f_Mo_image q101.2 l2 t102).bind fun q103 =>
                                            if q101.1 = q103.1 then (
                                              f_Law_law_18 xs L l1 l2 n (l3 + (5 : Int32)) q103.2
                                            ) else (
                                              some (0 : Int32)
                                            )
                                          ) else (
                                            if (t3 &&& (31 : Int32)) = (19 : Int32) then (
                                              (gX xs L (l3 + (1 : Int32))).bind fun t104 =>
                                              (f_MF_restore h l1 t104).bind fun q105 =>
                                              (gX xs L (l3 + (1 : Int32))).bind fun t106 =>
                                              (f_Mo_restore q105.2 l2 t106).bind fun q107 =>
                                              if q105.1 = q107.1 then (
                                                f_Law_law_18 xs L l1 l2 n (l3 + (5 : Int32)) q107.2
                                              ) else (
                                                some (0 : Int32)
                                              )
                                            ) else (
                                              if (t3 &&& (31 : Int32)) = (20 : Int32) then (
                                                (gX xs L (l3 + (1 : Int32))).bind fun t108 =>
                                                (f_MF_told h l1 t108).bind fun q109 =>
                                                (gX xs L (l3 + (1 : Int32))).bind fun t110 =>
                                                (f_Mo_told q109.2 l2 t110).bind fun q111 =>
                                                if q109.1 = q111.1 then (
                                                  f_Law_law_18 xs L l1 l2 n (l3 + (5 : Int32)) q111.2
                                                ) else (
                                                  some (0 : Int32)
                                                )
                                              ) else (
                                                f_Law_law_18 xs L l1 l2 n (l3 + (5 : Int32)) h
      )))))))))))))))))))))
    )
set_option maxHeartbeats 4000000 in
set_option maxRecDepth 100000 in
theorem t_Law_law_18 {l1 : Nat} {l2 : Nat} {xs : Nat → Int32} {L : Nat} (C : Cx base D cI cZ code 4 "MovedFoldersLaw" meth.name (some .boolean) p s m #[Value.ref b] meth c) (hX : va_X b L xs s s.heap) (hbl : b < s.heap.size) (hbs : base = s.heap.size)  : ∀ (n : Nat) (l3 : Int32) (h : Hp), f_Law_law_18 xs L l1 l2 n l3 h = some 1 → ∀ (H : Heap) (locs : List Loc) (ls : Array Slot), RS base D cI cZ s H locs h → lv_has ls 4 [(0, .ref b), (1, .ref (base + l1)), (2, .ref (base + l2)), (3, .int l3)] → W p l e room_1 s m #[Value.ref b] below meth c H locs 81 3405 (lw_Z below #[Value.ref b] s) (F0 m 18 ls []) := by
  have hx := C.1
  have hb := C.2.1
  intro n
  induction n with
  | zero =>
    intro l3 h hM
    rw [f_Law_law_18] at hM
    cases hM
  | succ n ih =>
    intro l3 h hM H locs ls hS hl
    rw [f_Law_law_18] at hM
    refine lv_iload_n hx hb d_Law_law_18 rfl (lv_at hl 3 rfl) ?_
    refine lv_aload_n hx hb d_Law_law_19 rfl (lv_at hl 0 rfl) ?_
    refine r_slen C hS hX hbl hbs d_Law_law_20 ?_
    refine lv_iconst (v := (5 : Int32)) hx hb d_Law_law_21 (by decide) ?_
    refine lv_isub hx hb d_Law_law_22 ?_
    refine lv_icmp_gt (tgt := 741) hx hb d_Law_law_23 (by decide) (fun c23_1 => ?_) (fun c23_1 => ?_)
    · rw [if_pos c23_1] at hM
      refine lv_iconst (v := (1 : Int32)) hx hb d_Law_law_741 (by decide) ?_
      exact r_lret1 C hS hbs hM d_Law_law_742
    · rw [if_neg c23_1] at hM
      refine lv_aload_n hx hb d_Law_law_26 rfl (lv_at hl 0 rfl) ?_
      refine lv_iload_n hx hb d_Law_law_27 rfl (lv_at hl 3 rfl) ?_
      obtain ⟨t3, et3, hM⟩ := bS hM
      refine r_sld C hS hX hbl hbs et3 d_Law_law_28 ?_
      refine lv_bipush (v := (31 : Int32)) hx hb d_Law_law_29 (by decide) ?_
      refine lv_iand hx hb d_Law_law_31 ?_
      by_cases c32_2 : (t3 &&& (31 : Int32)) = (0 : Int32)
      · rw [if_pos c32_2] at hM
        refine lv_tableIn (off := 100) (tgt := 132) hx hb d_Law_law_32 (by rw [c32_2]; decide) (by rw [c32_2]; decide) (by rw [c32_2]; rfl) (by decide) ?_
        refine lv_aload_n hx hb d_Law_law_132 rfl (lv_at hl 1 rfl) ?_
        refine lv_aload_n hx hb d_Law_law_133 rfl (lv_at hl 0 rfl) ?_
        refine lv_iload_n hx hb d_Law_law_134 rfl (lv_at hl 3 rfl) ?_
        refine lv_iconst (v := (1 : Int32)) hx hb d_Law_law_135 (by decide) ?_
        refine lv_iadd hx hb d_Law_law_136 ?_
        obtain ⟨t4, et4, hM⟩ := bS hM
        refine r_sld C hS hX hbl hbs et4 d_Law_law_137 ?_
        obtain ⟨q5, eq5, hM⟩ := bS hM
        refine r_callVi (x := q5.1) C hS cv_Law_13 (c_MF_say l base D cI cZ h l1 t4 eq5) (o_MF_say eq5) (rest := []) rfl hl.1 rfl (Nat.le_of_ble_eq_true rfl) ⟨(Nat.le_of_ble_eq_true rfl), (Nat.le_of_ble_eq_true rfl)⟩ ⟨(Nat.le_of_ble_eq_true rfl), (Nat.le_of_ble_eq_true rfl)⟩ d_Law_law_138 (fun H locs hS => ?_)
        refine lv_aload_n hx hb d_Law_law_141 rfl (lv_at hl 2 rfl) ?_
        refine lv_aload_n hx hb d_Law_law_142 rfl (lv_at hl 0 rfl) ?_
        refine lv_iload_n hx hb d_Law_law_143 rfl (lv_at hl 3 rfl) ?_
        refine lv_iconst (v := (1 : Int32)) hx hb d_Law_law_144 (by decide) ?_
        refine lv_iadd hx hb d_Law_law_145 ?_
        obtain ⟨t6, et6, hM⟩ := bS hM
        refine r_sld C hS hX hbl hbs et6 d_Law_law_146 ?_
        obtain ⟨q7, eq7, hM⟩ := bS hM
        refine r_callVi (x := q7.1) C hS cv_Law_17 (c_Mo_say l base D cI cZ q5.2 l2 t6 eq7) (o_Mo_say eq7) (rest := [.int q5.1]) rfl hl.1 rfl (Nat.le_of_ble_eq_true rfl) ⟨(Nat.le_of_ble_eq_true rfl), (Nat.le_of_ble_eq_true rfl)⟩ ⟨(Nat.le_of_ble_eq_true rfl), (Nat.le_of_ble_eq_true rfl)⟩ d_Law_law_147 (fun H locs hS => ?_)
        refine lv_icmp_eq (tgt := 735) hx hb d_Law_law_150 (by decide) (fun c150_3 => ?_) (fun c150_3 => ?_)
        · rw [if_pos c150_3] at hM
          refine lv_iinc (v := (l3 + (5 : Int32))) (lv' := [(3, .int (l3 + (5 : Int32))), (0, .ref b), (1, .ref (base + l1)), (2, .ref (base + l2))]) hx hb d_Law_law_735 hl (k := 3) rfl (by rw [oi_5]) (by decide) rfl (fun ls hl => ?_)
          refine lv_goto (tgt := 18) hx hb d_Law_law_738 (by decide) ?_
          exact ih (l3 + (5 : Int32)) q7.2 hM _ _ _ hS (lv_sub hl [1, 2, 3, 0] rfl)
        · rw [if_neg c150_3] at hM
          refine lv_iconst (v := (0 : Int32)) hx hb d_Law_law_153 (by decide) ?_
          exact r_lret1 C hS hbs hM d_Law_law_154
      rw [if_neg c32_2] at hM
      by_cases c32_4 : (t3 &&& (31 : Int32)) = (1 : Int32)
      · rw [if_pos c32_4] at hM
        refine lv_tableIn (off := 123) (tgt := 155) hx hb d_Law_law_32 (by rw [c32_4]; decide) (by rw [c32_4]; decide) (by rw [c32_4]; rfl) (by decide) ?_
        refine lv_aload_n hx hb d_Law_law_155 rfl (lv_at hl 1 rfl) ?_
        obtain ⟨q8, eq8, hM⟩ := bS hM
        refine r_callVi (x := q8.1) C hS cv_Law_18 (c_MF_wipe l base D cI cZ h l1 eq8) (o_MF_wipe eq8) (rest := []) rfl hl.1 rfl (Nat.le_of_ble_eq_true rfl) ⟨(Nat.le_of_ble_eq_true rfl), (Nat.le_of_ble_eq_true rfl)⟩ ⟨(Nat.le_of_ble_eq_true rfl), (Nat.le_of_ble_eq_true rfl)⟩ d_Law_law_156 (fun H locs hS => ?_)
        refine lv_aload_n hx hb d_Law_law_159 rfl (lv_at hl 2 rfl) ?_
        obtain ⟨q9, eq9, hM⟩ := bS hM
        refine r_callVi (x := q9.1) C hS cv_Law_22 (c_Mo_wipe l base D cI cZ q8.2 l2 eq9) (o_Mo_wipe eq9) (rest := [.int q8.1]) rfl hl.1 rfl (Nat.le_of_ble_eq_true rfl) ⟨(Nat.le_of_ble_eq_true rfl), (Nat.le_of_ble_eq_true rfl)⟩ ⟨(Nat.le_of_ble_eq_true rfl), (Nat.le_of_ble_eq_true rfl)⟩ d_Law_law_160 (fun H locs hS => ?_)
        refine lv_icmp_eq (tgt := 735) hx hb d_Law_law_163 (by decide) (fun c163_5 => ?_) (fun c163_5 => ?_)
        · rw [if_pos c163_5] at hM
          refine lv_iinc (v := (l3 + (5 : Int32))) (lv' := [(3, .int (l3 + (5 : Int32))), (0, .ref b), (1, .ref (base + l1)), (2, .ref (base + l2))]) hx hb d_Law_law_735 hl (k := 3) rfl (by rw [oi_5]) (by decide) rfl (fun ls hl => ?_)
          refine lv_goto (tgt := 18) hx hb d_Law_law_738 (by decide) ?_
          exact ih (l3 + (5 : Int32)) q9.2 hM _ _ _ hS (lv_sub hl [1, 2, 3, 0] rfl)
        · rw [if_neg c163_5] at hM
          refine lv_iconst (v := (0 : Int32)) hx hb d_Law_law_166 (by decide) ?_
          exact r_lret1 C hS hbs hM d_Law_law_167
      rw [if_neg c32_4] at hM
      by_cases c32_6 : (t3 &&& (31 : Int32)) = (2 : Int32)
      · rw [if_pos c32_6] at hM
        refine lv_tableIn (off := 136) (tgt := 168) hx hb d_Law_law_32 (by rw [c32_6]; decide) (by rw [c32_6]; decide) (by rw [c32_6]; rfl) (by decide) ?_
        refine lv_aload_n hx hb d_Law_law_168 rfl (lv_at hl 1 rfl) ?_
        obtain ⟨t10, et10, hM⟩ := bS hM
        refine r_callVi (x := t10) C hS cv_Law_23 (c_MF_fault l base D cI cZ h l1 et10) (o_MF_fault et10) (rest := []) rfl hl.1 rfl (Nat.le_of_ble_eq_true rfl) ⟨(Nat.le_of_ble_eq_true rfl), (Nat.le_of_ble_eq_true rfl)⟩ ⟨(Nat.le_of_ble_eq_true rfl), (Nat.le_of_ble_eq_true rfl)⟩ d_Law_law_169 (fun H locs hS => ?_)
        refine lv_aload_n hx hb d_Law_law_172 rfl (lv_at hl 2 rfl) ?_
        obtain ⟨q11, eq11, hM⟩ := bS hM
        refine r_callVi (x := q11.1) C hS cv_Law_26 (c_Mo_fault l base D cI cZ h l2 eq11) (o_Mo_fault eq11) (rest := [.int t10]) rfl hl.1 rfl (Nat.le_of_ble_eq_true rfl) ⟨(Nat.le_of_ble_eq_true rfl), (Nat.le_of_ble_eq_true rfl)⟩ ⟨(Nat.le_of_ble_eq_true rfl), (Nat.le_of_ble_eq_true rfl)⟩ d_Law_law_173 (fun H locs hS => ?_)
        refine lv_icmp_eq (tgt := 735) hx hb d_Law_law_176 (by decide) (fun c176_7 => ?_) (fun c176_7 => ?_)
        · rw [if_pos c176_7] at hM
          refine lv_iinc (v := (l3 + (5 : Int32))) (lv' := [(3, .int (l3 + (5 : Int32))), (0, .ref b), (1, .ref (base + l1)), (2, .ref (base + l2))]) hx hb d_Law_law_735 hl (k := 3) rfl (by rw [oi_5]) (by decide) rfl (fun ls hl => ?_)
          refine lv_goto (tgt := 18) hx hb d_Law_law_738 (by decide) ?_
          exact ih (l3 + (5 : Int32)) q11.2 hM _ _ _ hS (lv_sub hl [1, 2, 3, 0] rfl)
        · rw [if_neg c176_7] at hM
          refine lv_iconst (v := (0 : Int32)) hx hb d_Law_law_179 (by decide) ?_
          exact r_lret1 C hS hbs hM d_Law_law_180
      rw [if_neg c32_6] at hM
      by_cases c32_8 : (t3 &&& (31 : Int32)) = (3 : Int32)
      · rw [if_pos c32_8] at hM
        refine lv_tableIn (off := 149) (tgt := 181) hx hb d_Law_law_32 (by rw [c32_8]; decide) (by rw [c32_8]; decide) (by rw [c32_8]; rfl) (by decide) ?_
        refine lv_aload_n hx hb d_Law_law_181 rfl (lv_at hl 1 rfl) ?_
        refine lv_aload_n hx hb d_Law_law_182 rfl (lv_at hl 0 rfl) ?_
        refine lv_iload_n hx hb d_Law_law_183 rfl (lv_at hl 3 rfl) ?_
        refine lv_iconst (v := (1 : Int32)) hx hb d_Law_law_184 (by decide) ?_
        refine lv_iadd hx hb d_Law_law_185 ?_
        obtain ⟨t12, et12, hM⟩ := bS hM
        refine r_sld C hS hX hbl hbs et12 d_Law_law_186 ?_
        obtain ⟨q13, eq13, hM⟩ := bS hM
        refine r_callVi (x := q13.1) C hS cv_Law_27 (c_MF_put l base D cI cZ h l1 t12 eq13) (o_MF_put eq13) (rest := []) rfl hl.1 rfl (Nat.le_of_ble_eq_true rfl) ⟨(Nat.le_of_ble_eq_true rfl), (Nat.le_of_ble_eq_true rfl)⟩ ⟨(Nat.le_of_ble_eq_true rfl), (Nat.le_of_ble_eq_true rfl)⟩ d_Law_law_187 (fun H locs hS => ?_)
        refine lv_aload_n hx hb d_Law_law_190 rfl (lv_at hl 2 rfl) ?_
        refine lv_aload_n hx hb d_Law_law_191 rfl (lv_at hl 0 rfl) ?_
        refine lv_iload_n hx hb d_Law_law_192 rfl (lv_at hl 3 rfl) ?_
        refine lv_iconst (v := (1 : Int32)) hx hb d_Law_law_193 (by decide) ?_
        refine lv_iadd hx hb d_Law_law_194 ?_
        obtain ⟨t14, et14, hM⟩ := bS hM
        refine r_sld C hS hX hbl hbs et14 d_Law_law_195 ?_
        obtain ⟨q15, eq15, hM⟩ := bS hM
        refine r_callVi (x := q15.1) C hS cv_Law_30 (c_Mo_put l base D cI cZ q13.2 l2 t14 eq15) (o_Mo_put eq15) (rest := [.int q13.1]) rfl hl.1 rfl (Nat.le_of_ble_eq_true rfl) ⟨(Nat.le_of_ble_eq_true rfl), (Nat.le_of_ble_eq_true rfl)⟩ ⟨(Nat.le_of_ble_eq_true rfl), (Nat.le_of_ble_eq_true rfl)⟩ d_Law_law_196 (fun H locs hS => ?_)
        refine lv_icmp_eq (tgt := 735) hx hb d_Law_law_199 (by decide) (fun c199_9 => ?_) (fun c199_9 => ?_)
        · rw [if_pos c199_9] at hM
          refine lv_iinc (v := (l3 + (5 : Int32))) (lv' := [(3, .int (l3 + (5 : Int32))), (0, .ref b), (1, .ref (base + l1)), (2, .ref (base + l2))]) hx hb d_Law_law_735 hl (k := 3) rfl (by rw [oi_5]) (by decide) rfl (fun ls hl => ?_)
          refine lv_goto (tgt := 18) hx hb d_Law_law_738 (by decide) ?_
          exact ih (l3 + (5 : Int32)) q15.2 hM _ _ _ hS (lv_sub hl [1, 2, 3, 0] rfl)
        · rw [if_neg c199_9] at hM
          refine lv_iconst (v := (0 : Int32)) hx hb d_Law_law_202 (by decide) ?_
          exact r_lret1 C hS hbs hM d_Law_law_203
      rw [if_neg c32_8] at hM
      by_cases c32_10 : (t3 &&& (31 : Int32)) = (4 : Int32)
      · rw [if_pos c32_10] at hM
        refine lv_tableIn (off := 172) (tgt := 204) hx hb d_Law_law_32 (by rw [c32_10]; decide) (by rw [c32_10]; decide) (by rw [c32_10]; rfl) (by decide) ?_
        refine lv_aload_n hx hb d_Law_law_204 rfl (lv_at hl 1 rfl) ?_
        refine lv_aload_n hx hb d_Law_law_205 rfl (lv_at hl 0 rfl) ?_
        refine lv_iload_n hx hb d_Law_law_206 rfl (lv_at hl 3 rfl) ?_
        refine lv_iconst (v := (1 : Int32)) hx hb d_Law_law_207 (by decide) ?_
        refine lv_iadd hx hb d_Law_law_208 ?_
        obtain ⟨t16, et16, hM⟩ := bS hM
        refine r_sld C hS hX hbl hbs et16 d_Law_law_209 ?_
        refine lv_aload_n hx hb d_Law_law_210 rfl (lv_at hl 0 rfl) ?_
        refine lv_iload_n hx hb d_Law_law_211 rfl (lv_at hl 3 rfl) ?_
        refine lv_iconst (v := (2 : Int32)) hx hb d_Law_law_212 (by decide) ?_
        refine lv_iadd hx hb d_Law_law_213 ?_
        obtain ⟨t17, et17, hM⟩ := bS hM
        refine r_sld C hS hX hbl hbs et17 d_Law_law_214 ?_
        obtain ⟨q18, eq18, hM⟩ := bS hM
        refine r_callVi (x := q18.1) C hS cv_Law_31 (c_MF_drop l base D cI cZ h l1 t16 t17 eq18) (o_MF_drop eq18) (rest := []) rfl hl.1 rfl (Nat.le_of_ble_eq_true rfl) ⟨(Nat.le_of_ble_eq_true rfl), (Nat.le_of_ble_eq_true rfl)⟩ ⟨(Nat.le_of_ble_eq_true rfl), (Nat.le_of_ble_eq_true rfl)⟩ d_Law_law_215 (fun H locs hS => ?_)
        refine lv_aload_n hx hb d_Law_law_218 rfl (lv_at hl 2 rfl) ?_
        refine lv_aload_n hx hb d_Law_law_219 rfl (lv_at hl 0 rfl) ?_
        refine lv_iload_n hx hb d_Law_law_220 rfl (lv_at hl 3 rfl) ?_
        refine lv_iconst (v := (1 : Int32)) hx hb d_Law_law_221 (by decide) ?_
        refine lv_iadd hx hb d_Law_law_222 ?_
        obtain ⟨t19, et19, hM⟩ := bS hM
        refine r_sld C hS hX hbl hbs et19 d_Law_law_223 ?_
        refine lv_aload_n hx hb d_Law_law_224 rfl (lv_at hl 0 rfl) ?_
        refine lv_iload_n hx hb d_Law_law_225 rfl (lv_at hl 3 rfl) ?_
        refine lv_iconst (v := (2 : Int32)) hx hb d_Law_law_226 (by decide) ?_
        refine lv_iadd hx hb d_Law_law_227 ?_
        obtain ⟨t20, et20, hM⟩ := bS hM
        refine r_sld C hS hX hbl hbs et20 d_Law_law_228 ?_
        obtain ⟨q21, eq21, hM⟩ := bS hM
        refine r_callVi (x := q21.1) C hS cv_Law_35 (c_Mo_drop l base D cI cZ q18.2 l2 t19 t20 eq21) (o_Mo_drop eq21) (rest := [.int q18.1]) rfl hl.1 rfl (Nat.le_of_ble_eq_true rfl) ⟨(Nat.le_of_ble_eq_true rfl), (Nat.le_of_ble_eq_true rfl)⟩ ⟨(Nat.le_of_ble_eq_true rfl), (Nat.le_of_ble_eq_true rfl)⟩ d_Law_law_229 (fun H locs hS => ?_)
        refine lv_icmp_eq (tgt := 735) hx hb d_Law_law_232 (by decide) (fun c232_11 => ?_) (fun c232_11 => ?_)
        · rw [if_pos c232_11] at hM
          refine lv_iinc (v := (l3 + (5 : Int32))) (lv' := [(3, .int (l3 + (5 : Int32))), (0, .ref b), (1, .ref (base + l1)), (2, .ref (base + l2))]) hx hb d_Law_law_735 hl (k := 3) rfl (by rw [oi_5]) (by decide) rfl (fun ls hl => ?_)
          refine lv_goto (tgt := 18) hx hb d_Law_law_738 (by decide) ?_
          exact ih (l3 + (5 : Int32)) q21.2 hM _ _ _ hS (lv_sub hl [1, 2, 3, 0] rfl)
        · rw [if_neg c232_11] at hM
          refine lv_iconst (v := (0 : Int32)) hx hb d_Law_law_235 (by decide) ?_
          exact r_lret1 C hS hbs hM d_Law_law_236
      rw [if_neg c32_10] at hM
      by_cases c32_12 : (t3 &&& (31 : Int32)) = (5 : Int32)
      · rw [if_pos c32_12] at hM
        refine lv_tableIn (off := 205) (tgt := 237) hx hb d_Law_law_32 (by rw [c32_12]; decide) (by rw [c32_12]; decide) (by rw [c32_12]; rfl) (by decide) ?_
        refine lv_aload_n hx hb d_Law_law_237 rfl (lv_at hl 1 rfl) ?_
        refine lv_aload_n hx hb d_Law_law_238 rfl (lv_at hl 0 rfl) ?_
        refine lv_iload_n hx hb d_Law_law_239 rfl (lv_at hl 3 rfl) ?_
        refine lv_iconst (v := (1 : Int32)) hx hb d_Law_law_240 (by decide) ?_
        refine lv_iadd hx hb d_Law_law_241 ?_
        obtain ⟨t22, et22, hM⟩ := bS hM
        refine r_sld C hS hX hbl hbs et22 d_Law_law_242 ?_
        refine lv_aload_n hx hb d_Law_law_243 rfl (lv_at hl 0 rfl) ?_
        refine lv_iload_n hx hb d_Law_law_244 rfl (lv_at hl 3 rfl) ?_
        refine lv_iconst (v := (2 : Int32)) hx hb d_Law_law_245 (by decide) ?_
        refine lv_iadd hx hb d_Law_law_246 ?_
        obtain ⟨t23, et23, hM⟩ := bS hM
        refine r_sld C hS hX hbl hbs et23 d_Law_law_247 ?_
        refine lv_aload_n hx hb d_Law_law_248 rfl (lv_at hl 0 rfl) ?_
        refine lv_iload_n hx hb d_Law_law_249 rfl (lv_at hl 3 rfl) ?_
        refine lv_iconst (v := (3 : Int32)) hx hb d_Law_law_250 (by decide) ?_
        refine lv_iadd hx hb d_Law_law_251 ?_
        obtain ⟨t24, et24, hM⟩ := bS hM
        refine r_sld C hS hX hbl hbs et24 d_Law_law_252 ?_
        obtain ⟨t25, et25, hM⟩ := bS hM
        refine r_callVi (x := t25) C hS cv_Law_36 (c_MF_file l base D cI cZ h l1 t22 t23 t24 et25) (o_MF_file et25) (rest := []) rfl hl.1 rfl (Nat.le_of_ble_eq_true rfl) ⟨(Nat.le_of_ble_eq_true rfl), (Nat.le_of_ble_eq_true rfl)⟩ ⟨(Nat.le_of_ble_eq_true rfl), (Nat.le_of_ble_eq_true rfl)⟩ d_Law_law_253 (fun H locs hS => ?_)
        refine lv_aload_n hx hb d_Law_law_256 rfl (lv_at hl 2 rfl) ?_
        refine lv_aload_n hx hb d_Law_law_257 rfl (lv_at hl 0 rfl) ?_
        refine lv_iload_n hx hb d_Law_law_258 rfl (lv_at hl 3 rfl) ?_
        refine lv_iconst (v := (1 : Int32)) hx hb d_Law_law_259 (by decide) ?_
        refine lv_iadd hx hb d_Law_law_260 ?_
        obtain ⟨t26, et26, hM⟩ := bS hM
        refine r_sld C hS hX hbl hbs et26 d_Law_law_261 ?_
        refine lv_aload_n hx hb d_Law_law_262 rfl (lv_at hl 0 rfl) ?_
        refine lv_iload_n hx hb d_Law_law_263 rfl (lv_at hl 3 rfl) ?_
        refine lv_iconst (v := (2 : Int32)) hx hb d_Law_law_264 (by decide) ?_
        refine lv_iadd hx hb d_Law_law_265 ?_
        obtain ⟨t27, et27, hM⟩ := bS hM
        refine r_sld C hS hX hbl hbs et27 d_Law_law_266 ?_
        refine lv_aload_n hx hb d_Law_law_267 rfl (lv_at hl 0 rfl) ?_
        refine lv_iload_n hx hb d_Law_law_268 rfl (lv_at hl 3 rfl) ?_
        refine lv_iconst (v := (3 : Int32)) hx hb d_Law_law_269 (by decide) ?_
        refine lv_iadd hx hb d_Law_law_270 ?_
        obtain ⟨t28, et28, hM⟩ := bS hM
        refine r_sld C hS hX hbl hbs et28 d_Law_law_271 ?_
        obtain ⟨t29, et29, hM⟩ := bS hM
        refine r_callVi (x := t29) C hS cv_Law_40 (c_Mo_file l base D cI cZ h l2 t26 t27 t28 et29) (o_Mo_file et29) (rest := [.int t25]) rfl hl.1 rfl (Nat.le_of_ble_eq_true rfl) ⟨(Nat.le_of_ble_eq_true rfl), (Nat.le_of_ble_eq_true rfl)⟩ ⟨(Nat.le_of_ble_eq_true rfl), (Nat.le_of_ble_eq_true rfl)⟩ d_Law_law_272 (fun H locs hS => ?_)
        refine lv_icmp_eq (tgt := 735) hx hb d_Law_law_275 (by decide) (fun c275_13 => ?_) (fun c275_13 => ?_)
        · rw [if_pos c275_13] at hM
          refine lv_iinc (v := (l3 + (5 : Int32))) (lv' := [(3, .int (l3 + (5 : Int32))), (0, .ref b), (1, .ref (base + l1)), (2, .ref (base + l2))]) hx hb d_Law_law_735 hl (k := 3) rfl (by rw [oi_5]) (by decide) rfl (fun ls hl => ?_)
          refine lv_goto (tgt := 18) hx hb d_Law_law_738 (by decide) ?_
          exact ih (l3 + (5 : Int32)) h hM _ _ _ hS (lv_sub hl [1, 2, 3, 0] rfl)
        · rw [if_neg c275_13] at hM
          refine lv_iconst (v := (0 : Int32)) hx hb d_Law_law_278 (by decide) ?_
          exact r_lret1 C hS hbs hM d_Law_law_279
      rw [if_neg c32_12] at hM
      by_cases c32_14 : (t3 &&& (31 : Int32)) = (6 : Int32)
      · rw [if_pos c32_14] at hM
        refine lv_tableIn (off := 248) (tgt := 280) hx hb d_Law_law_32 (by rw [c32_14]; decide) (by rw [c32_14]; decide) (by rw [c32_14]; rfl) (by decide) ?_
        refine lv_aload_n hx hb d_Law_law_280 rfl (lv_at hl 1 rfl) ?_
        refine lv_aload_n hx hb d_Law_law_281 rfl (lv_at hl 0 rfl) ?_
        refine lv_iload_n hx hb d_Law_law_282 rfl (lv_at hl 3 rfl) ?_
        refine lv_iconst (v := (1 : Int32)) hx hb d_Law_law_283 (by decide) ?_
        refine lv_iadd hx hb d_Law_law_284 ?_
        obtain ⟨t30, et30, hM⟩ := bS hM
        refine r_sld C hS hX hbl hbs et30 d_Law_law_285 ?_
        obtain ⟨q31, eq31, hM⟩ := bS hM
        refine r_callVi (x := q31.1) C hS cv_Law_41 (c_MF_copy l base D cI cZ h l1 t30 eq31) (o_MF_copy eq31) (rest := []) rfl hl.1 rfl (Nat.le_of_ble_eq_true rfl) ⟨(Nat.le_of_ble_eq_true rfl), (Nat.le_of_ble_eq_true rfl)⟩ ⟨(Nat.le_of_ble_eq_true rfl), (Nat.le_of_ble_eq_true rfl)⟩ d_Law_law_286 (fun H locs hS => ?_)
        refine lv_aload_n hx hb d_Law_law_289 rfl (lv_at hl 2 rfl) ?_
        refine lv_aload_n hx hb d_Law_law_290 rfl (lv_at hl 0 rfl) ?_
        refine lv_iload_n hx hb d_Law_law_291 rfl (lv_at hl 3 rfl) ?_
        refine lv_iconst (v := (1 : Int32)) hx hb d_Law_law_292 (by decide) ?_
        refine lv_iadd hx hb d_Law_law_293 ?_
        obtain ⟨t32, et32, hM⟩ := bS hM
        refine r_sld C hS hX hbl hbs et32 d_Law_law_294 ?_
        obtain ⟨q33, eq33, hM⟩ := bS hM
        refine r_callVi (x := q33.1) C hS cv_Law_44 (c_Mo_copy l base D cI cZ q31.2 l2 t32 eq33) (o_Mo_copy eq33) (rest := [.int q31.1]) rfl hl.1 rfl (Nat.le_of_ble_eq_true rfl) ⟨(Nat.le_of_ble_eq_true rfl), (Nat.le_of_ble_eq_true rfl)⟩ ⟨(Nat.le_of_ble_eq_true rfl), (Nat.le_of_ble_eq_true rfl)⟩ d_Law_law_295 (fun H locs hS => ?_)
        refine lv_icmp_eq (tgt := 735) hx hb d_Law_law_298 (by decide) (fun c298_15 => ?_) (fun c298_15 => ?_)
        · rw [if_pos c298_15] at hM
          refine lv_iinc (v := (l3 + (5 : Int32))) (lv' := [(3, .int (l3 + (5 : Int32))), (0, .ref b), (1, .ref (base + l1)), (2, .ref (base + l2))]) hx hb d_Law_law_735 hl (k := 3) rfl (by rw [oi_5]) (by decide) rfl (fun ls hl => ?_)
          refine lv_goto (tgt := 18) hx hb d_Law_law_738 (by decide) ?_
          exact ih (l3 + (5 : Int32)) q33.2 hM _ _ _ hS (lv_sub hl [1, 2, 3, 0] rfl)
        · rw [if_neg c298_15] at hM
          refine lv_iconst (v := (0 : Int32)) hx hb d_Law_law_301 (by decide) ?_
          exact r_lret1 C hS hbs hM d_Law_law_302
      rw [if_neg c32_14] at hM
      by_cases c32_16 : (t3 &&& (31 : Int32)) = (7 : Int32)
      · rw [if_pos c32_16] at hM
        refine lv_tableIn (off := 271) (tgt := 303) hx hb d_Law_law_32 (by rw [c32_16]; decide) (by rw [c32_16]; decide) (by rw [c32_16]; rfl) (by decide) ?_
        refine lv_aload_n hx hb d_Law_law_303 rfl (lv_at hl 1 rfl) ?_
        refine lv_aload_n hx hb d_Law_law_304 rfl (lv_at hl 0 rfl) ?_
        refine lv_iload_n hx hb d_Law_law_305 rfl (lv_at hl 3 rfl) ?_
        refine lv_iconst (v := (1 : Int32)) hx hb d_Law_law_306 (by decide) ?_
        refine lv_iadd hx hb d_Law_law_307 ?_
        obtain ⟨t34, et34, hM⟩ := bS hM
        refine r_sld C hS hX hbl hbs et34 d_Law_law_308 ?_
        obtain ⟨q35, eq35, hM⟩ := bS hM
        refine r_callVi (x := q35.1) C hS cv_Law_45 (c_MF_limit l base D cI cZ h l1 t34 eq35) (o_MF_limit eq35) (rest := []) rfl hl.1 rfl (Nat.le_of_ble_eq_true rfl) ⟨(Nat.le_of_ble_eq_true rfl), (Nat.le_of_ble_eq_true rfl)⟩ ⟨(Nat.le_of_ble_eq_true rfl), (Nat.le_of_ble_eq_true rfl)⟩ d_Law_law_309 (fun H locs hS => ?_)
        refine lv_aload_n hx hb d_Law_law_312 rfl (lv_at hl 2 rfl) ?_
        refine lv_aload_n hx hb d_Law_law_313 rfl (lv_at hl 0 rfl) ?_
        refine lv_iload_n hx hb d_Law_law_314 rfl (lv_at hl 3 rfl) ?_
        refine lv_iconst (v := (1 : Int32)) hx hb d_Law_law_315 (by decide) ?_
        refine lv_iadd hx hb d_Law_law_316 ?_
        obtain ⟨t36, et36, hM⟩ := bS hM
        refine r_sld C hS hX hbl hbs et36 d_Law_law_317 ?_
        obtain ⟨q37, eq37, hM⟩ := bS hM
        refine r_callVi (x := q37.1) C hS cv_Law_48 (c_Mo_limit l base D cI cZ q35.2 l2 t36 eq37) (o_Mo_limit eq37) (rest := [.int q35.1]) rfl hl.1 rfl (Nat.le_of_ble_eq_true rfl) ⟨(Nat.le_of_ble_eq_true rfl), (Nat.le_of_ble_eq_true rfl)⟩ ⟨(Nat.le_of_ble_eq_true rfl), (Nat.le_of_ble_eq_true rfl)⟩ d_Law_law_318 (fun H locs hS => ?_)
        refine lv_icmp_eq (tgt := 735) hx hb d_Law_law_321 (by decide) (fun c321_17 => ?_) (fun c321_17 => ?_)
        · rw [if_pos c321_17] at hM
          refine lv_iinc (v := (l3 + (5 : Int32))) (lv' := [(3, .int (l3 + (5 : Int32))), (0, .ref b), (1, .ref (base + l1)), (2, .ref (base + l2))]) hx hb d_Law_law_735 hl (k := 3) rfl (by rw [oi_5]) (by decide) rfl (fun ls hl => ?_)
          refine lv_goto (tgt := 18) hx hb d_Law_law_738 (by decide) ?_
          exact ih (l3 + (5 : Int32)) q37.2 hM _ _ _ hS (lv_sub hl [1, 2, 3, 0] rfl)
        · rw [if_neg c321_17] at hM
          refine lv_iconst (v := (0 : Int32)) hx hb d_Law_law_324 (by decide) ?_
          exact r_lret1 C hS hbs hM d_Law_law_325
      rw [if_neg c32_16] at hM
      by_cases c32_18 : (t3 &&& (31 : Int32)) = (8 : Int32)
      · rw [if_pos c32_18] at hM
        refine lv_tableIn (off := 294) (tgt := 326) hx hb d_Law_law_32 (by rw [c32_18]; decide) (by rw [c32_18]; decide) (by rw [c32_18]; rfl) (by decide) ?_
        refine lv_aload_n hx hb d_Law_law_326 rfl (lv_at hl 1 rfl) ?_
        refine lv_aload_n hx hb d_Law_law_327 rfl (lv_at hl 0 rfl) ?_
        refine lv_iload_n hx hb d_Law_law_328 rfl (lv_at hl 3 rfl) ?_
        refine lv_iconst (v := (1 : Int32)) hx hb d_Law_law_329 (by decide) ?_
        refine lv_iadd hx hb d_Law_law_330 ?_
        obtain ⟨t38, et38, hM⟩ := bS hM
        refine r_sld C hS hX hbl hbs et38 d_Law_law_331 ?_
        refine lv_aload_n hx hb d_Law_law_332 rfl (lv_at hl 0 rfl) ?_
        refine lv_iload_n hx hb d_Law_law_333 rfl (lv_at hl 3 rfl) ?_
        refine lv_iconst (v := (2 : Int32)) hx hb d_Law_law_334 (by decide) ?_
        refine lv_iadd hx hb d_Law_law_335 ?_
        obtain ⟨t39, et39, hM⟩ := bS hM
        refine r_sld C hS hX hbl hbs et39 d_Law_law_336 ?_
        refine lv_aload_n hx hb d_Law_law_337 rfl (lv_at hl 0 rfl) ?_
        refine lv_iload_n hx hb d_Law_law_338 rfl (lv_at hl 3 rfl) ?_
        refine lv_iconst (v := (3 : Int32)) hx hb d_Law_law_339 (by decide) ?_
        refine lv_iadd hx hb d_Law_law_340 ?_
        obtain ⟨t40, et40, hM⟩ := bS hM
        refine r_sld C hS hX hbl hbs et40 d_Law_law_341 ?_
        refine lv_aload_n hx hb d_Law_law_342 rfl (lv_at hl 0 rfl) ?_
        refine lv_iload_n hx hb d_Law_law_343 rfl (lv_at hl 3 rfl) ?_
        refine lv_iconst (v := (4 : Int32)) hx hb d_Law_law_344 (by decide) ?_
        refine lv_iadd hx hb d_Law_law_345 ?_
        obtain ⟨t41, et41, hM⟩ := bS hM
        refine r_sld C hS hX hbl hbs et41 d_Law_law_346 ?_
        obtain ⟨t42, et42, hM⟩ := bS hM
        refine r_callVi (x := t42) C hS cv_Law_49 (c_MF_alike l base D cI cZ h l1 t38 t39 t40 t41 et42) (o_MF_alike et42) (rest := []) rfl hl.1 rfl (Nat.le_of_ble_eq_true rfl) ⟨(Nat.le_of_ble_eq_true rfl), (Nat.le_of_ble_eq_true rfl)⟩ ⟨(Nat.le_of_ble_eq_true rfl), (Nat.le_of_ble_eq_true rfl)⟩ d_Law_law_347 (fun H locs hS => ?_)
        refine lv_aload_n hx hb d_Law_law_350 rfl (lv_at hl 2 rfl) ?_
        refine lv_aload_n hx hb d_Law_law_351 rfl (lv_at hl 0 rfl) ?_
        refine lv_iload_n hx hb d_Law_law_352 rfl (lv_at hl 3 rfl) ?_
        refine lv_iconst (v := (1 : Int32)) hx hb d_Law_law_353 (by decide) ?_
        refine lv_iadd hx hb d_Law_law_354 ?_
        obtain ⟨t43, et43, hM⟩ := bS hM
        refine r_sld C hS hX hbl hbs et43 d_Law_law_355 ?_
        refine lv_aload_n hx hb d_Law_law_356 rfl (lv_at hl 0 rfl) ?_
        refine lv_iload_n hx hb d_Law_law_357 rfl (lv_at hl 3 rfl) ?_
        refine lv_iconst (v := (2 : Int32)) hx hb d_Law_law_358 (by decide) ?_
        refine lv_iadd hx hb d_Law_law_359 ?_
        obtain ⟨t44, et44, hM⟩ := bS hM
        refine r_sld C hS hX hbl hbs et44 d_Law_law_360 ?_
        refine lv_aload_n hx hb d_Law_law_361 rfl (lv_at hl 0 rfl) ?_
        refine lv_iload_n hx hb d_Law_law_362 rfl (lv_at hl 3 rfl) ?_
        refine lv_iconst (v := (3 : Int32)) hx hb d_Law_law_363 (by decide) ?_
        refine lv_iadd hx hb d_Law_law_364 ?_
        obtain ⟨t45, et45, hM⟩ := bS hM
        refine r_sld C hS hX hbl hbs et45 d_Law_law_365 ?_
        refine lv_aload_n hx hb d_Law_law_366 rfl (lv_at hl 0 rfl) ?_
        refine lv_iload_n hx hb d_Law_law_367 rfl (lv_at hl 3 rfl) ?_
        refine lv_iconst (v := (4 : Int32)) hx hb d_Law_law_368 (by decide) ?_
        refine lv_iadd hx hb d_Law_law_369 ?_
        obtain ⟨t46, et46, hM⟩ := bS hM
        refine r_sld C hS hX hbl hbs et46 d_Law_law_370 ?_
        obtain ⟨t47, et47, hM⟩ := bS hM
        refine r_callVi (x := t47) C hS cv_Law_53 (c_Mo_alike l base D cI cZ h l2 t43 t44 t45 t46 et47) (o_Mo_alike et47) (rest := [.int t42]) rfl hl.1 rfl (Nat.le_of_ble_eq_true rfl) ⟨(Nat.le_of_ble_eq_true rfl), (Nat.le_of_ble_eq_true rfl)⟩ ⟨(Nat.le_of_ble_eq_true rfl), (Nat.le_of_ble_eq_true rfl)⟩ d_Law_law_371 (fun H locs hS => ?_)
        refine lv_icmp_eq (tgt := 735) hx hb d_Law_law_374 (by decide) (fun c374_19 => ?_) (fun c374_19 => ?_)
        · rw [if_pos c374_19] at hM
          refine lv_iinc (v := (l3 + (5 : Int32))) (lv' := [(3, .int (l3 + (5 : Int32))), (0, .ref b), (1, .ref (base + l1)), (2, .ref (base + l2))]) hx hb d_Law_law_735 hl (k := 3) rfl (by rw [oi_5]) (by decide) rfl (fun ls hl => ?_)
          refine lv_goto (tgt := 18) hx hb d_Law_law_738 (by decide) ?_
          exact ih (l3 + (5 : Int32)) h hM _ _ _ hS (lv_sub hl [1, 2, 3, 0] rfl)
        · rw [if_neg c374_19] at hM
          refine lv_iconst (v := (0 : Int32)) hx hb d_Law_law_377 (by decide) ?_
          exact r_lret1 C hS hbs hM d_Law_law_378
      rw [if_neg c32_18] at hM
      by_cases c32_20 : (t3 &&& (31 : Int32)) = (9 : Int32)
      · rw [if_pos c32_20] at hM
        refine lv_tableIn (off := 347) (tgt := 379) hx hb d_Law_law_32 (by rw [c32_20]; decide) (by rw [c32_20]; decide) (by rw [c32_20]; rfl) (by decide) ?_
        refine lv_aload_n hx hb d_Law_law_379 rfl (lv_at hl 1 rfl) ?_
        refine lv_aload_n hx hb d_Law_law_380 rfl (lv_at hl 0 rfl) ?_
        refine lv_iload_n hx hb d_Law_law_381 rfl (lv_at hl 3 rfl) ?_
        refine lv_iconst (v := (1 : Int32)) hx hb d_Law_law_382 (by decide) ?_
        refine lv_iadd hx hb d_Law_law_383 ?_
        obtain ⟨t48, et48, hM⟩ := bS hM
        refine r_sld C hS hX hbl hbs et48 d_Law_law_384 ?_
        refine lv_aload_n hx hb d_Law_law_385 rfl (lv_at hl 0 rfl) ?_
        refine lv_iload_n hx hb d_Law_law_386 rfl (lv_at hl 3 rfl) ?_
        refine lv_iconst (v := (2 : Int32)) hx hb d_Law_law_387 (by decide) ?_
        refine lv_iadd hx hb d_Law_law_388 ?_
        obtain ⟨t49, et49, hM⟩ := bS hM
        refine r_sld C hS hX hbl hbs et49 d_Law_law_389 ?_
        refine lv_aload_n hx hb d_Law_law_390 rfl (lv_at hl 0 rfl) ?_
        refine lv_iload_n hx hb d_Law_law_391 rfl (lv_at hl 3 rfl) ?_
        refine lv_iconst (v := (3 : Int32)) hx hb d_Law_law_392 (by decide) ?_
        refine lv_iadd hx hb d_Law_law_393 ?_
        obtain ⟨t50, et50, hM⟩ := bS hM
        refine r_sld C hS hX hbl hbs et50 d_Law_law_394 ?_
        obtain ⟨q51, eq51, hM⟩ := bS hM
        refine r_callVi (x := q51.1) C hS cv_Law_54 (c_MF_pair l base D cI cZ h l1 t48 t49 t50 eq51) (o_MF_pair eq51) (rest := []) rfl hl.1 rfl (Nat.le_of_ble_eq_true rfl) ⟨(Nat.le_of_ble_eq_true rfl), (Nat.le_of_ble_eq_true rfl)⟩ ⟨(Nat.le_of_ble_eq_true rfl), (Nat.le_of_ble_eq_true rfl)⟩ d_Law_law_395 (fun H locs hS => ?_)
        refine lv_aload_n hx hb d_Law_law_398 rfl (lv_at hl 2 rfl) ?_
        refine lv_aload_n hx hb d_Law_law_399 rfl (lv_at hl 0 rfl) ?_
        refine lv_iload_n hx hb d_Law_law_400 rfl (lv_at hl 3 rfl) ?_
        refine lv_iconst (v := (1 : Int32)) hx hb d_Law_law_401 (by decide) ?_
        refine lv_iadd hx hb d_Law_law_402 ?_
        obtain ⟨t52, et52, hM⟩ := bS hM
        refine r_sld C hS hX hbl hbs et52 d_Law_law_403 ?_
        refine lv_aload_n hx hb d_Law_law_404 rfl (lv_at hl 0 rfl) ?_
        refine lv_iload_n hx hb d_Law_law_405 rfl (lv_at hl 3 rfl) ?_
        refine lv_iconst (v := (2 : Int32)) hx hb d_Law_law_406 (by decide) ?_
        refine lv_iadd hx hb d_Law_law_407 ?_
        obtain ⟨t53, et53, hM⟩ := bS hM
        refine r_sld C hS hX hbl hbs et53 d_Law_law_408 ?_
        refine lv_aload_n hx hb d_Law_law_409 rfl (lv_at hl 0 rfl) ?_
        refine lv_iload_n hx hb d_Law_law_410 rfl (lv_at hl 3 rfl) ?_
        refine lv_iconst (v := (3 : Int32)) hx hb d_Law_law_411 (by decide) ?_
        refine lv_iadd hx hb d_Law_law_412 ?_
        obtain ⟨t54, et54, hM⟩ := bS hM
        refine r_sld C hS hX hbl hbs et54 d_Law_law_413 ?_
        obtain ⟨q55, eq55, hM⟩ := bS hM
        refine r_callVi (x := q55.1) C hS cv_Law_57 (c_Mo_pair l base D cI cZ q51.2 l2 t52 t53 t54 eq55) (o_Mo_pair eq55) (rest := [.int q51.1]) rfl hl.1 rfl (Nat.le_of_ble_eq_true rfl) ⟨(Nat.le_of_ble_eq_true rfl), (Nat.le_of_ble_eq_true rfl)⟩ ⟨(Nat.le_of_ble_eq_true rfl), (Nat.le_of_ble_eq_true rfl)⟩ d_Law_law_414 (fun H locs hS => ?_)
        refine lv_icmp_eq (tgt := 735) hx hb d_Law_law_417 (by decide) (fun c417_21 => ?_) (fun c417_21 => ?_)
        · rw [if_pos c417_21] at hM
          refine lv_iinc (v := (l3 + (5 : Int32))) (lv' := [(3, .int (l3 + (5 : Int32))), (0, .ref b), (1, .ref (base + l1)), (2, .ref (base + l2))]) hx hb d_Law_law_735 hl (k := 3) rfl (by rw [oi_5]) (by decide) rfl (fun ls hl => ?_)
          refine lv_goto (tgt := 18) hx hb d_Law_law_738 (by decide) ?_
          exact ih (l3 + (5 : Int32)) q55.2 hM _ _ _ hS (lv_sub hl [1, 2, 3, 0] rfl)
        · rw [if_neg c417_21] at hM
          refine lv_iconst (v := (0 : Int32)) hx hb d_Law_law_420 (by decide) ?_
          exact r_lret1 C hS hbs hM d_Law_law_421
      rw [if_neg c32_20] at hM
      by_cases c32_22 : (t3 &&& (31 : Int32)) = (10 : Int32)
      · rw [if_pos c32_22] at hM
        refine lv_tableIn (off := 390) (tgt := 422) hx hb d_Law_law_32 (by rw [c32_22]; decide) (by rw [c32_22]; decide) (by rw [c32_22]; rfl) (by decide) ?_
        refine lv_aload_n hx hb d_Law_law_422 rfl (lv_at hl 1 rfl) ?_
        refine lv_aload_n hx hb d_Law_law_423 rfl (lv_at hl 0 rfl) ?_
        refine lv_iload_n hx hb d_Law_law_424 rfl (lv_at hl 3 rfl) ?_
        refine lv_iconst (v := (1 : Int32)) hx hb d_Law_law_425 (by decide) ?_
        refine lv_iadd hx hb d_Law_law_426 ?_
        obtain ⟨t56, et56, hM⟩ := bS hM
        refine r_sld C hS hX hbl hbs et56 d_Law_law_427 ?_
        refine lv_aload_n hx hb d_Law_law_428 rfl (lv_at hl 0 rfl) ?_
        refine lv_iload_n hx hb d_Law_law_429 rfl (lv_at hl 3 rfl) ?_
        refine lv_iconst (v := (2 : Int32)) hx hb d_Law_law_430 (by decide) ?_
        refine lv_iadd hx hb d_Law_law_431 ?_
        obtain ⟨t57, et57, hM⟩ := bS hM
        refine r_sld C hS hX hbl hbs et57 d_Law_law_432 ?_
        obtain ⟨q58, eq58, hM⟩ := bS hM
        refine r_callVi (x := q58.1) C hS cv_Law_58 (c_MF_origin l base D cI cZ h l1 t56 t57 eq58) (o_MF_origin eq58) (rest := []) rfl hl.1 rfl (Nat.le_of_ble_eq_true rfl) ⟨(Nat.le_of_ble_eq_true rfl), (Nat.le_of_ble_eq_true rfl)⟩ ⟨(Nat.le_of_ble_eq_true rfl), (Nat.le_of_ble_eq_true rfl)⟩ d_Law_law_433 (fun H locs hS => ?_)
        refine lv_aload_n hx hb d_Law_law_436 rfl (lv_at hl 2 rfl) ?_
        refine lv_aload_n hx hb d_Law_law_437 rfl (lv_at hl 0 rfl) ?_
        refine lv_iload_n hx hb d_Law_law_438 rfl (lv_at hl 3 rfl) ?_
        refine lv_iconst (v := (1 : Int32)) hx hb d_Law_law_439 (by decide) ?_
        refine lv_iadd hx hb d_Law_law_440 ?_
        obtain ⟨t59, et59, hM⟩ := bS hM
        refine r_sld C hS hX hbl hbs et59 d_Law_law_441 ?_
        refine lv_aload_n hx hb d_Law_law_442 rfl (lv_at hl 0 rfl) ?_
        refine lv_iload_n hx hb d_Law_law_443 rfl (lv_at hl 3 rfl) ?_
        refine lv_iconst (v := (2 : Int32)) hx hb d_Law_law_444 (by decide) ?_
        refine lv_iadd hx hb d_Law_law_445 ?_
        obtain ⟨t60, et60, hM⟩ := bS hM
        refine r_sld C hS hX hbl hbs et60 d_Law_law_446 ?_
        obtain ⟨q61, eq61, hM⟩ := bS hM
        refine r_callVi (x := q61.1) C hS cv_Law_61 (c_Mo_origin l base D cI cZ q58.2 l2 t59 t60 eq61) (o_Mo_origin eq61) (rest := [.int q58.1]) rfl hl.1 rfl (Nat.le_of_ble_eq_true rfl) ⟨(Nat.le_of_ble_eq_true rfl), (Nat.le_of_ble_eq_true rfl)⟩ ⟨(Nat.le_of_ble_eq_true rfl), (Nat.le_of_ble_eq_true rfl)⟩ d_Law_law_447 (fun H locs hS => ?_)
        refine lv_icmp_eq (tgt := 735) hx hb d_Law_law_450 (by decide) (fun c450_23 => ?_) (fun c450_23 => ?_)
        · rw [if_pos c450_23] at hM
          refine lv_iinc (v := (l3 + (5 : Int32))) (lv' := [(3, .int (l3 + (5 : Int32))), (0, .ref b), (1, .ref (base + l1)), (2, .ref (base + l2))]) hx hb d_Law_law_735 hl (k := 3) rfl (by rw [oi_5]) (by decide) rfl (fun ls hl => ?_)
          refine lv_goto (tgt := 18) hx hb d_Law_law_738 (by decide) ?_
          exact ih (l3 + (5 : Int32)) q61.2 hM _ _ _ hS (lv_sub hl [1, 2, 3, 0] rfl)
        · rw [if_neg c450_23] at hM
          refine lv_iconst (v := (0 : Int32)) hx hb d_Law_law_453 (by decide) ?_
          exact r_lret1 C hS hbs hM d_Law_law_454
      rw [if_neg c32_22] at hM
      by_cases c32_24 : (t3 &&& (31 : Int32)) = (11 : Int32)
      · rw [if_pos c32_24] at hM
        refine lv_tableIn (off := 423) (tgt := 455) hx hb d_Law_law_32 (by rw [c32_24]; decide) (by rw [c32_24]; decide) (by rw [c32_24]; rfl) (by decide) ?_
        refine lv_aload_n hx hb d_Law_law_455 rfl (lv_at hl 1 rfl) ?_
        refine lv_aload_n hx hb d_Law_law_456 rfl (lv_at hl 0 rfl) ?_
        refine lv_iload_n hx hb d_Law_law_457 rfl (lv_at hl 3 rfl) ?_
        refine lv_iconst (v := (1 : Int32)) hx hb d_Law_law_458 (by decide) ?_
        refine lv_iadd hx hb d_Law_law_459 ?_
        obtain ⟨t62, et62, hM⟩ := bS hM
        refine r_sld C hS hX hbl hbs et62 d_Law_law_460 ?_
        refine lv_aload_n hx hb d_Law_law_461 rfl (lv_at hl 0 rfl) ?_
        refine lv_iload_n hx hb d_Law_law_462 rfl (lv_at hl 3 rfl) ?_
        refine lv_iconst (v := (2 : Int32)) hx hb d_Law_law_463 (by decide) ?_
        refine lv_iadd hx hb d_Law_law_464 ?_
        obtain ⟨t63, et63, hM⟩ := bS hM
        refine r_sld C hS hX hbl hbs et63 d_Law_law_465 ?_
        refine lv_aload_n hx hb d_Law_law_466 rfl (lv_at hl 0 rfl) ?_
        refine lv_iload_n hx hb d_Law_law_467 rfl (lv_at hl 3 rfl) ?_
        refine lv_iconst (v := (3 : Int32)) hx hb d_Law_law_468 (by decide) ?_
        refine lv_iadd hx hb d_Law_law_469 ?_
        obtain ⟨t64, et64, hM⟩ := bS hM
        refine r_sld C hS hX hbl hbs et64 d_Law_law_470 ?_
        obtain ⟨q65, eq65, hM⟩ := bS hM
        refine r_callVi (x := q65.1) C hS cv_Law_62 (c_MF_votes l base D cI cZ h l1 t62 t63 t64 eq65) (o_MF_votes eq65) (rest := []) rfl hl.1 rfl (Nat.le_of_ble_eq_true rfl) ⟨(Nat.le_of_ble_eq_true rfl), (Nat.le_of_ble_eq_true rfl)⟩ ⟨(Nat.le_of_ble_eq_true rfl), (Nat.le_of_ble_eq_true rfl)⟩ d_Law_law_471 (fun H locs hS => ?_)
        refine lv_aload_n hx hb d_Law_law_474 rfl (lv_at hl 2 rfl) ?_
        refine lv_aload_n hx hb d_Law_law_475 rfl (lv_at hl 0 rfl) ?_
        refine lv_iload_n hx hb d_Law_law_476 rfl (lv_at hl 3 rfl) ?_
        refine lv_iconst (v := (1 : Int32)) hx hb d_Law_law_477 (by decide) ?_
        refine lv_iadd hx hb d_Law_law_478 ?_
        obtain ⟨t66, et66, hM⟩ := bS hM
        refine r_sld C hS hX hbl hbs et66 d_Law_law_479 ?_
        refine lv_aload_n hx hb d_Law_law_480 rfl (lv_at hl 0 rfl) ?_
        refine lv_iload_n hx hb d_Law_law_481 rfl (lv_at hl 3 rfl) ?_
        refine lv_iconst (v := (2 : Int32)) hx hb d_Law_law_482 (by decide) ?_
        refine lv_iadd hx hb d_Law_law_483 ?_
        obtain ⟨t67, et67, hM⟩ := bS hM
        refine r_sld C hS hX hbl hbs et67 d_Law_law_484 ?_
        refine lv_aload_n hx hb d_Law_law_485 rfl (lv_at hl 0 rfl) ?_
        refine lv_iload_n hx hb d_Law_law_486 rfl (lv_at hl 3 rfl) ?_
        refine lv_iconst (v := (3 : Int32)) hx hb d_Law_law_487 (by decide) ?_
        refine lv_iadd hx hb d_Law_law_488 ?_
        obtain ⟨t68, et68, hM⟩ := bS hM
        refine r_sld C hS hX hbl hbs et68 d_Law_law_489 ?_
        obtain ⟨q69, eq69, hM⟩ := bS hM
        refine r_callVi (x := q69.1) C hS cv_Law_65 (c_Mo_votes l base D cI cZ q65.2 l2 t66 t67 t68 eq69) (o_Mo_votes eq69) (rest := [.int q65.1]) rfl hl.1 rfl (Nat.le_of_ble_eq_true rfl) ⟨(Nat.le_of_ble_eq_true rfl), (Nat.le_of_ble_eq_true rfl)⟩ ⟨(Nat.le_of_ble_eq_true rfl), (Nat.le_of_ble_eq_true rfl)⟩ d_Law_law_490 (fun H locs hS => ?_)
        refine lv_icmp_eq (tgt := 735) hx hb d_Law_law_493 (by decide) (fun c493_25 => ?_) (fun c493_25 => ?_)
        · rw [if_pos c493_25] at hM
          refine lv_iinc (v := (l3 + (5 : Int32))) (lv' := [(3, .int (l3 + (5 : Int32))), (0, .ref b), (1, .ref (base + l1)), (2, .ref (base + l2))]) hx hb d_Law_law_735 hl (k := 3) rfl (by rw [oi_5]) (by decide) rfl (fun ls hl => ?_)
          refine lv_goto (tgt := 18) hx hb d_Law_law_738 (by decide) ?_
          exact ih (l3 + (5 : Int32)) q69.2 hM _ _ _ hS (lv_sub hl [1, 2, 3, 0] rfl)
        · rw [if_neg c493_25] at hM
          refine lv_iconst (v := (0 : Int32)) hx hb d_Law_law_496 (by decide) ?_
          exact r_lret1 C hS hbs hM d_Law_law_497
      rw [if_neg c32_24] at hM
      by_cases c32_26 : (t3 &&& (31 : Int32)) = (12 : Int32)
      · rw [if_pos c32_26] at hM
        refine lv_tableIn (off := 466) (tgt := 498) hx hb d_Law_law_32 (by rw [c32_26]; decide) (by rw [c32_26]; decide) (by rw [c32_26]; rfl) (by decide) ?_
        refine lv_aload_n hx hb d_Law_law_498 rfl (lv_at hl 1 rfl) ?_
        refine lv_aload_n hx hb d_Law_law_499 rfl (lv_at hl 0 rfl) ?_
        refine lv_iload_n hx hb d_Law_law_500 rfl (lv_at hl 3 rfl) ?_
        refine lv_iconst (v := (1 : Int32)) hx hb d_Law_law_501 (by decide) ?_
        refine lv_iadd hx hb d_Law_law_502 ?_
        obtain ⟨t70, et70, hM⟩ := bS hM
        refine r_sld C hS hX hbl hbs et70 d_Law_law_503 ?_
        refine lv_aload_n hx hb d_Law_law_504 rfl (lv_at hl 0 rfl) ?_
        refine lv_iload_n hx hb d_Law_law_505 rfl (lv_at hl 3 rfl) ?_
        refine lv_iconst (v := (2 : Int32)) hx hb d_Law_law_506 (by decide) ?_
        refine lv_iadd hx hb d_Law_law_507 ?_
        obtain ⟨t71, et71, hM⟩ := bS hM
        refine r_sld C hS hX hbl hbs et71 d_Law_law_508 ?_
        refine lv_aload_n hx hb d_Law_law_509 rfl (lv_at hl 0 rfl) ?_
        refine lv_iload_n hx hb d_Law_law_510 rfl (lv_at hl 3 rfl) ?_
        refine lv_iconst (v := (3 : Int32)) hx hb d_Law_law_511 (by decide) ?_
        refine lv_iadd hx hb d_Law_law_512 ?_
        obtain ⟨t72, et72, hM⟩ := bS hM
        refine r_sld C hS hX hbl hbs et72 d_Law_law_513 ?_
        obtain ⟨q73, eq73, hM⟩ := bS hM
        refine r_callVi (x := q73.1) C hS cv_Law_66 (c_MF_moved l base D cI cZ h l1 t70 t71 t72 eq73) (o_MF_moved eq73) (rest := []) rfl hl.1 rfl (Nat.le_of_ble_eq_true rfl) ⟨(Nat.le_of_ble_eq_true rfl), (Nat.le_of_ble_eq_true rfl)⟩ ⟨(Nat.le_of_ble_eq_true rfl), (Nat.le_of_ble_eq_true rfl)⟩ d_Law_law_514 (fun H locs hS => ?_)
        refine lv_aload_n hx hb d_Law_law_517 rfl (lv_at hl 2 rfl) ?_
        refine lv_aload_n hx hb d_Law_law_518 rfl (lv_at hl 0 rfl) ?_
        refine lv_iload_n hx hb d_Law_law_519 rfl (lv_at hl 3 rfl) ?_
        refine lv_iconst (v := (1 : Int32)) hx hb d_Law_law_520 (by decide) ?_
        refine lv_iadd hx hb d_Law_law_521 ?_
        obtain ⟨t74, et74, hM⟩ := bS hM
        refine r_sld C hS hX hbl hbs et74 d_Law_law_522 ?_
        refine lv_aload_n hx hb d_Law_law_523 rfl (lv_at hl 0 rfl) ?_
        refine lv_iload_n hx hb d_Law_law_524 rfl (lv_at hl 3 rfl) ?_
        refine lv_iconst (v := (2 : Int32)) hx hb d_Law_law_525 (by decide) ?_
        refine lv_iadd hx hb d_Law_law_526 ?_
        obtain ⟨t75, et75, hM⟩ := bS hM
        refine r_sld C hS hX hbl hbs et75 d_Law_law_527 ?_
        refine lv_aload_n hx hb d_Law_law_528 rfl (lv_at hl 0 rfl) ?_
        refine lv_iload_n hx hb d_Law_law_529 rfl (lv_at hl 3 rfl) ?_
        refine lv_iconst (v := (3 : Int32)) hx hb d_Law_law_530 (by decide) ?_
        refine lv_iadd hx hb d_Law_law_531 ?_
        obtain ⟨t76, et76, hM⟩ := bS hM
        refine r_sld C hS hX hbl hbs et76 d_Law_law_532 ?_
        obtain ⟨q77, eq77, hM⟩ := bS hM
        refine r_callVi (x := q77.1) C hS cv_Law_69 (c_Mo_moved l base D cI cZ q73.2 l2 t74 t75 t76 eq77) (o_Mo_moved eq77) (rest := [.int q73.1]) rfl hl.1 rfl (Nat.le_of_ble_eq_true rfl) ⟨(Nat.le_of_ble_eq_true rfl), (Nat.le_of_ble_eq_true rfl)⟩ ⟨(Nat.le_of_ble_eq_true rfl), (Nat.le_of_ble_eq_true rfl)⟩ d_Law_law_533 (fun H locs hS => ?_)
        refine lv_icmp_eq (tgt := 735) hx hb d_Law_law_536 (by decide) (fun c536_27 => ?_) (fun c536_27 => ?_)
        · rw [if_pos c536_27] at hM
          refine lv_iinc (v := (l3 + (5 : Int32))) (lv' := [(3, .int (l3 + (5 : Int32))), (0, .ref b), (1, .ref (base + l1)), (2, .ref (base + l2))]) hx hb d_Law_law_735 hl (k := 3) rfl (by rw [oi_5]) (by decide) rfl (fun ls hl => ?_)
          refine lv_goto (tgt := 18) hx hb d_Law_law_738 (by decide) ?_
          exact ih (l3 + (5 : Int32)) q77.2 hM _ _ _ hS (lv_sub hl [1, 2, 3, 0] rfl)
        · rw [if_neg c536_27] at hM
          refine lv_iconst (v := (0 : Int32)) hx hb d_Law_law_539 (by decide) ?_
          exact r_lret1 C hS hbs hM d_Law_law_540
      rw [if_neg c32_26] at hM
      by_cases c32_28 : (t3 &&& (31 : Int32)) = (13 : Int32)
      · rw [if_pos c32_28] at hM
        refine lv_tableIn (off := 509) (tgt := 541) hx hb d_Law_law_32 (by rw [c32_28]; decide) (by rw [c32_28]; decide) (by rw [c32_28]; rfl) (by decide) ?_
        refine lv_aload_n hx hb d_Law_law_541 rfl (lv_at hl 1 rfl) ?_
        refine lv_aload_n hx hb d_Law_law_542 rfl (lv_at hl 0 rfl) ?_
        refine lv_iload_n hx hb d_Law_law_543 rfl (lv_at hl 3 rfl) ?_
        refine lv_iconst (v := (1 : Int32)) hx hb d_Law_law_544 (by decide) ?_
        refine lv_iadd hx hb d_Law_law_545 ?_
        obtain ⟨t78, et78, hM⟩ := bS hM
        refine r_sld C hS hX hbl hbs et78 d_Law_law_546 ?_
        refine lv_aload_n hx hb d_Law_law_547 rfl (lv_at hl 0 rfl) ?_
        refine lv_iload_n hx hb d_Law_law_548 rfl (lv_at hl 3 rfl) ?_
        refine lv_iconst (v := (2 : Int32)) hx hb d_Law_law_549 (by decide) ?_
        refine lv_iadd hx hb d_Law_law_550 ?_
        obtain ⟨t79, et79, hM⟩ := bS hM
        refine r_sld C hS hX hbl hbs et79 d_Law_law_551 ?_
        obtain ⟨q80, eq80, hM⟩ := bS hM
        refine r_callVi (x := q80.1) C hS cv_Law_70 (c_MF_dest l base D cI cZ h l1 t78 t79 eq80) (o_MF_dest eq80) (rest := []) rfl hl.1 rfl (Nat.le_of_ble_eq_true rfl) ⟨(Nat.le_of_ble_eq_true rfl), (Nat.le_of_ble_eq_true rfl)⟩ ⟨(Nat.le_of_ble_eq_true rfl), (Nat.le_of_ble_eq_true rfl)⟩ d_Law_law_552 (fun H locs hS => ?_)
        refine lv_aload_n hx hb d_Law_law_555 rfl (lv_at hl 2 rfl) ?_
        refine lv_aload_n hx hb d_Law_law_556 rfl (lv_at hl 0 rfl) ?_
        refine lv_iload_n hx hb d_Law_law_557 rfl (lv_at hl 3 rfl) ?_
        refine lv_iconst (v := (1 : Int32)) hx hb d_Law_law_558 (by decide) ?_
        refine lv_iadd hx hb d_Law_law_559 ?_
        obtain ⟨t81, et81, hM⟩ := bS hM
        refine r_sld C hS hX hbl hbs et81 d_Law_law_560 ?_
        refine lv_aload_n hx hb d_Law_law_561 rfl (lv_at hl 0 rfl) ?_
        refine lv_iload_n hx hb d_Law_law_562 rfl (lv_at hl 3 rfl) ?_
        refine lv_iconst (v := (2 : Int32)) hx hb d_Law_law_563 (by decide) ?_
        refine lv_iadd hx hb d_Law_law_564 ?_
        obtain ⟨t82, et82, hM⟩ := bS hM
        refine r_sld C hS hX hbl hbs et82 d_Law_law_565 ?_
        obtain ⟨q83, eq83, hM⟩ := bS hM
        refine r_callVi (x := q83.1) C hS cv_Law_73 (c_Mo_dest l base D cI cZ q80.2 l2 t81 t82 eq83) (o_Mo_dest eq83) (rest := [.int q80.1]) rfl hl.1 rfl (Nat.le_of_ble_eq_true rfl) ⟨(Nat.le_of_ble_eq_true rfl), (Nat.le_of_ble_eq_true rfl)⟩ ⟨(Nat.le_of_ble_eq_true rfl), (Nat.le_of_ble_eq_true rfl)⟩ d_Law_law_566 (fun H locs hS => ?_)
        refine lv_icmp_eq (tgt := 735) hx hb d_Law_law_569 (by decide) (fun c569_29 => ?_) (fun c569_29 => ?_)
        · rw [if_pos c569_29] at hM
          refine lv_iinc (v := (l3 + (5 : Int32))) (lv' := [(3, .int (l3 + (5 : Int32))), (0, .ref b), (1, .ref (base + l1)), (2, .ref (base + l2))]) hx hb d_Law_law_735 hl (k := 3) rfl (by rw [oi_5]) (by decide) rfl (fun ls hl => ?_)
          refine lv_goto (tgt := 18) hx hb d_Law_law_738 (by decide) ?_
          exact ih (l3 + (5 : Int32)) q83.2 hM _ _ _ hS (lv_sub hl [1, 2, 3, 0] rfl)
        · rw [if_neg c569_29] at hM
          refine lv_iconst (v := (0 : Int32)) hx hb d_Law_law_572 (by decide) ?_
          exact r_lret1 C hS hbs hM d_Law_law_573
      rw [if_neg c32_28] at hM
      by_cases c32_30 : (t3 &&& (31 : Int32)) = (14 : Int32)
      · rw [if_pos c32_30] at hM
        refine lv_tableIn (off := 542) (tgt := 574) hx hb d_Law_law_32 (by rw [c32_30]; decide) (by rw [c32_30]; decide) (by rw [c32_30]; rfl) (by decide) ?_
        refine lv_aload_n hx hb d_Law_law_574 rfl (lv_at hl 1 rfl) ?_
        refine lv_aload_n hx hb d_Law_law_575 rfl (lv_at hl 0 rfl) ?_
        refine lv_iload_n hx hb d_Law_law_576 rfl (lv_at hl 3 rfl) ?_
        refine lv_iconst (v := (1 : Int32)) hx hb d_Law_law_577 (by decide) ?_
        refine lv_iadd hx hb d_Law_law_578 ?_
        obtain ⟨t84, et84, hM⟩ := bS hM
        refine r_sld C hS hX hbl hbs et84 d_Law_law_579 ?_
        refine lv_aload_n hx hb d_Law_law_580 rfl (lv_at hl 0 rfl) ?_
        refine lv_iload_n hx hb d_Law_law_581 rfl (lv_at hl 3 rfl) ?_
        refine lv_iconst (v := (2 : Int32)) hx hb d_Law_law_582 (by decide) ?_
        refine lv_iadd hx hb d_Law_law_583 ?_
        obtain ⟨t85, et85, hM⟩ := bS hM
        refine r_sld C hS hX hbl hbs et85 d_Law_law_584 ?_
        obtain ⟨q86, eq86, hM⟩ := bS hM
        refine r_callVi (x := q86.1) C hS cv_Law_74 (c_MF_entry l base D cI cZ h l1 t84 t85 eq86) (o_MF_entry eq86) (rest := []) rfl hl.1 rfl (Nat.le_of_ble_eq_true rfl) ⟨(Nat.le_of_ble_eq_true rfl), (Nat.le_of_ble_eq_true rfl)⟩ ⟨(Nat.le_of_ble_eq_true rfl), (Nat.le_of_ble_eq_true rfl)⟩ d_Law_law_585 (fun H locs hS => ?_)
        refine lv_aload_n hx hb d_Law_law_588 rfl (lv_at hl 2 rfl) ?_
        refine lv_aload_n hx hb d_Law_law_589 rfl (lv_at hl 0 rfl) ?_
        refine lv_iload_n hx hb d_Law_law_590 rfl (lv_at hl 3 rfl) ?_
        refine lv_iconst (v := (1 : Int32)) hx hb d_Law_law_591 (by decide) ?_
        refine lv_iadd hx hb d_Law_law_592 ?_
        obtain ⟨t87, et87, hM⟩ := bS hM
        refine r_sld C hS hX hbl hbs et87 d_Law_law_593 ?_
        refine lv_aload_n hx hb d_Law_law_594 rfl (lv_at hl 0 rfl) ?_
        refine lv_iload_n hx hb d_Law_law_595 rfl (lv_at hl 3 rfl) ?_
        refine lv_iconst (v := (2 : Int32)) hx hb d_Law_law_596 (by decide) ?_
        refine lv_iadd hx hb d_Law_law_597 ?_
        obtain ⟨t88, et88, hM⟩ := bS hM
        refine r_sld C hS hX hbl hbs et88 d_Law_law_598 ?_
        obtain ⟨q89, eq89, hM⟩ := bS hM
        refine r_callVi (x := q89.1) C hS cv_Law_77 (c_Mo_entry l base D cI cZ q86.2 l2 t87 t88 eq89) (o_Mo_entry eq89) (rest := [.int q86.1]) rfl hl.1 rfl (Nat.le_of_ble_eq_true rfl) ⟨(Nat.le_of_ble_eq_true rfl), (Nat.le_of_ble_eq_true rfl)⟩ ⟨(Nat.le_of_ble_eq_true rfl), (Nat.le_of_ble_eq_true rfl)⟩ d_Law_law_599 (fun H locs hS => ?_)
        refine lv_icmp_eq (tgt := 735) hx hb d_Law_law_602 (by decide) (fun c602_31 => ?_) (fun c602_31 => ?_)
        · rw [if_pos c602_31] at hM
          refine lv_iinc (v := (l3 + (5 : Int32))) (lv' := [(3, .int (l3 + (5 : Int32))), (0, .ref b), (1, .ref (base + l1)), (2, .ref (base + l2))]) hx hb d_Law_law_735 hl (k := 3) rfl (by rw [oi_5]) (by decide) rfl (fun ls hl => ?_)
          refine lv_goto (tgt := 18) hx hb d_Law_law_738 (by decide) ?_
          exact ih (l3 + (5 : Int32)) q89.2 hM _ _ _ hS (lv_sub hl [1, 2, 3, 0] rfl)
        · rw [if_neg c602_31] at hM
          refine lv_iconst (v := (0 : Int32)) hx hb d_Law_law_605 (by decide) ?_
          exact r_lret1 C hS hbs hM d_Law_law_606
      rw [if_neg c32_30] at hM
      by_cases c32_32 : (t3 &&& (31 : Int32)) = (15 : Int32)
      · rw [if_pos c32_32] at hM
        refine lv_tableIn (off := 575) (tgt := 607) hx hb d_Law_law_32 (by rw [c32_32]; decide) (by rw [c32_32]; decide) (by rw [c32_32]; rfl) (by decide) ?_
        refine lv_aload_n hx hb d_Law_law_607 rfl (lv_at hl 1 rfl) ?_
        refine lv_aload_n hx hb d_Law_law_608 rfl (lv_at hl 0 rfl) ?_
        refine lv_iload_n hx hb d_Law_law_609 rfl (lv_at hl 3 rfl) ?_
        refine lv_iconst (v := (1 : Int32)) hx hb d_Law_law_610 (by decide) ?_
        refine lv_iadd hx hb d_Law_law_611 ?_
        obtain ⟨t90, et90, hM⟩ := bS hM
        refine r_sld C hS hX hbl hbs et90 d_Law_law_612 ?_
        refine lv_aload_n hx hb d_Law_law_613 rfl (lv_at hl 0 rfl) ?_
        refine lv_iload_n hx hb d_Law_law_614 rfl (lv_at hl 3 rfl) ?_
        refine lv_iconst (v := (2 : Int32)) hx hb d_Law_law_615 (by decide) ?_
        refine lv_iadd hx hb d_Law_law_616 ?_
        obtain ⟨t91, et91, hM⟩ := bS hM
        refine r_sld C hS hX hbl hbs et91 d_Law_law_617 ?_
        obtain ⟨q92, eq92, hM⟩ := bS hM
        refine r_callVi (x := q92.1) C hS cv_Law_78 (c_MF_clash l base D cI cZ h l1 t90 t91 eq92) (o_MF_clash eq92) (rest := []) rfl hl.1 rfl (Nat.le_of_ble_eq_true rfl) ⟨(Nat.le_of_ble_eq_true rfl), (Nat.le_of_ble_eq_true rfl)⟩ ⟨(Nat.le_of_ble_eq_true rfl), (Nat.le_of_ble_eq_true rfl)⟩ d_Law_law_618 (fun H locs hS => ?_)
        refine lv_aload_n hx hb d_Law_law_621 rfl (lv_at hl 2 rfl) ?_
        refine lv_aload_n hx hb d_Law_law_622 rfl (lv_at hl 0 rfl) ?_
        refine lv_iload_n hx hb d_Law_law_623 rfl (lv_at hl 3 rfl) ?_
        refine lv_iconst (v := (1 : Int32)) hx hb d_Law_law_624 (by decide) ?_
        refine lv_iadd hx hb d_Law_law_625 ?_
        obtain ⟨t93, et93, hM⟩ := bS hM
        refine r_sld C hS hX hbl hbs et93 d_Law_law_626 ?_
        refine lv_aload_n hx hb d_Law_law_627 rfl (lv_at hl 0 rfl) ?_
        refine lv_iload_n hx hb d_Law_law_628 rfl (lv_at hl 3 rfl) ?_
        refine lv_iconst (v := (2 : Int32)) hx hb d_Law_law_629 (by decide) ?_
        refine lv_iadd hx hb d_Law_law_630 ?_
        obtain ⟨t94, et94, hM⟩ := bS hM
        refine r_sld C hS hX hbl hbs et94 d_Law_law_631 ?_
        obtain ⟨q95, eq95, hM⟩ := bS hM
        refine r_callVi (x := q95.1) C hS cv_Law_81 (c_Mo_clash l base D cI cZ q92.2 l2 t93 t94 eq95) (o_Mo_clash eq95) (rest := [.int q92.1]) rfl hl.1 rfl (Nat.le_of_ble_eq_true rfl) ⟨(Nat.le_of_ble_eq_true rfl), (Nat.le_of_ble_eq_true rfl)⟩ ⟨(Nat.le_of_ble_eq_true rfl), (Nat.le_of_ble_eq_true rfl)⟩ d_Law_law_632 (fun H locs hS => ?_)
        refine lv_icmp_eq (tgt := 735) hx hb d_Law_law_635 (by decide) (fun c635_33 => ?_) (fun c635_33 => ?_)
        · rw [if_pos c635_33] at hM
          refine lv_iinc (v := (l3 + (5 : Int32))) (lv' := [(3, .int (l3 + (5 : Int32))), (0, .ref b), (1, .ref (base + l1)), (2, .ref (base + l2))]) hx hb d_Law_law_735 hl (k := 3) rfl (by rw [oi_5]) (by decide) rfl (fun ls hl => ?_)
          refine lv_goto (tgt := 18) hx hb d_Law_law_738 (by decide) ?_
          exact ih (l3 + (5 : Int32)) q95.2 hM _ _ _ hS (lv_sub hl [1, 2, 3, 0] rfl)
        · rw [if_neg c635_33] at hM
          refine lv_iconst (v := (0 : Int32)) hx hb d_Law_law_638 (by decide) ?_
          exact r_lret1 C hS hbs hM d_Law_law_639
      rw [if_neg c32_32] at hM
      by_cases c32_34 : (t3 &&& (31 : Int32)) = (16 : Int32)
      · rw [if_pos c32_34] at hM
        refine lv_tableIn (off := 608) (tgt := 640) hx hb d_Law_law_32 (by rw [c32_34]; decide) (by rw [c32_34]; decide) (by rw [c32_34]; rfl) (by decide) ?_
        refine lv_aload_n hx hb d_Law_law_640 rfl (lv_at hl 1 rfl) ?_
        obtain ⟨q96, eq96, hM⟩ := bS hM
        refine r_callVi (x := q96.1) C hS cv_Law_82 (c_MF_settle l base D cI cZ h l1 eq96) (o_MF_settle eq96) (rest := []) rfl hl.1 rfl (Nat.le_of_ble_eq_true rfl) ⟨(Nat.le_of_ble_eq_true rfl), (Nat.le_of_ble_eq_true rfl)⟩ ⟨(Nat.le_of_ble_eq_true rfl), (Nat.le_of_ble_eq_true rfl)⟩ d_Law_law_641 (fun H locs hS => ?_)
        refine lv_aload_n hx hb d_Law_law_644 rfl (lv_at hl 2 rfl) ?_
        obtain ⟨q97, eq97, hM⟩ := bS hM
        refine r_callVi (x := q97.1) C hS cv_Law_85 (c_Mo_settle l base D cI cZ q96.2 l2 eq97) (o_Mo_settle eq97) (rest := [.int q96.1]) rfl hl.1 rfl (Nat.le_of_ble_eq_true rfl) ⟨(Nat.le_of_ble_eq_true rfl), (Nat.le_of_ble_eq_true rfl)⟩ ⟨(Nat.le_of_ble_eq_true rfl), (Nat.le_of_ble_eq_true rfl)⟩ d_Law_law_645 (fun H locs hS => ?_)
        refine lv_icmp_eq (tgt := 735) hx hb d_Law_law_648 (by decide) (fun c648_35 => ?_) (fun c648_35 => ?_)
        · rw [if_pos c648_35] at hM
          refine lv_iinc (v := (l3 + (5 : Int32))) (lv' := [(3, .int (l3 + (5 : Int32))), (0, .ref b), (1, .ref (base + l1)), (2, .ref (base + l2))]) hx hb d_Law_law_735 hl (k := 3) rfl (by rw [oi_5]) (by decide) rfl (fun ls hl => ?_)
          refine lv_goto (tgt := 18) hx hb d_Law_law_738 (by decide) ?_
          exact ih (l3 + (5 : Int32)) q97.2 hM _ _ _ hS (lv_sub hl [1, 2, 3, 0] rfl)
        · rw [if_neg c648_35] at hM
          refine lv_iconst (v := (0 : Int32)) hx hb d_Law_law_651 (by decide) ?_
          exact r_lret1 C hS hbs hM d_Law_law_652
      rw [if_neg c32_34] at hM
      by_cases c32_36 : (t3 &&& (31 : Int32)) = (17 : Int32)
      · rw [if_pos c32_36] at hM
        refine lv_tableIn (off := 621) (tgt := 653) hx hb d_Law_law_32 (by rw [c32_36]; decide) (by rw [c32_36]; decide) (by rw [c32_36]; rfl) (by decide) ?_
        refine lv_aload_n hx hb d_Law_law_653 rfl (lv_at hl 1 rfl) ?_
        obtain ⟨q98, eq98, hM⟩ := bS hM
        refine r_callVi (x := q98.1) C hS cv_Law_86 (c_MF_exchange l base D cI cZ h l1 eq98) (o_MF_exchange eq98) (rest := []) rfl hl.1 rfl (Nat.le_of_ble_eq_true rfl) ⟨(Nat.le_of_ble_eq_true rfl), (Nat.le_of_ble_eq_true rfl)⟩ ⟨(Nat.le_of_ble_eq_true rfl), (Nat.le_of_ble_eq_true rfl)⟩ d_Law_law_654 (fun H locs hS => ?_)
        refine lv_aload_n hx hb d_Law_law_657 rfl (lv_at hl 2 rfl) ?_
        obtain ⟨q99, eq99, hM⟩ := bS hM
        refine r_callVi (x := q99.1) C hS cv_Law_89 (c_Mo_exchange l base D cI cZ q98.2 l2 eq99) (o_Mo_exchange eq99) (rest := [.int q98.1]) rfl hl.1 rfl (Nat.le_of_ble_eq_true rfl) ⟨(Nat.le_of_ble_eq_true rfl), (Nat.le_of_ble_eq_true rfl)⟩ ⟨(Nat.le_of_ble_eq_true rfl), (Nat.le_of_ble_eq_true rfl)⟩ d_Law_law_658 (fun H locs hS => ?_)
        refine lv_icmp_eq (tgt := 735) hx hb d_Law_law_661 (by decide) (fun c661_37 => ?_) (fun c661_37 => ?_)
        · rw [if_pos c661_37] at hM
          refine lv_iinc (v := (l3 + (5 : Int32))) (lv' := [(3, .int (l3 + (5 : Int32))), (0, .ref b), (1, .ref (base + l1)), (2, .ref (base + l2))]) hx hb d_Law_law_735 hl (k := 3) rfl (by rw [oi_5]) (by decide) rfl (fun ls hl => ?_)
          refine lv_goto (tgt := 18) hx hb d_Law_law_738 (by decide) ?_
          exact ih (l3 + (5 : Int32)) q99.2 hM _ _ _ hS (lv_sub hl [1, 2, 3, 0] rfl)
        · rw [if_neg c661_37] at hM
          refine lv_iconst (v := (0 : Int32)) hx hb d_Law_law_664 (by decide) ?_
          exact r_lret1 C hS hbs hM d_Law_law_665
      rw [if_neg c32_36] at hM
      by_cases c32_38 : (t3 &&& (31 : Int32)) = (18 : Int32)
      · rw [if_pos c32_38] at hM
        refine lv_tableIn (off := 634) (tgt := 666) hx hb d_Law_law_32 (by rw [c32_38]; decide) (by rw [c32_38]; decide) (by rw [c32_38]; rfl) (by decide) ?_
        refine lv_aload_n hx hb d_Law_law_666 rfl (lv_at hl 1 rfl) ?_
        refine lv_aload_n hx hb d_Law_law_667 rfl (lv_at hl 0 rfl) ?_
        refine lv_iload_n hx hb d_Law_law_668 rfl (lv_at hl 3 rfl) ?_
        refine lv_iconst (v := (1 : Int32)) hx hb d_Law_law_669 (by decide) ?_
        refine lv_iadd hx hb d_Law_law_670 ?_
        obtain ⟨t100, et100, hM⟩ := bS hM
        refine r_sld C hS hX hbl hbs et100 d_Law_law_671 ?_
        obtain ⟨q101, eq101, hM⟩ := bS hM
        refine r_callVi (x := q101.1) C hS cv_Law_90 (c_MF_image l base D cI cZ h l1 t100 eq101) (o_MF_image eq101) (rest := []) rfl hl.1 rfl (Nat.le_of_ble_eq_true rfl) ⟨(Nat.le_of_ble_eq_true rfl), (Nat.le_of_ble_eq_true rfl)⟩ ⟨(Nat.le_of_ble_eq_true rfl), (Nat.le_of_ble_eq_true rfl)⟩ d_Law_law_672 (fun H locs hS => ?_)
        refine lv_aload_n hx hb d_Law_law_675 rfl (lv_at hl 2 rfl) ?_
        refine lv_aload_n hx hb d_Law_law_676 rfl (lv_at hl 0 rfl) ?_
        refine lv_iload_n hx hb d_Law_law_677 rfl (lv_at hl 3 rfl) ?_
        refine lv_iconst (v := (1 : Int32)) hx hb d_Law_law_678 (by decide) ?_
        refine lv_iadd hx hb d_Law_law_679 ?_
        obtain ⟨t102, et102, hM⟩ := bS hM
        refine r_sld C hS hX hbl hbs et102 d_Law_law_680 ?_
        obtain ⟨q103, eq103, hM⟩ := bS hM
        refine r_callVi (x := q103.1) C hS cv_Law_93 (c_Mo_image l base D cI cZ q101.2 l2 t102 eq103) (o_Mo_image eq103) (rest := [.int q101.1]) rfl hl.1 rfl (Nat.le_of_ble_eq_true rfl) ⟨(Nat.le_of_ble_eq_true rfl), (Nat.le_of_ble_eq_true rfl)⟩ ⟨(Nat.le_of_ble_eq_true rfl), (Nat.le_of_ble_eq_true rfl)⟩ d_Law_law_681 (fun H locs hS => ?_)
        refine lv_icmp_eq (tgt := 735) hx hb d_Law_law_684 (by decide) (fun c684_39 => ?_) (fun c684_39 => ?_)
        · rw [if_pos c684_39] at hM
          refine lv_iinc (v := (l3 + (5 : Int32))) (lv' := [(3, .int (l3 + (5 : Int32))), (0, .ref b), (1, .ref (base + l1)), (2, .ref (base + l2))]) hx hb d_Law_law_735 hl (k := 3) rfl (by rw [oi_5]) (by decide) rfl (fun ls hl => ?_)
          refine lv_goto (tgt := 18) hx hb d_Law_law_738 (by decide) ?_
          exact ih (l3 + (5 : Int32)) q103.2 hM _ _ _ hS (lv_sub hl [1, 2, 3, 0] rfl)
        · rw [if_neg c684_39] at hM
          refine lv_iconst (v := (0 : Int32)) hx hb d_Law_law_687 (by decide) ?_
          exact r_lret1 C hS hbs hM d_Law_law_688
      rw [if_neg c32_38] at hM
      by_cases c32_40 : (t3 &&& (31 : Int32)) = (19 : Int32)
      · rw [if_pos c32_40] at hM
        refine lv_tableIn (off := 657) (tgt := 689) hx hb d_Law_law_32 (by rw [c32_40]; decide) (by rw [c32_40]; decide) (by rw [c32_40]; rfl) (by decide) ?_
        refine lv_aload_n hx hb d_Law_law_689 rfl (lv_at hl 1 rfl) ?_
        refine lv_aload_n hx hb d_Law_law_690 rfl (lv_at hl 0 rfl) ?_
        refine lv_iload_n hx hb d_Law_law_691 rfl (lv_at hl 3 rfl) ?_
        refine lv_iconst (v := (1 : Int32)) hx hb d_Law_law_692 (by decide) ?_
        refine lv_iadd hx hb d_Law_law_693 ?_
        obtain ⟨t104, et104, hM⟩ := bS hM
        refine r_sld C hS hX hbl hbs et104 d_Law_law_694 ?_
        obtain ⟨q105, eq105, hM⟩ := bS hM
        refine r_callVi (x := q105.1) C hS cv_Law_94 (c_MF_restore l base D cI cZ h l1 t104 eq105) (o_MF_restore eq105) (rest := []) rfl hl.1 rfl (Nat.le_of_ble_eq_true rfl) ⟨(Nat.le_of_ble_eq_true rfl), (Nat.le_of_ble_eq_true rfl)⟩ ⟨(Nat.le_of_ble_eq_true rfl), (Nat.le_of_ble_eq_true rfl)⟩ d_Law_law_695 (fun H locs hS => ?_)
        refine lv_aload_n hx hb d_Law_law_698 rfl (lv_at hl 2 rfl) ?_
        refine lv_aload_n hx hb d_Law_law_699 rfl (lv_at hl 0 rfl) ?_
        refine lv_iload_n hx hb d_Law_law_700 rfl (lv_at hl 3 rfl) ?_
        refine lv_iconst (v := (1 : Int32)) hx hb d_Law_law_701 (by decide) ?_
        refine lv_iadd hx hb d_Law_law_702 ?_
        obtain ⟨t106, et106, hM⟩ := bS hM
        refine r_sld C hS hX hbl hbs et106 d_Law_law_703 ?_
        obtain ⟨q107, eq107, hM⟩ := bS hM
        refine r_callVi (x := q107.1) C hS cv_Law_97 (c_Mo_restore l base D cI cZ q105.2 l2 t106 eq107) (o_Mo_restore eq107) (rest := [.int q105.1]) rfl hl.1 rfl (Nat.le_of_ble_eq_true rfl) ⟨(Nat.le_of_ble_eq_true rfl), (Nat.le_of_ble_eq_true rfl)⟩ ⟨(Nat.le_of_ble_eq_true rfl), (Nat.le_of_ble_eq_true rfl)⟩ d_Law_law_704 (fun H locs hS => ?_)
        refine lv_icmp_eq (tgt := 735) hx hb d_Law_law_707 (by decide) (fun c707_41 => ?_) (fun c707_41 => ?_)
        · rw [if_pos c707_41] at hM
          refine lv_iinc (v := (l3 + (5 : Int32))) (lv' := [(3, .int (l3 + (5 : Int32))), (0, .ref b), (1, .ref (base + l1)), (2, .ref (base + l2))]) hx hb d_Law_law_735 hl (k := 3) rfl (by rw [oi_5]) (by decide) rfl (fun ls hl => ?_)
          refine lv_goto (tgt := 18) hx hb d_Law_law_738 (by decide) ?_
          exact ih (l3 + (5 : Int32)) q107.2 hM _ _ _ hS (lv_sub hl [1, 2, 3, 0] rfl)
        · rw [if_neg c707_41] at hM
          refine lv_iconst (v := (0 : Int32)) hx hb d_Law_law_710 (by decide) ?_
          exact r_lret1 C hS hbs hM d_Law_law_711
      rw [if_neg c32_40] at hM
      by_cases c32_42 : (t3 &&& (31 : Int32)) = (20 : Int32)
      · rw [if_pos c32_42] at hM
        refine lv_tableIn (off := 680) (tgt := 712) hx hb d_Law_law_32 (by rw [c32_42]; decide) (by rw [c32_42]; decide) (by rw [c32_42]; rfl) (by decide) ?_
        refine lv_aload_n hx hb d_Law_law_712 rfl (lv_at hl 1 rfl) ?_
        refine lv_aload_n hx hb d_Law_law_713 rfl (lv_at hl 0 rfl) ?_
        refine lv_iload_n hx hb d_Law_law_714 rfl (lv_at hl 3 rfl) ?_
        refine lv_iconst (v := (1 : Int32)) hx hb d_Law_law_715 (by decide) ?_
        refine lv_iadd hx hb d_Law_law_716 ?_
        obtain ⟨t108, et108, hM⟩ := bS hM
        refine r_sld C hS hX hbl hbs et108 d_Law_law_717 ?_
        obtain ⟨q109, eq109, hM⟩ := bS hM
        refine r_callVi (x := q109.1) C hS cv_Law_98 (c_MF_told l base D cI cZ h l1 t108 eq109) (o_MF_told eq109) (rest := []) rfl hl.1 rfl (Nat.le_of_ble_eq_true rfl) ⟨(Nat.le_of_ble_eq_true rfl), (Nat.le_of_ble_eq_true rfl)⟩ ⟨(Nat.le_of_ble_eq_true rfl), (Nat.le_of_ble_eq_true rfl)⟩ d_Law_law_718 (fun H locs hS => ?_)
        refine lv_aload_n hx hb d_Law_law_721 rfl (lv_at hl 2 rfl) ?_
        refine lv_aload_n hx hb d_Law_law_722 rfl (lv_at hl 0 rfl) ?_
        refine lv_iload_n hx hb d_Law_law_723 rfl (lv_at hl 3 rfl) ?_
        refine lv_iconst (v := (1 : Int32)) hx hb d_Law_law_724 (by decide) ?_
        refine lv_iadd hx hb d_Law_law_725 ?_
        obtain ⟨t110, et110, hM⟩ := bS hM
        refine r_sld C hS hX hbl hbs et110 d_Law_law_726 ?_
        obtain ⟨q111, eq111, hM⟩ := bS hM
        refine r_callVi (x := q111.1) C hS cv_Law_101 (c_Mo_told l base D cI cZ q109.2 l2 t110 eq111) (o_Mo_told eq111) (rest := [.int q109.1]) rfl hl.1 rfl (Nat.le_of_ble_eq_true rfl) ⟨(Nat.le_of_ble_eq_true rfl), (Nat.le_of_ble_eq_true rfl)⟩ ⟨(Nat.le_of_ble_eq_true rfl), (Nat.le_of_ble_eq_true rfl)⟩ d_Law_law_727 (fun H locs hS => ?_)
        refine lv_icmp_eq (tgt := 735) hx hb d_Law_law_730 (by decide) (fun c730_43 => ?_) (fun c730_43 => ?_)
        · rw [if_pos c730_43] at hM
          refine lv_iinc (v := (l3 + (5 : Int32))) (lv' := [(3, .int (l3 + (5 : Int32))), (0, .ref b), (1, .ref (base + l1)), (2, .ref (base + l2))]) hx hb d_Law_law_735 hl (k := 3) rfl (by rw [oi_5]) (by decide) rfl (fun ls hl => ?_)
          refine lv_goto (tgt := 18) hx hb d_Law_law_738 (by decide) ?_
          exact ih (l3 + (5 : Int32)) q111.2 hM _ _ _ hS (lv_sub hl [1, 2, 3, 0] rfl)
        · rw [if_neg c730_43] at hM
          refine lv_iconst (v := (0 : Int32)) hx hb d_Law_law_733 (by decide) ?_
          exact r_lret1 C hS hbs hM d_Law_law_734
      rw [if_neg c32_42] at hM
      refine r_tabD (tgt := 735) hx hb d_Law_law_32 [0, 1, 2, 3, 4, 5, 6, 7, 8, 9, 10, 11, 12, 13, 14, 15, 16, 17, 18, 19, 20] (List.forall_mem_cons.mpr ⟨lv_neT c32_2 rfl, (List.forall_mem_cons.mpr ⟨lv_neT c32_4 rfl, (List.forall_mem_cons.mpr ⟨lv_neT c32_6 rfl, (List.forall_mem_cons.mpr ⟨lv_neT c32_8 rfl, (List.forall_mem_cons.mpr ⟨lv_neT c32_10 rfl, (List.forall_mem_cons.mpr ⟨lv_neT c32_12 rfl, (List.forall_mem_cons.mpr ⟨lv_neT c32_14 rfl, (List.forall_mem_cons.mpr ⟨lv_neT c32_16 rfl, (List.forall_mem_cons.mpr ⟨lv_neT c32_18 rfl, (List.forall_mem_cons.mpr ⟨lv_neT c32_20 rfl, (List.forall_mem_cons.mpr ⟨lv_neT c32_22 rfl, (List.forall_mem_cons.mpr ⟨lv_neT c32_24 rfl, (List.forall_mem_cons.mpr ⟨lv_neT c32_26 rfl, (List.forall_mem_cons.mpr ⟨lv_neT c32_28 rfl, (List.forall_mem_cons.mpr ⟨lv_neT c32_30 rfl, (List.forall_mem_cons.mpr ⟨lv_neT c32_32 rfl, (List.forall_mem_cons.mpr ⟨lv_neT c32_34 rfl, (List.forall_mem_cons.mpr ⟨lv_neT c32_36 rfl, (List.forall_mem_cons.mpr ⟨lv_neT c32_38 rfl, (List.forall_mem_cons.mpr ⟨lv_neT c32_40 rfl, (List.forall_mem_cons.mpr ⟨lv_neT c32_42 rfl, (List.forall_mem_nil _)⟩)⟩)⟩)⟩)⟩)⟩)⟩)⟩)⟩)⟩)⟩)⟩)⟩)⟩)⟩)⟩)⟩)⟩)⟩)⟩)⟩) (by decide) (by decide) ?_
      refine lv_iinc (v := (l3 + (5 : Int32))) (lv' := [(3, .int (l3 + (5 : Int32))), (0, .ref b), (1, .ref (base + l1)), (2, .ref (base + l2))]) hx hb d_Law_law_735 hl (k := 3) rfl (by rw [oi_5]) (by decide) rfl (fun ls hl => ?_)
      refine lv_goto (tgt := 18) hx hb d_Law_law_738 (by decide) ?_
      exact ih (l3 + (5 : Int32)) h hM _ _ _ hS (lv_sub hl [1, 2, 3, 0] rfl)
def f_Law_law (xs : Nat → Int32) (L : Nat) (h : Hp) : Option Int32 :=
  (f_MF_init (h ++ [.inr (8, [.null, .null, .null, .null, .null, .null, .null, .null, .null, .int 0])]) h.length).bind fun h1 =>
  (f_Mo_init (h1 ++ [.inr (9, [.null, .null, .null, .int 0, .null, .int 0, .int 0, .int 0, .int 0, .int 0, .int 0, .null, .null, .null, .null, .null, .null, .null, .null, .null, .int 0, .int 0, .null, .null, .null, .int 0, .int 0])]) h1.length).bind fun h2 =>
  f_Law_law_18 xs L h.length h1.length FU (0 : Int32) h2
set_option maxHeartbeats 4000000 in
set_option maxRecDepth 100000 in
theorem t_Law_law {h : Hp} {xs : Nat → Int32} {L : Nat} (C : Cx base D cI cZ code 4 "MovedFoldersLaw" meth.name (some .boolean) p s m #[Value.ref b] meth c) (hX : va_X b L xs s s.heap) (hbl : b < s.heap.size) (hbs : base = s.heap.size) (hM : f_Law_law xs L h = some 1) (H : Heap) (locs : List Loc) (ls : Array Slot) (hS : RS base D cI cZ s H locs h) (hl : lv_has ls 4 [(0, .ref b)]) : W p l e room_1 s m #[Value.ref b] below meth c H locs 0 0 (lw_Z below #[Value.ref b] s) (F0 m 0 ls []) := by
  have hx := C.1
  have hb := C.2.1
  unfold f_Law_law at hM
  refine r_new C hS nw_Law_7 (Nat.le_of_ble_eq_true rfl) (Nat.le_of_ble_eq_true rfl) d_Law_law_0 (fun H hS => ?_)
  refine lv_dup hx hb d_Law_law_3 rfl ?_
  obtain ⟨h1, eh1, hM⟩ := bS hM
  refine r_callI C hS ci_Law_9 (c_MF_init l base D cI cZ (h ++ [.inr (8, [.null, .null, .null, .null, .null, .null, .null, .null, .null, .int 0])]) h.length eh1) (rest := [.ref (base + h.length)]) rfl hl.1 rfl (Nat.le_of_ble_eq_true rfl) ⟨(Nat.le_of_ble_eq_true rfl), (Nat.le_of_ble_eq_true rfl)⟩ ⟨(Nat.le_of_ble_eq_true rfl), (Nat.le_of_ble_eq_true rfl)⟩ d_Law_law_4 (fun H locs hS => ?_)
  refine lv_astore_n (lv' := [(1, .ref (base + h.length)), (0, .ref b)]) hx hb d_Law_law_7 rfl hl (by decide) rfl (fun ls hl => ?_)
  refine r_new C hS nw_Law_10 (Nat.le_of_ble_eq_true rfl) (Nat.le_of_ble_eq_true rfl) d_Law_law_8 (fun H hS => ?_)
  refine lv_dup hx hb d_Law_law_11 rfl ?_
  obtain ⟨h2, eh2, hM⟩ := bS hM
  refine r_callI C hS ci_Law_12 (c_Mo_init l base D cI cZ (h1 ++ [.inr (9, [.null, .null, .null, .int 0, .null, .int 0, .int 0, .int 0, .int 0, .int 0, .int 0, .null, .null, .null, .null, .null, .null, .null, .null, .null, .int 0, .int 0, .null, .null, .null, .int 0, .int 0])]) h1.length eh2) (rest := [.ref (base + h1.length)]) rfl hl.1 rfl (Nat.le_of_ble_eq_true rfl) ⟨(Nat.le_of_ble_eq_true rfl), (Nat.le_of_ble_eq_true rfl)⟩ ⟨(Nat.le_of_ble_eq_true rfl), (Nat.le_of_ble_eq_true rfl)⟩ d_Law_law_12 (fun H locs hS => ?_)
  refine lv_astore_n (lv' := [(2, .ref (base + h1.length)), (1, .ref (base + h.length)), (0, .ref b)]) hx hb d_Law_law_15 rfl hl (by decide) rfl (fun ls hl => ?_)
  refine lv_iconst (v := (0 : Int32)) hx hb d_Law_law_16 (by decide) ?_
  refine lv_istore_n (lv' := [(3, .int (0 : Int32)), (2, .ref (base + h1.length)), (1, .ref (base + h.length)), (0, .ref b)]) hx hb d_Law_law_17 rfl hl (by decide) rfl (fun ls hl => ?_)
  exact t_Law_law_18 C hX hbl hbs  FU (0 : Int32) h2 hM _ _ _ hS (lv_sub hl [3, 2, 1, 0] rfl)
end LW
