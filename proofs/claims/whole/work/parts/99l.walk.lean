/-! ===== the law's walk ===== -/
abbrev cL_law : ByteArray := code
theorem dL_law_0 : decode cL_law 0 = .ok (.new 7, 3) := by decide +kernel
theorem dL_law_3 : decode cL_law 3 = .ok (.dup, 1) := by decide +kernel
theorem dL_law_4 : decode cL_law 4 = .ok (.invokespecial 9, 3) := by decide +kernel
theorem dL_law_7 : decode cL_law 7 = .ok (.astore_n 1, 1) := by decide +kernel
theorem dL_law_8 : decode cL_law 8 = .ok (.new 10, 3) := by decide +kernel
theorem dL_law_11 : decode cL_law 11 = .ok (.dup, 1) := by decide +kernel
theorem dL_law_12 : decode cL_law 12 = .ok (.invokespecial 12, 3) := by decide +kernel
theorem dL_law_15 : decode cL_law 15 = .ok (.astore_n 2, 1) := by decide +kernel
theorem dL_law_16 : decode cL_law 16 = .ok (.iconst 0, 1) := by decide +kernel
theorem dL_law_17 : decode cL_law 17 = .ok (.istore_n 3, 1) := by decide +kernel
theorem dL_law_18 : decode cL_law 18 = .ok (.iload_n 3, 1) := by decide +kernel
theorem dL_law_19 : decode cL_law 19 = .ok (.aload_n 0, 1) := by decide +kernel
theorem dL_law_20 : decode cL_law 20 = .ok (.arraylength, 1) := by decide +kernel
theorem dL_law_21 : decode cL_law 21 = .ok (.iconst 4, 1) := by decide +kernel
theorem dL_law_22 : decode cL_law 22 = .ok (.isub, 1) := by decide +kernel
theorem dL_law_23 : decode cL_law 23 = .ok (.if_icmp .gt 1095, 3) := by decide +kernel
theorem dL_law_26 : decode cL_law 26 = .ok (.aload_n 0, 1) := by decide +kernel
theorem dL_law_27 : decode cL_law 27 = .ok (.iload_n 3, 1) := by decide +kernel
theorem dL_law_28 : decode cL_law 28 = .ok (.iaload, 1) := by decide +kernel
theorem dL_law_29 : decode cL_law 29 = .ok (.bipush 63, 2) := by decide +kernel
theorem dL_law_31 : decode cL_law 31 = .ok (.iand, 1) := by decide +kernel
theorem dL_law_32 : decode cL_law 32 = .ok (.tableswitch 1080 0 35 #[160, 193, 216, 239, 262, 285, 308, 341, 374, 397, 410, 443, 476, 519, 542, 575, 598, 621, 634, 667, 680, 703, 716, 749, 762, 795, 818, 851, 874, 907, 940, 973, 1007, 1031, 1044, 1057], 160) := by decide +kernel
theorem dL_law_192 : decode cL_law 192 = .ok (.aload_n 1, 1) := by decide +kernel
theorem dL_law_193 : decode cL_law 193 = .ok (.aload_n 0, 1) := by decide +kernel
theorem dL_law_194 : decode cL_law 194 = .ok (.iload_n 3, 1) := by decide +kernel
theorem dL_law_195 : decode cL_law 195 = .ok (.iconst 1, 1) := by decide +kernel
theorem dL_law_196 : decode cL_law 196 = .ok (.iadd, 1) := by decide +kernel
theorem dL_law_197 : decode cL_law 197 = .ok (.iaload, 1) := by decide +kernel
theorem dL_law_198 : decode cL_law 198 = .ok (.aload_n 0, 1) := by decide +kernel
theorem dL_law_199 : decode cL_law 199 = .ok (.iload_n 3, 1) := by decide +kernel
theorem dL_law_200 : decode cL_law 200 = .ok (.iconst 2, 1) := by decide +kernel
theorem dL_law_201 : decode cL_law 201 = .ok (.iadd, 1) := by decide +kernel
theorem dL_law_202 : decode cL_law 202 = .ok (.iaload, 1) := by decide +kernel
theorem dL_law_203 : decode cL_law 203 = .ok (.invokevirtual 13, 3) := by decide +kernel
theorem dL_law_206 : decode cL_law 206 = .ok (.aload_n 2, 1) := by decide +kernel
theorem dL_law_207 : decode cL_law 207 = .ok (.aload_n 0, 1) := by decide +kernel
theorem dL_law_208 : decode cL_law 208 = .ok (.iload_n 3, 1) := by decide +kernel
theorem dL_law_209 : decode cL_law 209 = .ok (.iconst 1, 1) := by decide +kernel
theorem dL_law_210 : decode cL_law 210 = .ok (.iadd, 1) := by decide +kernel
theorem dL_law_211 : decode cL_law 211 = .ok (.iaload, 1) := by decide +kernel
theorem dL_law_212 : decode cL_law 212 = .ok (.aload_n 0, 1) := by decide +kernel
theorem dL_law_213 : decode cL_law 213 = .ok (.iload_n 3, 1) := by decide +kernel
theorem dL_law_214 : decode cL_law 214 = .ok (.iconst 2, 1) := by decide +kernel
theorem dL_law_215 : decode cL_law 215 = .ok (.iadd, 1) := by decide +kernel
theorem dL_law_216 : decode cL_law 216 = .ok (.iaload, 1) := by decide +kernel
theorem dL_law_217 : decode cL_law 217 = .ok (.invokevirtual 17, 3) := by decide +kernel
theorem dL_law_220 : decode cL_law 220 = .ok (.if_icmp .eq 892, 3) := by decide +kernel
theorem dL_law_223 : decode cL_law 223 = .ok (.iconst 0, 1) := by decide +kernel
theorem dL_law_224 : decode cL_law 224 = .ok (.ireturn, 1) := by decide +kernel
theorem dL_law_225 : decode cL_law 225 = .ok (.aload_n 1, 1) := by decide +kernel
theorem dL_law_226 : decode cL_law 226 = .ok (.aload_n 0, 1) := by decide +kernel
theorem dL_law_227 : decode cL_law 227 = .ok (.iload_n 3, 1) := by decide +kernel
theorem dL_law_228 : decode cL_law 228 = .ok (.iconst 1, 1) := by decide +kernel
theorem dL_law_229 : decode cL_law 229 = .ok (.iadd, 1) := by decide +kernel
theorem dL_law_230 : decode cL_law 230 = .ok (.iaload, 1) := by decide +kernel
theorem dL_law_231 : decode cL_law 231 = .ok (.invokevirtual 18, 3) := by decide +kernel
theorem dL_law_234 : decode cL_law 234 = .ok (.aload_n 2, 1) := by decide +kernel
theorem dL_law_235 : decode cL_law 235 = .ok (.aload_n 0, 1) := by decide +kernel
theorem dL_law_236 : decode cL_law 236 = .ok (.iload_n 3, 1) := by decide +kernel
theorem dL_law_237 : decode cL_law 237 = .ok (.iconst 1, 1) := by decide +kernel
theorem dL_law_238 : decode cL_law 238 = .ok (.iadd, 1) := by decide +kernel
theorem dL_law_239 : decode cL_law 239 = .ok (.iaload, 1) := by decide +kernel
theorem dL_law_240 : decode cL_law 240 = .ok (.invokevirtual 22, 3) := by decide +kernel
theorem dL_law_243 : decode cL_law 243 = .ok (.if_icmp .eq 869, 3) := by decide +kernel
theorem dL_law_246 : decode cL_law 246 = .ok (.iconst 0, 1) := by decide +kernel
theorem dL_law_247 : decode cL_law 247 = .ok (.ireturn, 1) := by decide +kernel
theorem dL_law_248 : decode cL_law 248 = .ok (.aload_n 1, 1) := by decide +kernel
theorem dL_law_249 : decode cL_law 249 = .ok (.aload_n 0, 1) := by decide +kernel
theorem dL_law_250 : decode cL_law 250 = .ok (.iload_n 3, 1) := by decide +kernel
theorem dL_law_251 : decode cL_law 251 = .ok (.iconst 1, 1) := by decide +kernel
theorem dL_law_252 : decode cL_law 252 = .ok (.iadd, 1) := by decide +kernel
theorem dL_law_253 : decode cL_law 253 = .ok (.iaload, 1) := by decide +kernel
theorem dL_law_254 : decode cL_law 254 = .ok (.invokevirtual 23, 3) := by decide +kernel
theorem dL_law_257 : decode cL_law 257 = .ok (.aload_n 2, 1) := by decide +kernel
theorem dL_law_258 : decode cL_law 258 = .ok (.aload_n 0, 1) := by decide +kernel
theorem dL_law_259 : decode cL_law 259 = .ok (.iload_n 3, 1) := by decide +kernel
theorem dL_law_260 : decode cL_law 260 = .ok (.iconst 1, 1) := by decide +kernel
theorem dL_law_261 : decode cL_law 261 = .ok (.iadd, 1) := by decide +kernel
theorem dL_law_262 : decode cL_law 262 = .ok (.iaload, 1) := by decide +kernel
theorem dL_law_263 : decode cL_law 263 = .ok (.invokevirtual 26, 3) := by decide +kernel
theorem dL_law_266 : decode cL_law 266 = .ok (.if_icmp .eq 846, 3) := by decide +kernel
theorem dL_law_269 : decode cL_law 269 = .ok (.iconst 0, 1) := by decide +kernel
theorem dL_law_270 : decode cL_law 270 = .ok (.ireturn, 1) := by decide +kernel
theorem dL_law_271 : decode cL_law 271 = .ok (.aload_n 1, 1) := by decide +kernel
theorem dL_law_272 : decode cL_law 272 = .ok (.aload_n 0, 1) := by decide +kernel
theorem dL_law_273 : decode cL_law 273 = .ok (.iload_n 3, 1) := by decide +kernel
theorem dL_law_274 : decode cL_law 274 = .ok (.iconst 1, 1) := by decide +kernel
theorem dL_law_275 : decode cL_law 275 = .ok (.iadd, 1) := by decide +kernel
theorem dL_law_276 : decode cL_law 276 = .ok (.iaload, 1) := by decide +kernel
theorem dL_law_277 : decode cL_law 277 = .ok (.invokevirtual 27, 3) := by decide +kernel
theorem dL_law_280 : decode cL_law 280 = .ok (.aload_n 2, 1) := by decide +kernel
theorem dL_law_281 : decode cL_law 281 = .ok (.aload_n 0, 1) := by decide +kernel
theorem dL_law_282 : decode cL_law 282 = .ok (.iload_n 3, 1) := by decide +kernel
theorem dL_law_283 : decode cL_law 283 = .ok (.iconst 1, 1) := by decide +kernel
theorem dL_law_284 : decode cL_law 284 = .ok (.iadd, 1) := by decide +kernel
theorem dL_law_285 : decode cL_law 285 = .ok (.iaload, 1) := by decide +kernel
theorem dL_law_286 : decode cL_law 286 = .ok (.invokevirtual 30, 3) := by decide +kernel
theorem dL_law_289 : decode cL_law 289 = .ok (.if_icmp .eq 823, 3) := by decide +kernel
theorem dL_law_292 : decode cL_law 292 = .ok (.iconst 0, 1) := by decide +kernel
theorem dL_law_293 : decode cL_law 293 = .ok (.ireturn, 1) := by decide +kernel
theorem dL_law_294 : decode cL_law 294 = .ok (.aload_n 1, 1) := by decide +kernel
theorem dL_law_295 : decode cL_law 295 = .ok (.aload_n 0, 1) := by decide +kernel
theorem dL_law_296 : decode cL_law 296 = .ok (.iload_n 3, 1) := by decide +kernel
theorem dL_law_297 : decode cL_law 297 = .ok (.iconst 1, 1) := by decide +kernel
theorem dL_law_298 : decode cL_law 298 = .ok (.iadd, 1) := by decide +kernel
theorem dL_law_299 : decode cL_law 299 = .ok (.iaload, 1) := by decide +kernel
theorem dL_law_300 : decode cL_law 300 = .ok (.invokevirtual 31, 3) := by decide +kernel
theorem dL_law_303 : decode cL_law 303 = .ok (.aload_n 2, 1) := by decide +kernel
theorem dL_law_304 : decode cL_law 304 = .ok (.aload_n 0, 1) := by decide +kernel
theorem dL_law_305 : decode cL_law 305 = .ok (.iload_n 3, 1) := by decide +kernel
theorem dL_law_306 : decode cL_law 306 = .ok (.iconst 1, 1) := by decide +kernel
theorem dL_law_307 : decode cL_law 307 = .ok (.iadd, 1) := by decide +kernel
theorem dL_law_308 : decode cL_law 308 = .ok (.iaload, 1) := by decide +kernel
theorem dL_law_309 : decode cL_law 309 = .ok (.invokevirtual 34, 3) := by decide +kernel
theorem dL_law_312 : decode cL_law 312 = .ok (.if_icmp .eq 800, 3) := by decide +kernel
theorem dL_law_315 : decode cL_law 315 = .ok (.iconst 0, 1) := by decide +kernel
theorem dL_law_316 : decode cL_law 316 = .ok (.ireturn, 1) := by decide +kernel
theorem dL_law_317 : decode cL_law 317 = .ok (.aload_n 1, 1) := by decide +kernel
theorem dL_law_318 : decode cL_law 318 = .ok (.aload_n 0, 1) := by decide +kernel
theorem dL_law_319 : decode cL_law 319 = .ok (.iload_n 3, 1) := by decide +kernel
theorem dL_law_320 : decode cL_law 320 = .ok (.iconst 1, 1) := by decide +kernel
theorem dL_law_321 : decode cL_law 321 = .ok (.iadd, 1) := by decide +kernel
theorem dL_law_322 : decode cL_law 322 = .ok (.iaload, 1) := by decide +kernel
theorem dL_law_323 : decode cL_law 323 = .ok (.invokevirtual 35, 3) := by decide +kernel
theorem dL_law_326 : decode cL_law 326 = .ok (.aload_n 2, 1) := by decide +kernel
theorem dL_law_327 : decode cL_law 327 = .ok (.aload_n 0, 1) := by decide +kernel
theorem dL_law_328 : decode cL_law 328 = .ok (.iload_n 3, 1) := by decide +kernel
theorem dL_law_329 : decode cL_law 329 = .ok (.iconst 1, 1) := by decide +kernel
theorem dL_law_330 : decode cL_law 330 = .ok (.iadd, 1) := by decide +kernel
theorem dL_law_331 : decode cL_law 331 = .ok (.iaload, 1) := by decide +kernel
theorem dL_law_332 : decode cL_law 332 = .ok (.invokevirtual 38, 3) := by decide +kernel
theorem dL_law_335 : decode cL_law 335 = .ok (.if_icmp .eq 777, 3) := by decide +kernel
theorem dL_law_338 : decode cL_law 338 = .ok (.iconst 0, 1) := by decide +kernel
theorem dL_law_339 : decode cL_law 339 = .ok (.ireturn, 1) := by decide +kernel
theorem dL_law_340 : decode cL_law 340 = .ok (.aload_n 1, 1) := by decide +kernel
theorem dL_law_341 : decode cL_law 341 = .ok (.aload_n 0, 1) := by decide +kernel
theorem dL_law_342 : decode cL_law 342 = .ok (.iload_n 3, 1) := by decide +kernel
theorem dL_law_343 : decode cL_law 343 = .ok (.iconst 1, 1) := by decide +kernel
theorem dL_law_344 : decode cL_law 344 = .ok (.iadd, 1) := by decide +kernel
theorem dL_law_345 : decode cL_law 345 = .ok (.iaload, 1) := by decide +kernel
theorem dL_law_346 : decode cL_law 346 = .ok (.aload_n 0, 1) := by decide +kernel
theorem dL_law_347 : decode cL_law 347 = .ok (.iload_n 3, 1) := by decide +kernel
theorem dL_law_348 : decode cL_law 348 = .ok (.iconst 2, 1) := by decide +kernel
theorem dL_law_349 : decode cL_law 349 = .ok (.iadd, 1) := by decide +kernel
theorem dL_law_350 : decode cL_law 350 = .ok (.iaload, 1) := by decide +kernel
theorem dL_law_351 : decode cL_law 351 = .ok (.invokevirtual 39, 3) := by decide +kernel
theorem dL_law_354 : decode cL_law 354 = .ok (.aload_n 2, 1) := by decide +kernel
theorem dL_law_355 : decode cL_law 355 = .ok (.aload_n 0, 1) := by decide +kernel
theorem dL_law_356 : decode cL_law 356 = .ok (.iload_n 3, 1) := by decide +kernel
theorem dL_law_357 : decode cL_law 357 = .ok (.iconst 1, 1) := by decide +kernel
theorem dL_law_358 : decode cL_law 358 = .ok (.iadd, 1) := by decide +kernel
theorem dL_law_359 : decode cL_law 359 = .ok (.iaload, 1) := by decide +kernel
theorem dL_law_360 : decode cL_law 360 = .ok (.aload_n 0, 1) := by decide +kernel
theorem dL_law_361 : decode cL_law 361 = .ok (.iload_n 3, 1) := by decide +kernel
theorem dL_law_362 : decode cL_law 362 = .ok (.iconst 2, 1) := by decide +kernel
theorem dL_law_363 : decode cL_law 363 = .ok (.iadd, 1) := by decide +kernel
theorem dL_law_364 : decode cL_law 364 = .ok (.iaload, 1) := by decide +kernel
theorem dL_law_365 : decode cL_law 365 = .ok (.invokevirtual 42, 3) := by decide +kernel
theorem dL_law_368 : decode cL_law 368 = .ok (.if_icmp .eq 744, 3) := by decide +kernel
theorem dL_law_371 : decode cL_law 371 = .ok (.iconst 0, 1) := by decide +kernel
theorem dL_law_372 : decode cL_law 372 = .ok (.ireturn, 1) := by decide +kernel
theorem dL_law_373 : decode cL_law 373 = .ok (.aload_n 1, 1) := by decide +kernel
theorem dL_law_374 : decode cL_law 374 = .ok (.aload_n 0, 1) := by decide +kernel
theorem dL_law_375 : decode cL_law 375 = .ok (.iload_n 3, 1) := by decide +kernel
theorem dL_law_376 : decode cL_law 376 = .ok (.iconst 1, 1) := by decide +kernel
theorem dL_law_377 : decode cL_law 377 = .ok (.iadd, 1) := by decide +kernel
theorem dL_law_378 : decode cL_law 378 = .ok (.iaload, 1) := by decide +kernel
theorem dL_law_379 : decode cL_law 379 = .ok (.aload_n 0, 1) := by decide +kernel
theorem dL_law_380 : decode cL_law 380 = .ok (.iload_n 3, 1) := by decide +kernel
theorem dL_law_381 : decode cL_law 381 = .ok (.iconst 2, 1) := by decide +kernel
theorem dL_law_382 : decode cL_law 382 = .ok (.iadd, 1) := by decide +kernel
theorem dL_law_383 : decode cL_law 383 = .ok (.iaload, 1) := by decide +kernel
theorem dL_law_384 : decode cL_law 384 = .ok (.invokevirtual 43, 3) := by decide +kernel
theorem dL_law_387 : decode cL_law 387 = .ok (.aload_n 2, 1) := by decide +kernel
theorem dL_law_388 : decode cL_law 388 = .ok (.aload_n 0, 1) := by decide +kernel
theorem dL_law_389 : decode cL_law 389 = .ok (.iload_n 3, 1) := by decide +kernel
theorem dL_law_390 : decode cL_law 390 = .ok (.iconst 1, 1) := by decide +kernel
theorem dL_law_391 : decode cL_law 391 = .ok (.iadd, 1) := by decide +kernel
theorem dL_law_392 : decode cL_law 392 = .ok (.iaload, 1) := by decide +kernel
theorem dL_law_393 : decode cL_law 393 = .ok (.aload_n 0, 1) := by decide +kernel
theorem dL_law_394 : decode cL_law 394 = .ok (.iload_n 3, 1) := by decide +kernel
theorem dL_law_395 : decode cL_law 395 = .ok (.iconst 2, 1) := by decide +kernel
theorem dL_law_396 : decode cL_law 396 = .ok (.iadd, 1) := by decide +kernel
theorem dL_law_397 : decode cL_law 397 = .ok (.iaload, 1) := by decide +kernel
theorem dL_law_398 : decode cL_law 398 = .ok (.invokevirtual 46, 3) := by decide +kernel
theorem dL_law_401 : decode cL_law 401 = .ok (.if_icmp .eq 711, 3) := by decide +kernel
theorem dL_law_404 : decode cL_law 404 = .ok (.iconst 0, 1) := by decide +kernel
theorem dL_law_405 : decode cL_law 405 = .ok (.ireturn, 1) := by decide +kernel
theorem dL_law_406 : decode cL_law 406 = .ok (.aload_n 1, 1) := by decide +kernel
theorem dL_law_407 : decode cL_law 407 = .ok (.aload_n 0, 1) := by decide +kernel
theorem dL_law_408 : decode cL_law 408 = .ok (.iload_n 3, 1) := by decide +kernel
theorem dL_law_409 : decode cL_law 409 = .ok (.iconst 1, 1) := by decide +kernel
theorem dL_law_410 : decode cL_law 410 = .ok (.iadd, 1) := by decide +kernel
theorem dL_law_411 : decode cL_law 411 = .ok (.iaload, 1) := by decide +kernel
theorem dL_law_412 : decode cL_law 412 = .ok (.invokevirtual 47, 3) := by decide +kernel
theorem dL_law_415 : decode cL_law 415 = .ok (.aload_n 2, 1) := by decide +kernel
theorem dL_law_416 : decode cL_law 416 = .ok (.aload_n 0, 1) := by decide +kernel
theorem dL_law_417 : decode cL_law 417 = .ok (.iload_n 3, 1) := by decide +kernel
theorem dL_law_418 : decode cL_law 418 = .ok (.iconst 1, 1) := by decide +kernel
theorem dL_law_419 : decode cL_law 419 = .ok (.iadd, 1) := by decide +kernel
theorem dL_law_420 : decode cL_law 420 = .ok (.iaload, 1) := by decide +kernel
theorem dL_law_421 : decode cL_law 421 = .ok (.invokevirtual 50, 3) := by decide +kernel
theorem dL_law_424 : decode cL_law 424 = .ok (.if_icmp .eq 688, 3) := by decide +kernel
theorem dL_law_427 : decode cL_law 427 = .ok (.iconst 0, 1) := by decide +kernel
theorem dL_law_428 : decode cL_law 428 = .ok (.ireturn, 1) := by decide +kernel
theorem dL_law_429 : decode cL_law 429 = .ok (.aload_n 1, 1) := by decide +kernel
theorem dL_law_430 : decode cL_law 430 = .ok (.invokevirtual 51, 3) := by decide +kernel
theorem dL_law_433 : decode cL_law 433 = .ok (.aload_n 2, 1) := by decide +kernel
theorem dL_law_434 : decode cL_law 434 = .ok (.invokevirtual 55, 3) := by decide +kernel
theorem dL_law_437 : decode cL_law 437 = .ok (.if_icmp .eq 675, 3) := by decide +kernel
theorem dL_law_440 : decode cL_law 440 = .ok (.iconst 0, 1) := by decide +kernel
theorem dL_law_441 : decode cL_law 441 = .ok (.ireturn, 1) := by decide +kernel
theorem dL_law_442 : decode cL_law 442 = .ok (.aload_n 1, 1) := by decide +kernel
theorem dL_law_443 : decode cL_law 443 = .ok (.aload_n 0, 1) := by decide +kernel
theorem dL_law_444 : decode cL_law 444 = .ok (.iload_n 3, 1) := by decide +kernel
theorem dL_law_445 : decode cL_law 445 = .ok (.iconst 1, 1) := by decide +kernel
theorem dL_law_446 : decode cL_law 446 = .ok (.iadd, 1) := by decide +kernel
theorem dL_law_447 : decode cL_law 447 = .ok (.iaload, 1) := by decide +kernel
theorem dL_law_448 : decode cL_law 448 = .ok (.aload_n 0, 1) := by decide +kernel
theorem dL_law_449 : decode cL_law 449 = .ok (.iload_n 3, 1) := by decide +kernel
theorem dL_law_450 : decode cL_law 450 = .ok (.iconst 2, 1) := by decide +kernel
theorem dL_law_451 : decode cL_law 451 = .ok (.iadd, 1) := by decide +kernel
theorem dL_law_452 : decode cL_law 452 = .ok (.iaload, 1) := by decide +kernel
theorem dL_law_453 : decode cL_law 453 = .ok (.invokevirtual 56, 3) := by decide +kernel
theorem dL_law_456 : decode cL_law 456 = .ok (.aload_n 2, 1) := by decide +kernel
theorem dL_law_457 : decode cL_law 457 = .ok (.aload_n 0, 1) := by decide +kernel
theorem dL_law_458 : decode cL_law 458 = .ok (.iload_n 3, 1) := by decide +kernel
theorem dL_law_459 : decode cL_law 459 = .ok (.iconst 1, 1) := by decide +kernel
theorem dL_law_460 : decode cL_law 460 = .ok (.iadd, 1) := by decide +kernel
theorem dL_law_461 : decode cL_law 461 = .ok (.iaload, 1) := by decide +kernel
theorem dL_law_462 : decode cL_law 462 = .ok (.aload_n 0, 1) := by decide +kernel
theorem dL_law_463 : decode cL_law 463 = .ok (.iload_n 3, 1) := by decide +kernel
theorem dL_law_464 : decode cL_law 464 = .ok (.iconst 2, 1) := by decide +kernel
theorem dL_law_465 : decode cL_law 465 = .ok (.iadd, 1) := by decide +kernel
theorem dL_law_466 : decode cL_law 466 = .ok (.iaload, 1) := by decide +kernel
theorem dL_law_467 : decode cL_law 467 = .ok (.invokevirtual 59, 3) := by decide +kernel
theorem dL_law_470 : decode cL_law 470 = .ok (.if_icmp .eq 642, 3) := by decide +kernel
theorem dL_law_473 : decode cL_law 473 = .ok (.iconst 0, 1) := by decide +kernel
theorem dL_law_474 : decode cL_law 474 = .ok (.ireturn, 1) := by decide +kernel
theorem dL_law_475 : decode cL_law 475 = .ok (.aload_n 1, 1) := by decide +kernel
theorem dL_law_476 : decode cL_law 476 = .ok (.aload_n 0, 1) := by decide +kernel
theorem dL_law_477 : decode cL_law 477 = .ok (.iload_n 3, 1) := by decide +kernel
theorem dL_law_478 : decode cL_law 478 = .ok (.iconst 1, 1) := by decide +kernel
theorem dL_law_479 : decode cL_law 479 = .ok (.iadd, 1) := by decide +kernel
theorem dL_law_480 : decode cL_law 480 = .ok (.iaload, 1) := by decide +kernel
theorem dL_law_481 : decode cL_law 481 = .ok (.aload_n 0, 1) := by decide +kernel
theorem dL_law_482 : decode cL_law 482 = .ok (.iload_n 3, 1) := by decide +kernel
theorem dL_law_483 : decode cL_law 483 = .ok (.iconst 2, 1) := by decide +kernel
theorem dL_law_484 : decode cL_law 484 = .ok (.iadd, 1) := by decide +kernel
theorem dL_law_485 : decode cL_law 485 = .ok (.iaload, 1) := by decide +kernel
theorem dL_law_486 : decode cL_law 486 = .ok (.invokevirtual 60, 3) := by decide +kernel
theorem dL_law_489 : decode cL_law 489 = .ok (.aload_n 2, 1) := by decide +kernel
theorem dL_law_490 : decode cL_law 490 = .ok (.aload_n 0, 1) := by decide +kernel
theorem dL_law_491 : decode cL_law 491 = .ok (.iload_n 3, 1) := by decide +kernel
theorem dL_law_492 : decode cL_law 492 = .ok (.iconst 1, 1) := by decide +kernel
theorem dL_law_493 : decode cL_law 493 = .ok (.iadd, 1) := by decide +kernel
theorem dL_law_494 : decode cL_law 494 = .ok (.iaload, 1) := by decide +kernel
theorem dL_law_495 : decode cL_law 495 = .ok (.aload_n 0, 1) := by decide +kernel
theorem dL_law_496 : decode cL_law 496 = .ok (.iload_n 3, 1) := by decide +kernel
theorem dL_law_497 : decode cL_law 497 = .ok (.iconst 2, 1) := by decide +kernel
theorem dL_law_498 : decode cL_law 498 = .ok (.iadd, 1) := by decide +kernel
theorem dL_law_499 : decode cL_law 499 = .ok (.iaload, 1) := by decide +kernel
theorem dL_law_500 : decode cL_law 500 = .ok (.invokevirtual 63, 3) := by decide +kernel
theorem dL_law_503 : decode cL_law 503 = .ok (.if_icmp .eq 609, 3) := by decide +kernel
theorem dL_law_506 : decode cL_law 506 = .ok (.iconst 0, 1) := by decide +kernel
theorem dL_law_507 : decode cL_law 507 = .ok (.ireturn, 1) := by decide +kernel
theorem dL_law_508 : decode cL_law 508 = .ok (.aload_n 1, 1) := by decide +kernel
theorem dL_law_509 : decode cL_law 509 = .ok (.aload_n 0, 1) := by decide +kernel
theorem dL_law_510 : decode cL_law 510 = .ok (.iload_n 3, 1) := by decide +kernel
theorem dL_law_511 : decode cL_law 511 = .ok (.iconst 1, 1) := by decide +kernel
theorem dL_law_512 : decode cL_law 512 = .ok (.iadd, 1) := by decide +kernel
theorem dL_law_513 : decode cL_law 513 = .ok (.iaload, 1) := by decide +kernel
theorem dL_law_514 : decode cL_law 514 = .ok (.aload_n 0, 1) := by decide +kernel
theorem dL_law_515 : decode cL_law 515 = .ok (.iload_n 3, 1) := by decide +kernel
theorem dL_law_516 : decode cL_law 516 = .ok (.iconst 2, 1) := by decide +kernel
theorem dL_law_517 : decode cL_law 517 = .ok (.iadd, 1) := by decide +kernel
theorem dL_law_518 : decode cL_law 518 = .ok (.iaload, 1) := by decide +kernel
theorem dL_law_519 : decode cL_law 519 = .ok (.aload_n 0, 1) := by decide +kernel
theorem dL_law_520 : decode cL_law 520 = .ok (.iload_n 3, 1) := by decide +kernel
theorem dL_law_521 : decode cL_law 521 = .ok (.iconst 3, 1) := by decide +kernel
theorem dL_law_522 : decode cL_law 522 = .ok (.iadd, 1) := by decide +kernel
theorem dL_law_523 : decode cL_law 523 = .ok (.iaload, 1) := by decide +kernel
theorem dL_law_524 : decode cL_law 524 = .ok (.invokevirtual 64, 3) := by decide +kernel
theorem dL_law_527 : decode cL_law 527 = .ok (.aload_n 2, 1) := by decide +kernel
theorem dL_law_528 : decode cL_law 528 = .ok (.aload_n 0, 1) := by decide +kernel
theorem dL_law_529 : decode cL_law 529 = .ok (.iload_n 3, 1) := by decide +kernel
theorem dL_law_530 : decode cL_law 530 = .ok (.iconst 1, 1) := by decide +kernel
theorem dL_law_531 : decode cL_law 531 = .ok (.iadd, 1) := by decide +kernel
theorem dL_law_532 : decode cL_law 532 = .ok (.iaload, 1) := by decide +kernel
theorem dL_law_533 : decode cL_law 533 = .ok (.aload_n 0, 1) := by decide +kernel
theorem dL_law_534 : decode cL_law 534 = .ok (.iload_n 3, 1) := by decide +kernel
theorem dL_law_535 : decode cL_law 535 = .ok (.iconst 2, 1) := by decide +kernel
theorem dL_law_536 : decode cL_law 536 = .ok (.iadd, 1) := by decide +kernel
theorem dL_law_537 : decode cL_law 537 = .ok (.iaload, 1) := by decide +kernel
theorem dL_law_538 : decode cL_law 538 = .ok (.aload_n 0, 1) := by decide +kernel
theorem dL_law_539 : decode cL_law 539 = .ok (.iload_n 3, 1) := by decide +kernel
theorem dL_law_540 : decode cL_law 540 = .ok (.iconst 3, 1) := by decide +kernel
theorem dL_law_541 : decode cL_law 541 = .ok (.iadd, 1) := by decide +kernel
theorem dL_law_542 : decode cL_law 542 = .ok (.iaload, 1) := by decide +kernel
theorem dL_law_543 : decode cL_law 543 = .ok (.invokevirtual 68, 3) := by decide +kernel
theorem dL_law_546 : decode cL_law 546 = .ok (.if_icmp .eq 566, 3) := by decide +kernel
theorem dL_law_549 : decode cL_law 549 = .ok (.iconst 0, 1) := by decide +kernel
theorem dL_law_550 : decode cL_law 550 = .ok (.ireturn, 1) := by decide +kernel
theorem dL_law_551 : decode cL_law 551 = .ok (.aload_n 1, 1) := by decide +kernel
theorem dL_law_552 : decode cL_law 552 = .ok (.aload_n 0, 1) := by decide +kernel
theorem dL_law_553 : decode cL_law 553 = .ok (.iload_n 3, 1) := by decide +kernel
theorem dL_law_554 : decode cL_law 554 = .ok (.iconst 1, 1) := by decide +kernel
theorem dL_law_555 : decode cL_law 555 = .ok (.iadd, 1) := by decide +kernel
theorem dL_law_556 : decode cL_law 556 = .ok (.iaload, 1) := by decide +kernel
theorem dL_law_557 : decode cL_law 557 = .ok (.invokevirtual 69, 3) := by decide +kernel
theorem dL_law_560 : decode cL_law 560 = .ok (.aload_n 2, 1) := by decide +kernel
theorem dL_law_561 : decode cL_law 561 = .ok (.aload_n 0, 1) := by decide +kernel
theorem dL_law_562 : decode cL_law 562 = .ok (.iload_n 3, 1) := by decide +kernel
theorem dL_law_563 : decode cL_law 563 = .ok (.iconst 1, 1) := by decide +kernel
theorem dL_law_564 : decode cL_law 564 = .ok (.iadd, 1) := by decide +kernel
theorem dL_law_565 : decode cL_law 565 = .ok (.iaload, 1) := by decide +kernel
theorem dL_law_566 : decode cL_law 566 = .ok (.invokevirtual 72, 3) := by decide +kernel
theorem dL_law_569 : decode cL_law 569 = .ok (.if_icmp .eq 543, 3) := by decide +kernel
theorem dL_law_572 : decode cL_law 572 = .ok (.iconst 0, 1) := by decide +kernel
theorem dL_law_573 : decode cL_law 573 = .ok (.ireturn, 1) := by decide +kernel
theorem dL_law_574 : decode cL_law 574 = .ok (.aload_n 1, 1) := by decide +kernel
theorem dL_law_575 : decode cL_law 575 = .ok (.aload_n 0, 1) := by decide +kernel
theorem dL_law_576 : decode cL_law 576 = .ok (.iload_n 3, 1) := by decide +kernel
theorem dL_law_577 : decode cL_law 577 = .ok (.iconst 1, 1) := by decide +kernel
theorem dL_law_578 : decode cL_law 578 = .ok (.iadd, 1) := by decide +kernel
theorem dL_law_579 : decode cL_law 579 = .ok (.iaload, 1) := by decide +kernel
theorem dL_law_580 : decode cL_law 580 = .ok (.aload_n 0, 1) := by decide +kernel
theorem dL_law_581 : decode cL_law 581 = .ok (.iload_n 3, 1) := by decide +kernel
theorem dL_law_582 : decode cL_law 582 = .ok (.iconst 2, 1) := by decide +kernel
theorem dL_law_583 : decode cL_law 583 = .ok (.iadd, 1) := by decide +kernel
theorem dL_law_584 : decode cL_law 584 = .ok (.iaload, 1) := by decide +kernel
theorem dL_law_585 : decode cL_law 585 = .ok (.invokevirtual 73, 3) := by decide +kernel
theorem dL_law_588 : decode cL_law 588 = .ok (.aload_n 2, 1) := by decide +kernel
theorem dL_law_589 : decode cL_law 589 = .ok (.aload_n 0, 1) := by decide +kernel
theorem dL_law_590 : decode cL_law 590 = .ok (.iload_n 3, 1) := by decide +kernel
theorem dL_law_591 : decode cL_law 591 = .ok (.iconst 1, 1) := by decide +kernel
theorem dL_law_592 : decode cL_law 592 = .ok (.iadd, 1) := by decide +kernel
theorem dL_law_593 : decode cL_law 593 = .ok (.iaload, 1) := by decide +kernel
theorem dL_law_594 : decode cL_law 594 = .ok (.aload_n 0, 1) := by decide +kernel
theorem dL_law_595 : decode cL_law 595 = .ok (.iload_n 3, 1) := by decide +kernel
theorem dL_law_596 : decode cL_law 596 = .ok (.iconst 2, 1) := by decide +kernel
theorem dL_law_597 : decode cL_law 597 = .ok (.iadd, 1) := by decide +kernel
theorem dL_law_598 : decode cL_law 598 = .ok (.iaload, 1) := by decide +kernel
theorem dL_law_599 : decode cL_law 599 = .ok (.invokevirtual 76, 3) := by decide +kernel
theorem dL_law_602 : decode cL_law 602 = .ok (.if_icmp .eq 510, 3) := by decide +kernel
theorem dL_law_605 : decode cL_law 605 = .ok (.iconst 0, 1) := by decide +kernel
theorem dL_law_606 : decode cL_law 606 = .ok (.ireturn, 1) := by decide +kernel
theorem dL_law_607 : decode cL_law 607 = .ok (.aload_n 1, 1) := by decide +kernel
theorem dL_law_608 : decode cL_law 608 = .ok (.aload_n 0, 1) := by decide +kernel
theorem dL_law_609 : decode cL_law 609 = .ok (.iload_n 3, 1) := by decide +kernel
theorem dL_law_610 : decode cL_law 610 = .ok (.iconst 1, 1) := by decide +kernel
theorem dL_law_611 : decode cL_law 611 = .ok (.iadd, 1) := by decide +kernel
theorem dL_law_612 : decode cL_law 612 = .ok (.iaload, 1) := by decide +kernel
theorem dL_law_613 : decode cL_law 613 = .ok (.invokevirtual 77, 3) := by decide +kernel
theorem dL_law_616 : decode cL_law 616 = .ok (.aload_n 2, 1) := by decide +kernel
theorem dL_law_617 : decode cL_law 617 = .ok (.aload_n 0, 1) := by decide +kernel
theorem dL_law_618 : decode cL_law 618 = .ok (.iload_n 3, 1) := by decide +kernel
theorem dL_law_619 : decode cL_law 619 = .ok (.iconst 1, 1) := by decide +kernel
theorem dL_law_620 : decode cL_law 620 = .ok (.iadd, 1) := by decide +kernel
theorem dL_law_621 : decode cL_law 621 = .ok (.iaload, 1) := by decide +kernel
theorem dL_law_622 : decode cL_law 622 = .ok (.invokevirtual 80, 3) := by decide +kernel
theorem dL_law_625 : decode cL_law 625 = .ok (.if_icmp .eq 487, 3) := by decide +kernel
theorem dL_law_628 : decode cL_law 628 = .ok (.iconst 0, 1) := by decide +kernel
theorem dL_law_629 : decode cL_law 629 = .ok (.ireturn, 1) := by decide +kernel
theorem dL_law_630 : decode cL_law 630 = .ok (.aload_n 1, 1) := by decide +kernel
theorem dL_law_631 : decode cL_law 631 = .ok (.aload_n 0, 1) := by decide +kernel
theorem dL_law_632 : decode cL_law 632 = .ok (.iload_n 3, 1) := by decide +kernel
theorem dL_law_633 : decode cL_law 633 = .ok (.iconst 1, 1) := by decide +kernel
theorem dL_law_634 : decode cL_law 634 = .ok (.iadd, 1) := by decide +kernel
theorem dL_law_635 : decode cL_law 635 = .ok (.iaload, 1) := by decide +kernel
theorem dL_law_636 : decode cL_law 636 = .ok (.invokevirtual 81, 3) := by decide +kernel
theorem dL_law_639 : decode cL_law 639 = .ok (.aload_n 2, 1) := by decide +kernel
theorem dL_law_640 : decode cL_law 640 = .ok (.aload_n 0, 1) := by decide +kernel
theorem dL_law_641 : decode cL_law 641 = .ok (.iload_n 3, 1) := by decide +kernel
theorem dL_law_642 : decode cL_law 642 = .ok (.iconst 1, 1) := by decide +kernel
theorem dL_law_643 : decode cL_law 643 = .ok (.iadd, 1) := by decide +kernel
theorem dL_law_644 : decode cL_law 644 = .ok (.iaload, 1) := by decide +kernel
theorem dL_law_645 : decode cL_law 645 = .ok (.invokevirtual 84, 3) := by decide +kernel
theorem dL_law_648 : decode cL_law 648 = .ok (.if_icmp .eq 464, 3) := by decide +kernel
theorem dL_law_651 : decode cL_law 651 = .ok (.iconst 0, 1) := by decide +kernel
theorem dL_law_652 : decode cL_law 652 = .ok (.ireturn, 1) := by decide +kernel
theorem dL_law_653 : decode cL_law 653 = .ok (.aload_n 1, 1) := by decide +kernel
theorem dL_law_654 : decode cL_law 654 = .ok (.invokevirtual 85, 3) := by decide +kernel
theorem dL_law_657 : decode cL_law 657 = .ok (.aload_n 2, 1) := by decide +kernel
theorem dL_law_658 : decode cL_law 658 = .ok (.invokevirtual 88, 3) := by decide +kernel
theorem dL_law_661 : decode cL_law 661 = .ok (.if_icmp .eq 451, 3) := by decide +kernel
theorem dL_law_664 : decode cL_law 664 = .ok (.iconst 0, 1) := by decide +kernel
theorem dL_law_665 : decode cL_law 665 = .ok (.ireturn, 1) := by decide +kernel
theorem dL_law_666 : decode cL_law 666 = .ok (.aload_n 1, 1) := by decide +kernel
theorem dL_law_667 : decode cL_law 667 = .ok (.aload_n 0, 1) := by decide +kernel
theorem dL_law_668 : decode cL_law 668 = .ok (.iload_n 3, 1) := by decide +kernel
theorem dL_law_669 : decode cL_law 669 = .ok (.iconst 1, 1) := by decide +kernel
theorem dL_law_670 : decode cL_law 670 = .ok (.iadd, 1) := by decide +kernel
theorem dL_law_671 : decode cL_law 671 = .ok (.iaload, 1) := by decide +kernel
theorem dL_law_672 : decode cL_law 672 = .ok (.aload_n 0, 1) := by decide +kernel
theorem dL_law_673 : decode cL_law 673 = .ok (.iload_n 3, 1) := by decide +kernel
theorem dL_law_674 : decode cL_law 674 = .ok (.iconst 2, 1) := by decide +kernel
theorem dL_law_675 : decode cL_law 675 = .ok (.iadd, 1) := by decide +kernel
theorem dL_law_676 : decode cL_law 676 = .ok (.iaload, 1) := by decide +kernel
theorem dL_law_677 : decode cL_law 677 = .ok (.invokevirtual 89, 3) := by decide +kernel
theorem dL_law_680 : decode cL_law 680 = .ok (.aload_n 2, 1) := by decide +kernel
theorem dL_law_681 : decode cL_law 681 = .ok (.aload_n 0, 1) := by decide +kernel
theorem dL_law_682 : decode cL_law 682 = .ok (.iload_n 3, 1) := by decide +kernel
theorem dL_law_683 : decode cL_law 683 = .ok (.iconst 1, 1) := by decide +kernel
theorem dL_law_684 : decode cL_law 684 = .ok (.iadd, 1) := by decide +kernel
theorem dL_law_685 : decode cL_law 685 = .ok (.iaload, 1) := by decide +kernel
theorem dL_law_686 : decode cL_law 686 = .ok (.aload_n 0, 1) := by decide +kernel
theorem dL_law_687 : decode cL_law 687 = .ok (.iload_n 3, 1) := by decide +kernel
theorem dL_law_688 : decode cL_law 688 = .ok (.iconst 2, 1) := by decide +kernel
theorem dL_law_689 : decode cL_law 689 = .ok (.iadd, 1) := by decide +kernel
theorem dL_law_690 : decode cL_law 690 = .ok (.iaload, 1) := by decide +kernel
theorem dL_law_691 : decode cL_law 691 = .ok (.invokevirtual 92, 3) := by decide +kernel
theorem dL_law_694 : decode cL_law 694 = .ok (.if_icmp .eq 418, 3) := by decide +kernel
theorem dL_law_697 : decode cL_law 697 = .ok (.iconst 0, 1) := by decide +kernel
theorem dL_law_698 : decode cL_law 698 = .ok (.ireturn, 1) := by decide +kernel
theorem dL_law_699 : decode cL_law 699 = .ok (.aload_n 1, 1) := by decide +kernel
theorem dL_law_700 : decode cL_law 700 = .ok (.invokevirtual 93, 3) := by decide +kernel
theorem dL_law_703 : decode cL_law 703 = .ok (.aload_n 2, 1) := by decide +kernel
theorem dL_law_704 : decode cL_law 704 = .ok (.invokevirtual 96, 3) := by decide +kernel
theorem dL_law_707 : decode cL_law 707 = .ok (.if_icmp .eq 405, 3) := by decide +kernel
theorem dL_law_710 : decode cL_law 710 = .ok (.iconst 0, 1) := by decide +kernel
theorem dL_law_711 : decode cL_law 711 = .ok (.ireturn, 1) := by decide +kernel
theorem dL_law_712 : decode cL_law 712 = .ok (.aload_n 1, 1) := by decide +kernel
theorem dL_law_713 : decode cL_law 713 = .ok (.aload_n 0, 1) := by decide +kernel
theorem dL_law_714 : decode cL_law 714 = .ok (.iload_n 3, 1) := by decide +kernel
theorem dL_law_715 : decode cL_law 715 = .ok (.iconst 1, 1) := by decide +kernel
theorem dL_law_716 : decode cL_law 716 = .ok (.iadd, 1) := by decide +kernel
theorem dL_law_717 : decode cL_law 717 = .ok (.iaload, 1) := by decide +kernel
theorem dL_law_718 : decode cL_law 718 = .ok (.invokevirtual 97, 3) := by decide +kernel
theorem dL_law_721 : decode cL_law 721 = .ok (.aload_n 2, 1) := by decide +kernel
theorem dL_law_722 : decode cL_law 722 = .ok (.aload_n 0, 1) := by decide +kernel
theorem dL_law_723 : decode cL_law 723 = .ok (.iload_n 3, 1) := by decide +kernel
theorem dL_law_724 : decode cL_law 724 = .ok (.iconst 1, 1) := by decide +kernel
theorem dL_law_725 : decode cL_law 725 = .ok (.iadd, 1) := by decide +kernel
theorem dL_law_726 : decode cL_law 726 = .ok (.iaload, 1) := by decide +kernel
theorem dL_law_727 : decode cL_law 727 = .ok (.invokevirtual 100, 3) := by decide +kernel
theorem dL_law_730 : decode cL_law 730 = .ok (.if_icmp .eq 382, 3) := by decide +kernel
theorem dL_law_733 : decode cL_law 733 = .ok (.iconst 0, 1) := by decide +kernel
theorem dL_law_734 : decode cL_law 734 = .ok (.ireturn, 1) := by decide +kernel
theorem dL_law_735 : decode cL_law 735 = .ok (.aload_n 1, 1) := by decide +kernel
theorem dL_law_736 : decode cL_law 736 = .ok (.invokevirtual 101, 3) := by decide +kernel
theorem dL_law_739 : decode cL_law 739 = .ok (.aload_n 2, 1) := by decide +kernel
theorem dL_law_740 : decode cL_law 740 = .ok (.invokevirtual 104, 3) := by decide +kernel
theorem dL_law_743 : decode cL_law 743 = .ok (.if_icmp .eq 369, 3) := by decide +kernel
theorem dL_law_746 : decode cL_law 746 = .ok (.iconst 0, 1) := by decide +kernel
theorem dL_law_747 : decode cL_law 747 = .ok (.ireturn, 1) := by decide +kernel
theorem dL_law_748 : decode cL_law 748 = .ok (.aload_n 1, 1) := by decide +kernel
theorem dL_law_749 : decode cL_law 749 = .ok (.aload_n 0, 1) := by decide +kernel
theorem dL_law_750 : decode cL_law 750 = .ok (.iload_n 3, 1) := by decide +kernel
theorem dL_law_751 : decode cL_law 751 = .ok (.iconst 1, 1) := by decide +kernel
theorem dL_law_752 : decode cL_law 752 = .ok (.iadd, 1) := by decide +kernel
theorem dL_law_753 : decode cL_law 753 = .ok (.iaload, 1) := by decide +kernel
theorem dL_law_754 : decode cL_law 754 = .ok (.aload_n 0, 1) := by decide +kernel
theorem dL_law_755 : decode cL_law 755 = .ok (.iload_n 3, 1) := by decide +kernel
theorem dL_law_756 : decode cL_law 756 = .ok (.iconst 2, 1) := by decide +kernel
theorem dL_law_757 : decode cL_law 757 = .ok (.iadd, 1) := by decide +kernel
theorem dL_law_758 : decode cL_law 758 = .ok (.iaload, 1) := by decide +kernel
theorem dL_law_759 : decode cL_law 759 = .ok (.invokevirtual 105, 3) := by decide +kernel
theorem dL_law_762 : decode cL_law 762 = .ok (.aload_n 2, 1) := by decide +kernel
theorem dL_law_763 : decode cL_law 763 = .ok (.aload_n 0, 1) := by decide +kernel
theorem dL_law_764 : decode cL_law 764 = .ok (.iload_n 3, 1) := by decide +kernel
theorem dL_law_765 : decode cL_law 765 = .ok (.iconst 1, 1) := by decide +kernel
theorem dL_law_766 : decode cL_law 766 = .ok (.iadd, 1) := by decide +kernel
theorem dL_law_767 : decode cL_law 767 = .ok (.iaload, 1) := by decide +kernel
theorem dL_law_768 : decode cL_law 768 = .ok (.aload_n 0, 1) := by decide +kernel
theorem dL_law_769 : decode cL_law 769 = .ok (.iload_n 3, 1) := by decide +kernel
theorem dL_law_770 : decode cL_law 770 = .ok (.iconst 2, 1) := by decide +kernel
theorem dL_law_771 : decode cL_law 771 = .ok (.iadd, 1) := by decide +kernel
theorem dL_law_772 : decode cL_law 772 = .ok (.iaload, 1) := by decide +kernel
theorem dL_law_773 : decode cL_law 773 = .ok (.invokevirtual 108, 3) := by decide +kernel
theorem dL_law_776 : decode cL_law 776 = .ok (.if_icmp .eq 336, 3) := by decide +kernel
theorem dL_law_779 : decode cL_law 779 = .ok (.iconst 0, 1) := by decide +kernel
theorem dL_law_780 : decode cL_law 780 = .ok (.ireturn, 1) := by decide +kernel
theorem dL_law_781 : decode cL_law 781 = .ok (.aload_n 1, 1) := by decide +kernel
theorem dL_law_782 : decode cL_law 782 = .ok (.invokevirtual 109, 3) := by decide +kernel
theorem dL_law_785 : decode cL_law 785 = .ok (.aload_n 2, 1) := by decide +kernel
theorem dL_law_786 : decode cL_law 786 = .ok (.invokevirtual 112, 3) := by decide +kernel
theorem dL_law_789 : decode cL_law 789 = .ok (.if_icmp .eq 323, 3) := by decide +kernel
theorem dL_law_792 : decode cL_law 792 = .ok (.iconst 0, 1) := by decide +kernel
theorem dL_law_793 : decode cL_law 793 = .ok (.ireturn, 1) := by decide +kernel
theorem dL_law_794 : decode cL_law 794 = .ok (.aload_n 1, 1) := by decide +kernel
theorem dL_law_795 : decode cL_law 795 = .ok (.aload_n 0, 1) := by decide +kernel
theorem dL_law_796 : decode cL_law 796 = .ok (.iload_n 3, 1) := by decide +kernel
theorem dL_law_797 : decode cL_law 797 = .ok (.iconst 1, 1) := by decide +kernel
theorem dL_law_798 : decode cL_law 798 = .ok (.iadd, 1) := by decide +kernel
theorem dL_law_799 : decode cL_law 799 = .ok (.iaload, 1) := by decide +kernel
theorem dL_law_800 : decode cL_law 800 = .ok (.aload_n 0, 1) := by decide +kernel
theorem dL_law_801 : decode cL_law 801 = .ok (.iload_n 3, 1) := by decide +kernel
theorem dL_law_802 : decode cL_law 802 = .ok (.iconst 2, 1) := by decide +kernel
theorem dL_law_803 : decode cL_law 803 = .ok (.iadd, 1) := by decide +kernel
theorem dL_law_804 : decode cL_law 804 = .ok (.iaload, 1) := by decide +kernel
theorem dL_law_805 : decode cL_law 805 = .ok (.invokevirtual 113, 3) := by decide +kernel
theorem dL_law_808 : decode cL_law 808 = .ok (.aload_n 2, 1) := by decide +kernel
theorem dL_law_809 : decode cL_law 809 = .ok (.aload_n 0, 1) := by decide +kernel
theorem dL_law_810 : decode cL_law 810 = .ok (.iload_n 3, 1) := by decide +kernel
theorem dL_law_811 : decode cL_law 811 = .ok (.iconst 1, 1) := by decide +kernel
theorem dL_law_812 : decode cL_law 812 = .ok (.iadd, 1) := by decide +kernel
theorem dL_law_813 : decode cL_law 813 = .ok (.iaload, 1) := by decide +kernel
theorem dL_law_814 : decode cL_law 814 = .ok (.aload_n 0, 1) := by decide +kernel
theorem dL_law_815 : decode cL_law 815 = .ok (.iload_n 3, 1) := by decide +kernel
theorem dL_law_816 : decode cL_law 816 = .ok (.iconst 2, 1) := by decide +kernel
theorem dL_law_817 : decode cL_law 817 = .ok (.iadd, 1) := by decide +kernel
theorem dL_law_818 : decode cL_law 818 = .ok (.iaload, 1) := by decide +kernel
theorem dL_law_819 : decode cL_law 819 = .ok (.invokevirtual 116, 3) := by decide +kernel
theorem dL_law_822 : decode cL_law 822 = .ok (.if_icmp .eq 290, 3) := by decide +kernel
theorem dL_law_825 : decode cL_law 825 = .ok (.iconst 0, 1) := by decide +kernel
theorem dL_law_826 : decode cL_law 826 = .ok (.ireturn, 1) := by decide +kernel
theorem dL_law_827 : decode cL_law 827 = .ok (.aload_n 1, 1) := by decide +kernel
theorem dL_law_828 : decode cL_law 828 = .ok (.aload_n 0, 1) := by decide +kernel
theorem dL_law_829 : decode cL_law 829 = .ok (.iload_n 3, 1) := by decide +kernel
theorem dL_law_830 : decode cL_law 830 = .ok (.iconst 1, 1) := by decide +kernel
theorem dL_law_831 : decode cL_law 831 = .ok (.iadd, 1) := by decide +kernel
theorem dL_law_832 : decode cL_law 832 = .ok (.iaload, 1) := by decide +kernel
theorem dL_law_833 : decode cL_law 833 = .ok (.invokevirtual 117, 3) := by decide +kernel
theorem dL_law_836 : decode cL_law 836 = .ok (.aload_n 2, 1) := by decide +kernel
theorem dL_law_837 : decode cL_law 837 = .ok (.aload_n 0, 1) := by decide +kernel
theorem dL_law_838 : decode cL_law 838 = .ok (.iload_n 3, 1) := by decide +kernel
theorem dL_law_839 : decode cL_law 839 = .ok (.iconst 1, 1) := by decide +kernel
theorem dL_law_840 : decode cL_law 840 = .ok (.iadd, 1) := by decide +kernel
theorem dL_law_841 : decode cL_law 841 = .ok (.iaload, 1) := by decide +kernel
theorem dL_law_842 : decode cL_law 842 = .ok (.invokevirtual 120, 3) := by decide +kernel
theorem dL_law_845 : decode cL_law 845 = .ok (.if_icmp .eq 267, 3) := by decide +kernel
theorem dL_law_848 : decode cL_law 848 = .ok (.iconst 0, 1) := by decide +kernel
theorem dL_law_849 : decode cL_law 849 = .ok (.ireturn, 1) := by decide +kernel
theorem dL_law_850 : decode cL_law 850 = .ok (.aload_n 1, 1) := by decide +kernel
theorem dL_law_851 : decode cL_law 851 = .ok (.aload_n 0, 1) := by decide +kernel
theorem dL_law_852 : decode cL_law 852 = .ok (.iload_n 3, 1) := by decide +kernel
theorem dL_law_853 : decode cL_law 853 = .ok (.iconst 1, 1) := by decide +kernel
theorem dL_law_854 : decode cL_law 854 = .ok (.iadd, 1) := by decide +kernel
theorem dL_law_855 : decode cL_law 855 = .ok (.iaload, 1) := by decide +kernel
theorem dL_law_856 : decode cL_law 856 = .ok (.aload_n 0, 1) := by decide +kernel
theorem dL_law_857 : decode cL_law 857 = .ok (.iload_n 3, 1) := by decide +kernel
theorem dL_law_858 : decode cL_law 858 = .ok (.iconst 2, 1) := by decide +kernel
theorem dL_law_859 : decode cL_law 859 = .ok (.iadd, 1) := by decide +kernel
theorem dL_law_860 : decode cL_law 860 = .ok (.iaload, 1) := by decide +kernel
theorem dL_law_861 : decode cL_law 861 = .ok (.invokevirtual 121, 3) := by decide +kernel
theorem dL_law_864 : decode cL_law 864 = .ok (.aload_n 2, 1) := by decide +kernel
theorem dL_law_865 : decode cL_law 865 = .ok (.aload_n 0, 1) := by decide +kernel
theorem dL_law_866 : decode cL_law 866 = .ok (.iload_n 3, 1) := by decide +kernel
theorem dL_law_867 : decode cL_law 867 = .ok (.iconst 1, 1) := by decide +kernel
theorem dL_law_868 : decode cL_law 868 = .ok (.iadd, 1) := by decide +kernel
theorem dL_law_869 : decode cL_law 869 = .ok (.iaload, 1) := by decide +kernel
theorem dL_law_870 : decode cL_law 870 = .ok (.aload_n 0, 1) := by decide +kernel
theorem dL_law_871 : decode cL_law 871 = .ok (.iload_n 3, 1) := by decide +kernel
theorem dL_law_872 : decode cL_law 872 = .ok (.iconst 2, 1) := by decide +kernel
theorem dL_law_873 : decode cL_law 873 = .ok (.iadd, 1) := by decide +kernel
theorem dL_law_874 : decode cL_law 874 = .ok (.iaload, 1) := by decide +kernel
theorem dL_law_875 : decode cL_law 875 = .ok (.invokevirtual 124, 3) := by decide +kernel
theorem dL_law_878 : decode cL_law 878 = .ok (.if_icmp .eq 234, 3) := by decide +kernel
theorem dL_law_881 : decode cL_law 881 = .ok (.iconst 0, 1) := by decide +kernel
theorem dL_law_882 : decode cL_law 882 = .ok (.ireturn, 1) := by decide +kernel
theorem dL_law_883 : decode cL_law 883 = .ok (.aload_n 1, 1) := by decide +kernel
theorem dL_law_884 : decode cL_law 884 = .ok (.aload_n 0, 1) := by decide +kernel
theorem dL_law_885 : decode cL_law 885 = .ok (.iload_n 3, 1) := by decide +kernel
theorem dL_law_886 : decode cL_law 886 = .ok (.iconst 1, 1) := by decide +kernel
theorem dL_law_887 : decode cL_law 887 = .ok (.iadd, 1) := by decide +kernel
theorem dL_law_888 : decode cL_law 888 = .ok (.iaload, 1) := by decide +kernel
theorem dL_law_889 : decode cL_law 889 = .ok (.invokevirtual 125, 3) := by decide +kernel
theorem dL_law_892 : decode cL_law 892 = .ok (.aload_n 2, 1) := by decide +kernel
theorem dL_law_893 : decode cL_law 893 = .ok (.aload_n 0, 1) := by decide +kernel
theorem dL_law_894 : decode cL_law 894 = .ok (.iload_n 3, 1) := by decide +kernel
theorem dL_law_895 : decode cL_law 895 = .ok (.iconst 1, 1) := by decide +kernel
theorem dL_law_896 : decode cL_law 896 = .ok (.iadd, 1) := by decide +kernel
theorem dL_law_897 : decode cL_law 897 = .ok (.iaload, 1) := by decide +kernel
theorem dL_law_898 : decode cL_law 898 = .ok (.invokevirtual 128, 3) := by decide +kernel
theorem dL_law_901 : decode cL_law 901 = .ok (.if_icmp .eq 211, 3) := by decide +kernel
theorem dL_law_904 : decode cL_law 904 = .ok (.iconst 0, 1) := by decide +kernel
theorem dL_law_905 : decode cL_law 905 = .ok (.ireturn, 1) := by decide +kernel
theorem dL_law_906 : decode cL_law 906 = .ok (.aload_n 1, 1) := by decide +kernel
theorem dL_law_907 : decode cL_law 907 = .ok (.aload_n 0, 1) := by decide +kernel
theorem dL_law_908 : decode cL_law 908 = .ok (.iload_n 3, 1) := by decide +kernel
theorem dL_law_909 : decode cL_law 909 = .ok (.iconst 1, 1) := by decide +kernel
theorem dL_law_910 : decode cL_law 910 = .ok (.iadd, 1) := by decide +kernel
theorem dL_law_911 : decode cL_law 911 = .ok (.iaload, 1) := by decide +kernel
theorem dL_law_912 : decode cL_law 912 = .ok (.aload_n 0, 1) := by decide +kernel
theorem dL_law_913 : decode cL_law 913 = .ok (.iload_n 3, 1) := by decide +kernel
theorem dL_law_914 : decode cL_law 914 = .ok (.iconst 2, 1) := by decide +kernel
theorem dL_law_915 : decode cL_law 915 = .ok (.iadd, 1) := by decide +kernel
theorem dL_law_916 : decode cL_law 916 = .ok (.iaload, 1) := by decide +kernel
theorem dL_law_917 : decode cL_law 917 = .ok (.invokevirtual 129, 3) := by decide +kernel
theorem dL_law_920 : decode cL_law 920 = .ok (.aload_n 2, 1) := by decide +kernel
theorem dL_law_921 : decode cL_law 921 = .ok (.aload_n 0, 1) := by decide +kernel
theorem dL_law_922 : decode cL_law 922 = .ok (.iload_n 3, 1) := by decide +kernel
theorem dL_law_923 : decode cL_law 923 = .ok (.iconst 1, 1) := by decide +kernel
theorem dL_law_924 : decode cL_law 924 = .ok (.iadd, 1) := by decide +kernel
theorem dL_law_925 : decode cL_law 925 = .ok (.iaload, 1) := by decide +kernel
theorem dL_law_926 : decode cL_law 926 = .ok (.aload_n 0, 1) := by decide +kernel
theorem dL_law_927 : decode cL_law 927 = .ok (.iload_n 3, 1) := by decide +kernel
theorem dL_law_928 : decode cL_law 928 = .ok (.iconst 2, 1) := by decide +kernel
theorem dL_law_929 : decode cL_law 929 = .ok (.iadd, 1) := by decide +kernel
theorem dL_law_930 : decode cL_law 930 = .ok (.iaload, 1) := by decide +kernel
theorem dL_law_931 : decode cL_law 931 = .ok (.invokevirtual 132, 3) := by decide +kernel
theorem dL_law_934 : decode cL_law 934 = .ok (.if_icmp .eq 178, 3) := by decide +kernel
theorem dL_law_937 : decode cL_law 937 = .ok (.iconst 0, 1) := by decide +kernel
theorem dL_law_938 : decode cL_law 938 = .ok (.ireturn, 1) := by decide +kernel
theorem dL_law_939 : decode cL_law 939 = .ok (.aload_n 1, 1) := by decide +kernel
theorem dL_law_940 : decode cL_law 940 = .ok (.aload_n 0, 1) := by decide +kernel
theorem dL_law_941 : decode cL_law 941 = .ok (.iload_n 3, 1) := by decide +kernel
theorem dL_law_942 : decode cL_law 942 = .ok (.iconst 1, 1) := by decide +kernel
theorem dL_law_943 : decode cL_law 943 = .ok (.iadd, 1) := by decide +kernel
theorem dL_law_944 : decode cL_law 944 = .ok (.iaload, 1) := by decide +kernel
theorem dL_law_945 : decode cL_law 945 = .ok (.aload_n 0, 1) := by decide +kernel
theorem dL_law_946 : decode cL_law 946 = .ok (.iload_n 3, 1) := by decide +kernel
theorem dL_law_947 : decode cL_law 947 = .ok (.iconst 2, 1) := by decide +kernel
theorem dL_law_948 : decode cL_law 948 = .ok (.iadd, 1) := by decide +kernel
theorem dL_law_949 : decode cL_law 949 = .ok (.iaload, 1) := by decide +kernel
theorem dL_law_950 : decode cL_law 950 = .ok (.invokevirtual 133, 3) := by decide +kernel
theorem dL_law_953 : decode cL_law 953 = .ok (.aload_n 2, 1) := by decide +kernel
theorem dL_law_954 : decode cL_law 954 = .ok (.aload_n 0, 1) := by decide +kernel
theorem dL_law_955 : decode cL_law 955 = .ok (.iload_n 3, 1) := by decide +kernel
theorem dL_law_956 : decode cL_law 956 = .ok (.iconst 1, 1) := by decide +kernel
theorem dL_law_957 : decode cL_law 957 = .ok (.iadd, 1) := by decide +kernel
theorem dL_law_958 : decode cL_law 958 = .ok (.iaload, 1) := by decide +kernel
theorem dL_law_959 : decode cL_law 959 = .ok (.aload_n 0, 1) := by decide +kernel
theorem dL_law_960 : decode cL_law 960 = .ok (.iload_n 3, 1) := by decide +kernel
theorem dL_law_961 : decode cL_law 961 = .ok (.iconst 2, 1) := by decide +kernel
theorem dL_law_962 : decode cL_law 962 = .ok (.iadd, 1) := by decide +kernel
theorem dL_law_963 : decode cL_law 963 = .ok (.iaload, 1) := by decide +kernel
theorem dL_law_964 : decode cL_law 964 = .ok (.invokevirtual 136, 3) := by decide +kernel
theorem dL_law_967 : decode cL_law 967 = .ok (.if_icmp .eq 145, 3) := by decide +kernel
theorem dL_law_970 : decode cL_law 970 = .ok (.iconst 0, 1) := by decide +kernel
theorem dL_law_971 : decode cL_law 971 = .ok (.ireturn, 1) := by decide +kernel
theorem dL_law_972 : decode cL_law 972 = .ok (.aload_n 1, 1) := by decide +kernel
theorem dL_law_973 : decode cL_law 973 = .ok (.aload_n 0, 1) := by decide +kernel
theorem dL_law_974 : decode cL_law 974 = .ok (.iload_n 3, 1) := by decide +kernel
theorem dL_law_975 : decode cL_law 975 = .ok (.iconst 1, 1) := by decide +kernel
theorem dL_law_976 : decode cL_law 976 = .ok (.iadd, 1) := by decide +kernel
theorem dL_law_977 : decode cL_law 977 = .ok (.iaload, 1) := by decide +kernel
theorem dL_law_978 : decode cL_law 978 = .ok (.aload_n 0, 1) := by decide +kernel
theorem dL_law_979 : decode cL_law 979 = .ok (.iload_n 3, 1) := by decide +kernel
theorem dL_law_980 : decode cL_law 980 = .ok (.iconst 2, 1) := by decide +kernel
theorem dL_law_981 : decode cL_law 981 = .ok (.iadd, 1) := by decide +kernel
theorem dL_law_982 : decode cL_law 982 = .ok (.iaload, 1) := by decide +kernel
theorem dL_law_983 : decode cL_law 983 = .ok (.invokevirtual 137, 3) := by decide +kernel
theorem dL_law_986 : decode cL_law 986 = .ok (.aload_n 2, 1) := by decide +kernel
theorem dL_law_987 : decode cL_law 987 = .ok (.aload_n 0, 1) := by decide +kernel
theorem dL_law_988 : decode cL_law 988 = .ok (.iload_n 3, 1) := by decide +kernel
theorem dL_law_989 : decode cL_law 989 = .ok (.iconst 1, 1) := by decide +kernel
theorem dL_law_990 : decode cL_law 990 = .ok (.iadd, 1) := by decide +kernel
theorem dL_law_991 : decode cL_law 991 = .ok (.iaload, 1) := by decide +kernel
theorem dL_law_992 : decode cL_law 992 = .ok (.aload_n 0, 1) := by decide +kernel
theorem dL_law_993 : decode cL_law 993 = .ok (.iload_n 3, 1) := by decide +kernel
theorem dL_law_994 : decode cL_law 994 = .ok (.iconst 2, 1) := by decide +kernel
theorem dL_law_995 : decode cL_law 995 = .ok (.iadd, 1) := by decide +kernel
theorem dL_law_996 : decode cL_law 996 = .ok (.iaload, 1) := by decide +kernel
theorem dL_law_997 : decode cL_law 997 = .ok (.invokevirtual 140, 3) := by decide +kernel
theorem dL_law_1000 : decode cL_law 1000 = .ok (.if_icmp .eq 112, 3) := by decide +kernel
theorem dL_law_1003 : decode cL_law 1003 = .ok (.iconst 0, 1) := by decide +kernel
theorem dL_law_1004 : decode cL_law 1004 = .ok (.ireturn, 1) := by decide +kernel
theorem dL_law_1005 : decode cL_law 1005 = .ok (.aload_n 1, 1) := by decide +kernel
theorem dL_law_1006 : decode cL_law 1006 = .ok (.aload_n 0, 1) := by decide +kernel
theorem dL_law_1007 : decode cL_law 1007 = .ok (.iload_n 3, 1) := by decide +kernel
theorem dL_law_1008 : decode cL_law 1008 = .ok (.iconst 1, 1) := by decide +kernel
theorem dL_law_1009 : decode cL_law 1009 = .ok (.iadd, 1) := by decide +kernel
theorem dL_law_1010 : decode cL_law 1010 = .ok (.iaload, 1) := by decide +kernel
theorem dL_law_1011 : decode cL_law 1011 = .ok (.aload_n 0, 1) := by decide +kernel
theorem dL_law_1012 : decode cL_law 1012 = .ok (.iload_n 3, 1) := by decide +kernel
theorem dL_law_1013 : decode cL_law 1013 = .ok (.iconst 2, 1) := by decide +kernel
theorem dL_law_1014 : decode cL_law 1014 = .ok (.iadd, 1) := by decide +kernel
theorem dL_law_1015 : decode cL_law 1015 = .ok (.iaload, 1) := by decide +kernel
theorem dL_law_1016 : decode cL_law 1016 = .ok (.invokevirtual 141, 3) := by decide +kernel
theorem dL_law_1019 : decode cL_law 1019 = .ok (.aload_n 2, 1) := by decide +kernel
theorem dL_law_1020 : decode cL_law 1020 = .ok (.aload_n 0, 1) := by decide +kernel
theorem dL_law_1021 : decode cL_law 1021 = .ok (.iload_n 3, 1) := by decide +kernel
theorem dL_law_1022 : decode cL_law 1022 = .ok (.iconst 1, 1) := by decide +kernel
theorem dL_law_1023 : decode cL_law 1023 = .ok (.iadd, 1) := by decide +kernel
theorem dL_law_1024 : decode cL_law 1024 = .ok (.iaload, 1) := by decide +kernel
theorem dL_law_1025 : decode cL_law 1025 = .ok (.aload_n 0, 1) := by decide +kernel
theorem dL_law_1026 : decode cL_law 1026 = .ok (.iload_n 3, 1) := by decide +kernel
theorem dL_law_1027 : decode cL_law 1027 = .ok (.iconst 2, 1) := by decide +kernel
theorem dL_law_1028 : decode cL_law 1028 = .ok (.iadd, 1) := by decide +kernel
theorem dL_law_1029 : decode cL_law 1029 = .ok (.iaload, 1) := by decide +kernel
theorem dL_law_1030 : decode cL_law 1030 = .ok (.invokevirtual 145, 3) := by decide +kernel
theorem dL_law_1033 : decode cL_law 1033 = .ok (.lcmp, 1) := by decide +kernel
theorem dL_law_1034 : decode cL_law 1034 = .ok (.ifCond .eq 78, 3) := by decide +kernel
theorem dL_law_1037 : decode cL_law 1037 = .ok (.iconst 0, 1) := by decide +kernel
theorem dL_law_1038 : decode cL_law 1038 = .ok (.ireturn, 1) := by decide +kernel
theorem dL_law_1039 : decode cL_law 1039 = .ok (.aload_n 1, 1) := by decide +kernel
theorem dL_law_1040 : decode cL_law 1040 = .ok (.aload_n 0, 1) := by decide +kernel
theorem dL_law_1041 : decode cL_law 1041 = .ok (.iload_n 3, 1) := by decide +kernel
theorem dL_law_1042 : decode cL_law 1042 = .ok (.iconst 1, 1) := by decide +kernel
theorem dL_law_1043 : decode cL_law 1043 = .ok (.iadd, 1) := by decide +kernel
theorem dL_law_1044 : decode cL_law 1044 = .ok (.iaload, 1) := by decide +kernel
theorem dL_law_1045 : decode cL_law 1045 = .ok (.invokevirtual 146, 3) := by decide +kernel
theorem dL_law_1048 : decode cL_law 1048 = .ok (.aload_n 2, 1) := by decide +kernel
theorem dL_law_1049 : decode cL_law 1049 = .ok (.aload_n 0, 1) := by decide +kernel
theorem dL_law_1050 : decode cL_law 1050 = .ok (.iload_n 3, 1) := by decide +kernel
theorem dL_law_1051 : decode cL_law 1051 = .ok (.iconst 1, 1) := by decide +kernel
theorem dL_law_1052 : decode cL_law 1052 = .ok (.iadd, 1) := by decide +kernel
theorem dL_law_1053 : decode cL_law 1053 = .ok (.iaload, 1) := by decide +kernel
theorem dL_law_1054 : decode cL_law 1054 = .ok (.invokevirtual 150, 3) := by decide +kernel
theorem dL_law_1057 : decode cL_law 1057 = .ok (.lcmp, 1) := by decide +kernel
theorem dL_law_1058 : decode cL_law 1058 = .ok (.ifCond .eq 54, 3) := by decide +kernel
theorem dL_law_1061 : decode cL_law 1061 = .ok (.iconst 0, 1) := by decide +kernel
theorem dL_law_1062 : decode cL_law 1062 = .ok (.ireturn, 1) := by decide +kernel
theorem dL_law_1063 : decode cL_law 1063 = .ok (.aload_n 1, 1) := by decide +kernel
theorem dL_law_1064 : decode cL_law 1064 = .ok (.invokevirtual 151, 3) := by decide +kernel
theorem dL_law_1067 : decode cL_law 1067 = .ok (.aload_n 2, 1) := by decide +kernel
theorem dL_law_1068 : decode cL_law 1068 = .ok (.invokevirtual 154, 3) := by decide +kernel
theorem dL_law_1071 : decode cL_law 1071 = .ok (.if_icmp .eq 41, 3) := by decide +kernel
theorem dL_law_1074 : decode cL_law 1074 = .ok (.iconst 0, 1) := by decide +kernel
theorem dL_law_1075 : decode cL_law 1075 = .ok (.ireturn, 1) := by decide +kernel
theorem dL_law_1076 : decode cL_law 1076 = .ok (.aload_n 1, 1) := by decide +kernel
theorem dL_law_1077 : decode cL_law 1077 = .ok (.invokevirtual 155, 3) := by decide +kernel
theorem dL_law_1080 : decode cL_law 1080 = .ok (.aload_n 2, 1) := by decide +kernel
theorem dL_law_1081 : decode cL_law 1081 = .ok (.invokevirtual 158, 3) := by decide +kernel
theorem dL_law_1084 : decode cL_law 1084 = .ok (.if_icmp .eq 28, 3) := by decide +kernel
theorem dL_law_1087 : decode cL_law 1087 = .ok (.iconst 0, 1) := by decide +kernel
theorem dL_law_1088 : decode cL_law 1088 = .ok (.ireturn, 1) := by decide +kernel
theorem dL_law_1089 : decode cL_law 1089 = .ok (.aload_n 1, 1) := by decide +kernel
theorem dL_law_1090 : decode cL_law 1090 = .ok (.aload_n 0, 1) := by decide +kernel
theorem dL_law_1091 : decode cL_law 1091 = .ok (.iload_n 3, 1) := by decide +kernel
theorem dL_law_1092 : decode cL_law 1092 = .ok (.iconst 1, 1) := by decide +kernel
theorem dL_law_1093 : decode cL_law 1093 = .ok (.iadd, 1) := by decide +kernel
theorem dL_law_1094 : decode cL_law 1094 = .ok (.iaload, 1) := by decide +kernel
theorem dL_law_1095 : decode cL_law 1095 = .ok (.invokevirtual 159, 3) := by decide +kernel
theorem dL_law_1098 : decode cL_law 1098 = .ok (.aload_n 2, 1) := by decide +kernel
theorem dL_law_1099 : decode cL_law 1099 = .ok (.aload_n 0, 1) := by decide +kernel
theorem dL_law_1100 : decode cL_law 1100 = .ok (.iload_n 3, 1) := by decide +kernel
theorem dL_law_1101 : decode cL_law 1101 = .ok (.iconst 1, 1) := by decide +kernel
theorem dL_law_1102 : decode cL_law 1102 = .ok (.iadd, 1) := by decide +kernel
theorem dL_law_1103 : decode cL_law 1103 = .ok (.iaload, 1) := by decide +kernel
theorem dL_law_1104 : decode cL_law 1104 = .ok (.invokevirtual 162, 3) := by decide +kernel
theorem dL_law_1107 : decode cL_law 1107 = .ok (.if_icmp .eq 5, 3) := by decide +kernel
theorem dL_law_1110 : decode cL_law 1110 = .ok (.iconst 0, 1) := by decide +kernel
theorem dL_law_1111 : decode cL_law 1111 = .ok (.ireturn, 1) := by decide +kernel
theorem dL_law_1112 : decode cL_law 1112 = .ok (.iinc 3 4, 3) := by decide +kernel
theorem dL_law_1115 : decode cL_law 1115 = .ok (.goto (-1097), 3) := by decide +kernel
theorem dL_law_1118 : decode cL_law 1118 = .ok (.iconst 1, 1) := by decide +kernel
theorem dL_law_1119 : decode cL_law 1119 = .ok (.ireturn, 1) := by decide +kernel
section LWL
variable {p : Program} {l : Launch} {e : Env} {R : Room} {s : State} {m : MethodId} {args : Array Value} {below : List Frame} {meth : Method} {c : Code} {H : Heap} {locs : List Loc} {cells slots : Nat} {Q : State → Prop}
variable {cc : ByteArray} {pc : Nat} {ls : Array Slot} {rest : List Value}
theorem lw_lcmp (hexec : p.tables.exec = Jvm.exec) (hb : c.code = cc) {x : Int64} (hdg : decode cc pc = .ok (.lcmp, 1))
    (k : W p l e R s m args below meth c H locs cells slots Q (F0 m (pc + 1) ls (.int 0 :: rest))) : W p l e R s m args below meth c H locs cells slots Q (F0 m pc ls (.long x :: .long x :: rest)) := by
  intro T hT X
  obtain ⟨t, a, b⟩ := k T hT X
  have h1 : ¬ x > x := Int64.lt_irrefl
  refine ⟨t, ?_, b⟩
  jvm_step X.here [X.here.top, hexec, hb, hdg, h1]
  exact a
end LWL
theorem lz_p1 (a b c : va_W) : (a ++ (b ++ c)).Perm ((a ++ c) ++ b) := by
  rw [List.append_assoc]
  exact List.Perm.append_left a List.perm_append_comm
theorem lz_p2 (a b c : va_W) : ((a ++ c) ++ b).Perm (a ++ (b ++ c)) := (lz_p1 a b c).symm
theorem lz_p3 (a b c : va_W) : ((c ++ a) ++ b).Perm (a ++ (b ++ c)) := by
  rw [List.append_assoc, ← List.append_assoc a b c]
  exact List.perm_append_comm
theorem lw_e0 {a b : va_W} {q : Nat × va_E} (h : a[0]? = some q) : (a ++ b)[0]? = some q := by
  rw [List.getElem?_append_left (List.getElem?_eq_some_iff.mp h).1]
  exact h
theorem kw_329 : Cond.methodLink "FrequencyShelfLaw" 13 yX11_rule ∈ TB := tb_at 329 (by decide +kernel) (by decide +kernel)
theorem kw_332 : Cond.code yX11_rule cX11_rule 4 (some .int) ∈ TB := tb_at 332 (by decide +kernel) (by decide +kernel)
theorem kw_330 : Cond.instanceMethod yX11_rule ∈ TB := tb_at 330 (by decide +kernel) (by decide +kernel)
theorem kw_331 : Cond.selects "FrequencyShelf" yX11_rule yX11_rule ∈ TB := tb_at 331 (by decide +kernel) (by decide +kernel)
theorem cv_X11_rule : Cond.code yX11_rule cX11_rule 4 (some .int) ∈ TB ∧ Cond.instanceMethod yX11_rule ∈ TB ∧ Cond.selects "FrequencyShelf" yX11_rule yX11_rule ∈ TB ∧ Cond.initialized "FrequencyShelf" ∈ TB := ⟨kw_332, kw_330, kw_331, kw_63⟩
theorem kw_1310 : Cond.methodLink "FrequencyShelfLaw" 17 yX12_rule ∈ TB := tb_at 1310 (by decide +kernel) (by decide +kernel)
theorem kw_1313 : Cond.code yX12_rule cX12_rule 4 (some .int) ∈ TB := tb_at 1313 (by decide +kernel) (by decide +kernel)
theorem kw_1311 : Cond.instanceMethod yX12_rule ∈ TB := tb_at 1311 (by decide +kernel) (by decide +kernel)
theorem kw_1312 : Cond.selects "FrequencyShelfModel" yX12_rule yX12_rule ∈ TB := tb_at 1312 (by decide +kernel) (by decide +kernel)
theorem cv_X12_rule : Cond.code yX12_rule cX12_rule 4 (some .int) ∈ TB ∧ Cond.instanceMethod yX12_rule ∈ TB ∧ Cond.selects "FrequencyShelfModel" yX12_rule yX12_rule ∈ TB ∧ Cond.initialized "FrequencyShelfModel" ∈ TB := ⟨kw_1313, kw_1311, kw_1312, kw_75⟩
theorem kw_480 : Cond.methodLink "FrequencyShelfLaw" 18 yX11_step ∈ TB := tb_at 480 (by decide +kernel) (by decide +kernel)
theorem kw_483 : Cond.code yX11_step cX11_step 2 (some .int) ∈ TB := tb_at 483 (by decide +kernel) (by decide +kernel)
theorem kw_481 : Cond.instanceMethod yX11_step ∈ TB := tb_at 481 (by decide +kernel) (by decide +kernel)
theorem kw_482 : Cond.selects "FrequencyShelf" yX11_step yX11_step ∈ TB := tb_at 482 (by decide +kernel) (by decide +kernel)
theorem cv_X11_step : Cond.code yX11_step cX11_step 2 (some .int) ∈ TB ∧ Cond.instanceMethod yX11_step ∈ TB ∧ Cond.selects "FrequencyShelf" yX11_step yX11_step ∈ TB ∧ Cond.initialized "FrequencyShelf" ∈ TB := ⟨kw_483, kw_481, kw_482, kw_63⟩
theorem kw_1389 : Cond.methodLink "FrequencyShelfLaw" 22 yX12_step ∈ TB := tb_at 1389 (by decide +kernel) (by decide +kernel)
theorem kw_1392 : Cond.code yX12_step cX12_step 4 (some .int) ∈ TB := tb_at 1392 (by decide +kernel) (by decide +kernel)
theorem kw_1390 : Cond.instanceMethod yX12_step ∈ TB := tb_at 1390 (by decide +kernel) (by decide +kernel)
theorem kw_1391 : Cond.selects "FrequencyShelfModel" yX12_step yX12_step ∈ TB := tb_at 1391 (by decide +kernel) (by decide +kernel)
theorem cv_X12_step : Cond.code yX12_step cX12_step 4 (some .int) ∈ TB ∧ Cond.instanceMethod yX12_step ∈ TB ∧ Cond.selects "FrequencyShelfModel" yX12_step yX12_step ∈ TB ∧ Cond.initialized "FrequencyShelfModel" ∈ TB := ⟨kw_1392, kw_1390, kw_1391, kw_75⟩
theorem kw_537 : Cond.methodLink "FrequencyShelfLaw" 23 yX11_feed ∈ TB := tb_at 537 (by decide +kernel) (by decide +kernel)
theorem kw_540 : Cond.code yX11_feed cX11_feed 2 (some .int) ∈ TB := tb_at 540 (by decide +kernel) (by decide +kernel)
theorem kw_538 : Cond.instanceMethod yX11_feed ∈ TB := tb_at 538 (by decide +kernel) (by decide +kernel)
theorem kw_539 : Cond.selects "FrequencyShelf" yX11_feed yX11_feed ∈ TB := tb_at 539 (by decide +kernel) (by decide +kernel)
theorem cv_X11_feed : Cond.code yX11_feed cX11_feed 2 (some .int) ∈ TB ∧ Cond.instanceMethod yX11_feed ∈ TB ∧ Cond.selects "FrequencyShelf" yX11_feed yX11_feed ∈ TB ∧ Cond.initialized "FrequencyShelf" ∈ TB := ⟨kw_540, kw_538, kw_539, kw_63⟩
theorem kw_1270 : Cond.methodLink "FrequencyShelfLaw" 26 yX12_feed ∈ TB := tb_at 1270 (by decide +kernel) (by decide +kernel)
theorem kw_1273 : Cond.code yX12_feed cX12_feed 2 (some .int) ∈ TB := tb_at 1273 (by decide +kernel) (by decide +kernel)
theorem kw_1271 : Cond.instanceMethod yX12_feed ∈ TB := tb_at 1271 (by decide +kernel) (by decide +kernel)
theorem kw_1272 : Cond.selects "FrequencyShelfModel" yX12_feed yX12_feed ∈ TB := tb_at 1272 (by decide +kernel) (by decide +kernel)
theorem cv_X12_feed : Cond.code yX12_feed cX12_feed 2 (some .int) ∈ TB ∧ Cond.instanceMethod yX12_feed ∈ TB ∧ Cond.selects "FrequencyShelfModel" yX12_feed yX12_feed ∈ TB ∧ Cond.initialized "FrequencyShelfModel" ∈ TB := ⟨kw_1273, kw_1271, kw_1272, kw_75⟩
theorem kw_552 : Cond.methodLink "FrequencyShelfLaw" 27 yX11_ask ∈ TB := tb_at 552 (by decide +kernel) (by decide +kernel)
theorem kw_555 : Cond.code yX11_ask cX11_ask 4 (some .int) ∈ TB := tb_at 555 (by decide +kernel) (by decide +kernel)
theorem kw_553 : Cond.instanceMethod yX11_ask ∈ TB := tb_at 553 (by decide +kernel) (by decide +kernel)
theorem kw_554 : Cond.selects "FrequencyShelf" yX11_ask yX11_ask ∈ TB := tb_at 554 (by decide +kernel) (by decide +kernel)
theorem cv_X11_ask : Cond.code yX11_ask cX11_ask 4 (some .int) ∈ TB ∧ Cond.instanceMethod yX11_ask ∈ TB ∧ Cond.selects "FrequencyShelf" yX11_ask yX11_ask ∈ TB ∧ Cond.initialized "FrequencyShelf" ∈ TB := ⟨kw_555, kw_553, kw_554, kw_63⟩
theorem kw_1457 : Cond.methodLink "FrequencyShelfLaw" 30 yX12_ask ∈ TB := tb_at 1457 (by decide +kernel) (by decide +kernel)
theorem kw_1460 : Cond.code yX12_ask cX12_ask 4 (some .int) ∈ TB := tb_at 1460 (by decide +kernel) (by decide +kernel)
theorem kw_1458 : Cond.instanceMethod yX12_ask ∈ TB := tb_at 1458 (by decide +kernel) (by decide +kernel)
theorem kw_1459 : Cond.selects "FrequencyShelfModel" yX12_ask yX12_ask ∈ TB := tb_at 1459 (by decide +kernel) (by decide +kernel)
theorem cv_X12_ask : Cond.code yX12_ask cX12_ask 4 (some .int) ∈ TB ∧ Cond.instanceMethod yX12_ask ∈ TB ∧ Cond.selects "FrequencyShelfModel" yX12_ask yX12_ask ∈ TB ∧ Cond.initialized "FrequencyShelfModel" ∈ TB := ⟨kw_1460, kw_1458, kw_1459, kw_75⟩
theorem kw_662 : Cond.methodLink "FrequencyShelfLaw" 31 yX11_giveUp ∈ TB := tb_at 662 (by decide +kernel) (by decide +kernel)
theorem kw_665 : Cond.code yX11_giveUp cX11_giveUp 3 (some .int) ∈ TB := tb_at 665 (by decide +kernel) (by decide +kernel)
theorem kw_663 : Cond.instanceMethod yX11_giveUp ∈ TB := tb_at 663 (by decide +kernel) (by decide +kernel)
theorem kw_664 : Cond.selects "FrequencyShelf" yX11_giveUp yX11_giveUp ∈ TB := tb_at 664 (by decide +kernel) (by decide +kernel)
theorem cv_X11_giveUp : Cond.code yX11_giveUp cX11_giveUp 3 (some .int) ∈ TB ∧ Cond.instanceMethod yX11_giveUp ∈ TB ∧ Cond.selects "FrequencyShelf" yX11_giveUp yX11_giveUp ∈ TB ∧ Cond.initialized "FrequencyShelf" ∈ TB := ⟨kw_665, kw_663, kw_664, kw_63⟩
theorem kw_1500 : Cond.methodLink "FrequencyShelfLaw" 34 yX12_giveUp ∈ TB := tb_at 1500 (by decide +kernel) (by decide +kernel)
theorem kw_1503 : Cond.code yX12_giveUp cX12_giveUp 6 (some .int) ∈ TB := tb_at 1503 (by decide +kernel) (by decide +kernel)
theorem kw_1501 : Cond.instanceMethod yX12_giveUp ∈ TB := tb_at 1501 (by decide +kernel) (by decide +kernel)
theorem kw_1502 : Cond.selects "FrequencyShelfModel" yX12_giveUp yX12_giveUp ∈ TB := tb_at 1502 (by decide +kernel) (by decide +kernel)
theorem cv_X12_giveUp : Cond.code yX12_giveUp cX12_giveUp 6 (some .int) ∈ TB ∧ Cond.instanceMethod yX12_giveUp ∈ TB ∧ Cond.selects "FrequencyShelfModel" yX12_giveUp yX12_giveUp ∈ TB ∧ Cond.initialized "FrequencyShelfModel" ∈ TB := ⟨kw_1503, kw_1501, kw_1502, kw_75⟩
theorem kw_674 : Cond.methodLink "FrequencyShelfLaw" 35 yX11_take ∈ TB := tb_at 674 (by decide +kernel) (by decide +kernel)
theorem kw_677 : Cond.code yX11_take cX11_take 4 (some .int) ∈ TB := tb_at 677 (by decide +kernel) (by decide +kernel)
theorem kw_675 : Cond.instanceMethod yX11_take ∈ TB := tb_at 675 (by decide +kernel) (by decide +kernel)
theorem kw_676 : Cond.selects "FrequencyShelf" yX11_take yX11_take ∈ TB := tb_at 676 (by decide +kernel) (by decide +kernel)
theorem cv_X11_take : Cond.code yX11_take cX11_take 4 (some .int) ∈ TB ∧ Cond.instanceMethod yX11_take ∈ TB ∧ Cond.selects "FrequencyShelf" yX11_take yX11_take ∈ TB ∧ Cond.initialized "FrequencyShelf" ∈ TB := ⟨kw_677, kw_675, kw_676, kw_63⟩
theorem kw_1504 : Cond.methodLink "FrequencyShelfLaw" 38 yX12_take ∈ TB := tb_at 1504 (by decide +kernel) (by decide +kernel)
theorem kw_1507 : Cond.code yX12_take cX12_take 3 (some .int) ∈ TB := tb_at 1507 (by decide +kernel) (by decide +kernel)
theorem kw_1505 : Cond.instanceMethod yX12_take ∈ TB := tb_at 1505 (by decide +kernel) (by decide +kernel)
theorem kw_1506 : Cond.selects "FrequencyShelfModel" yX12_take yX12_take ∈ TB := tb_at 1506 (by decide +kernel) (by decide +kernel)
theorem cv_X12_take : Cond.code yX12_take cX12_take 3 (some .int) ∈ TB ∧ Cond.instanceMethod yX12_take ∈ TB ∧ Cond.selects "FrequencyShelfModel" yX12_take yX12_take ∈ TB ∧ Cond.initialized "FrequencyShelfModel" ∈ TB := ⟨kw_1507, kw_1505, kw_1506, kw_75⟩
theorem kw_682 : Cond.methodLink "FrequencyShelfLaw" 39 yX11_first ∈ TB := tb_at 682 (by decide +kernel) (by decide +kernel)
theorem kw_685 : Cond.code yX11_first cX11_first 4 (some .int) ∈ TB := tb_at 685 (by decide +kernel) (by decide +kernel)
theorem kw_683 : Cond.instanceMethod yX11_first ∈ TB := tb_at 683 (by decide +kernel) (by decide +kernel)
theorem kw_684 : Cond.selects "FrequencyShelf" yX11_first yX11_first ∈ TB := tb_at 684 (by decide +kernel) (by decide +kernel)
theorem cv_X11_first : Cond.code yX11_first cX11_first 4 (some .int) ∈ TB ∧ Cond.instanceMethod yX11_first ∈ TB ∧ Cond.selects "FrequencyShelf" yX11_first yX11_first ∈ TB ∧ Cond.initialized "FrequencyShelf" ∈ TB := ⟨kw_685, kw_683, kw_684, kw_63⟩
theorem kw_1508 : Cond.methodLink "FrequencyShelfLaw" 42 yX12_first ∈ TB := tb_at 1508 (by decide +kernel) (by decide +kernel)
theorem kw_1511 : Cond.code yX12_first cX12_first 3 (some .int) ∈ TB := tb_at 1511 (by decide +kernel) (by decide +kernel)
theorem kw_1509 : Cond.instanceMethod yX12_first ∈ TB := tb_at 1509 (by decide +kernel) (by decide +kernel)
theorem kw_1510 : Cond.selects "FrequencyShelfModel" yX12_first yX12_first ∈ TB := tb_at 1510 (by decide +kernel) (by decide +kernel)
theorem cv_X12_first : Cond.code yX12_first cX12_first 3 (some .int) ∈ TB ∧ Cond.instanceMethod yX12_first ∈ TB ∧ Cond.selects "FrequencyShelfModel" yX12_first yX12_first ∈ TB ∧ Cond.initialized "FrequencyShelfModel" ∈ TB := ⟨kw_1511, kw_1509, kw_1510, kw_75⟩
theorem kw_696 : Cond.methodLink "FrequencyShelfLaw" 43 yX11_box ∈ TB := tb_at 696 (by decide +kernel) (by decide +kernel)
theorem kw_699 : Cond.code yX11_box cX11_box 3 (some .int) ∈ TB := tb_at 699 (by decide +kernel) (by decide +kernel)
theorem kw_697 : Cond.instanceMethod yX11_box ∈ TB := tb_at 697 (by decide +kernel) (by decide +kernel)
theorem kw_698 : Cond.selects "FrequencyShelf" yX11_box yX11_box ∈ TB := tb_at 698 (by decide +kernel) (by decide +kernel)
theorem cv_X11_box : Cond.code yX11_box cX11_box 3 (some .int) ∈ TB ∧ Cond.instanceMethod yX11_box ∈ TB ∧ Cond.selects "FrequencyShelf" yX11_box yX11_box ∈ TB ∧ Cond.initialized "FrequencyShelf" ∈ TB := ⟨kw_699, kw_697, kw_698, kw_63⟩
theorem kw_1512 : Cond.methodLink "FrequencyShelfLaw" 46 yX12_box ∈ TB := tb_at 1512 (by decide +kernel) (by decide +kernel)
theorem kw_701 : Cond.methodLink "FrequencyShelfLaw" 47 yX11_write ∈ TB := tb_at 701 (by decide +kernel) (by decide +kernel)
theorem kw_704 : Cond.code yX11_write cX11_write 3 (some .int) ∈ TB := tb_at 704 (by decide +kernel) (by decide +kernel)
theorem kw_702 : Cond.instanceMethod yX11_write ∈ TB := tb_at 702 (by decide +kernel) (by decide +kernel)
theorem kw_703 : Cond.selects "FrequencyShelf" yX11_write yX11_write ∈ TB := tb_at 703 (by decide +kernel) (by decide +kernel)
theorem cv_X11_write : Cond.code yX11_write cX11_write 3 (some .int) ∈ TB ∧ Cond.instanceMethod yX11_write ∈ TB ∧ Cond.selects "FrequencyShelf" yX11_write yX11_write ∈ TB ∧ Cond.initialized "FrequencyShelf" ∈ TB := ⟨kw_704, kw_702, kw_703, kw_63⟩
theorem kw_1520 : Cond.methodLink "FrequencyShelfLaw" 50 yX12_write ∈ TB := tb_at 1520 (by decide +kernel) (by decide +kernel)
theorem kw_1523 : Cond.code yX12_write cX12_write 4 (some .int) ∈ TB := tb_at 1523 (by decide +kernel) (by decide +kernel)
theorem kw_1521 : Cond.instanceMethod yX12_write ∈ TB := tb_at 1521 (by decide +kernel) (by decide +kernel)
theorem kw_1522 : Cond.selects "FrequencyShelfModel" yX12_write yX12_write ∈ TB := tb_at 1522 (by decide +kernel) (by decide +kernel)
theorem cv_X12_write : Cond.code yX12_write cX12_write 4 (some .int) ∈ TB ∧ Cond.instanceMethod yX12_write ∈ TB ∧ Cond.selects "FrequencyShelfModel" yX12_write yX12_write ∈ TB ∧ Cond.initialized "FrequencyShelfModel" ∈ TB := ⟨kw_1523, kw_1521, kw_1522, kw_75⟩
theorem kw_713 : Cond.methodLink "FrequencyShelfLaw" 51 yX11_flush ∈ TB := tb_at 713 (by decide +kernel) (by decide +kernel)
theorem kw_716 : Cond.code yX11_flush cX11_flush 1 (some .int) ∈ TB := tb_at 716 (by decide +kernel) (by decide +kernel)
theorem kw_714 : Cond.instanceMethod yX11_flush ∈ TB := tb_at 714 (by decide +kernel) (by decide +kernel)
theorem kw_715 : Cond.selects "FrequencyShelf" yX11_flush yX11_flush ∈ TB := tb_at 715 (by decide +kernel) (by decide +kernel)
theorem cv_X11_flush : Cond.code yX11_flush cX11_flush 1 (some .int) ∈ TB ∧ Cond.instanceMethod yX11_flush ∈ TB ∧ Cond.selects "FrequencyShelf" yX11_flush yX11_flush ∈ TB ∧ Cond.initialized "FrequencyShelf" ∈ TB := ⟨kw_716, kw_714, kw_715, kw_63⟩
theorem kw_1524 : Cond.methodLink "FrequencyShelfLaw" 55 yX12_flush ∈ TB := tb_at 1524 (by decide +kernel) (by decide +kernel)
theorem kw_1527 : Cond.code yX12_flush cX12_flush 3 (some .int) ∈ TB := tb_at 1527 (by decide +kernel) (by decide +kernel)
theorem kw_1525 : Cond.instanceMethod yX12_flush ∈ TB := tb_at 1525 (by decide +kernel) (by decide +kernel)
theorem kw_1526 : Cond.selects "FrequencyShelfModel" yX12_flush yX12_flush ∈ TB := tb_at 1526 (by decide +kernel) (by decide +kernel)
theorem cv_X12_flush : Cond.code yX12_flush cX12_flush 3 (some .int) ∈ TB ∧ Cond.instanceMethod yX12_flush ∈ TB ∧ Cond.selects "FrequencyShelfModel" yX12_flush yX12_flush ∈ TB ∧ Cond.initialized "FrequencyShelfModel" ∈ TB := ⟨kw_1527, kw_1525, kw_1526, kw_75⟩
theorem kw_737 : Cond.methodLink "FrequencyShelfLaw" 56 yX11_writtenOf ∈ TB := tb_at 737 (by decide +kernel) (by decide +kernel)
theorem kw_740 : Cond.code yX11_writtenOf cX11_writtenOf 4 (some .int) ∈ TB := tb_at 740 (by decide +kernel) (by decide +kernel)
theorem kw_738 : Cond.instanceMethod yX11_writtenOf ∈ TB := tb_at 738 (by decide +kernel) (by decide +kernel)
theorem kw_739 : Cond.selects "FrequencyShelf" yX11_writtenOf yX11_writtenOf ∈ TB := tb_at 739 (by decide +kernel) (by decide +kernel)
theorem cv_X11_writtenOf : Cond.code yX11_writtenOf cX11_writtenOf 4 (some .int) ∈ TB ∧ Cond.instanceMethod yX11_writtenOf ∈ TB ∧ Cond.selects "FrequencyShelf" yX11_writtenOf yX11_writtenOf ∈ TB ∧ Cond.initialized "FrequencyShelf" ∈ TB := ⟨kw_740, kw_738, kw_739, kw_63⟩
theorem kw_1532 : Cond.methodLink "FrequencyShelfLaw" 59 yX12_writtenOf ∈ TB := tb_at 1532 (by decide +kernel) (by decide +kernel)
theorem kw_1535 : Cond.code yX12_writtenOf cX12_writtenOf 3 (some .int) ∈ TB := tb_at 1535 (by decide +kernel) (by decide +kernel)
theorem kw_1533 : Cond.instanceMethod yX12_writtenOf ∈ TB := tb_at 1533 (by decide +kernel) (by decide +kernel)
theorem kw_1534 : Cond.selects "FrequencyShelfModel" yX12_writtenOf yX12_writtenOf ∈ TB := tb_at 1534 (by decide +kernel) (by decide +kernel)
theorem cv_X12_writtenOf : Cond.code yX12_writtenOf cX12_writtenOf 3 (some .int) ∈ TB ∧ Cond.instanceMethod yX12_writtenOf ∈ TB ∧ Cond.selects "FrequencyShelfModel" yX12_writtenOf yX12_writtenOf ∈ TB ∧ Cond.initialized "FrequencyShelfModel" ∈ TB := ⟨kw_1535, kw_1533, kw_1534, kw_75⟩
theorem kw_742 : Cond.methodLink "FrequencyShelfLaw" 60 yX11_of ∈ TB := tb_at 742 (by decide +kernel) (by decide +kernel)
theorem kw_745 : Cond.code yX11_of cX11_of 3 (some .int) ∈ TB := tb_at 745 (by decide +kernel) (by decide +kernel)
theorem kw_743 : Cond.instanceMethod yX11_of ∈ TB := tb_at 743 (by decide +kernel) (by decide +kernel)
theorem kw_744 : Cond.selects "FrequencyShelf" yX11_of yX11_of ∈ TB := tb_at 744 (by decide +kernel) (by decide +kernel)
theorem cv_X11_of : Cond.code yX11_of cX11_of 3 (some .int) ∈ TB ∧ Cond.instanceMethod yX11_of ∈ TB ∧ Cond.selects "FrequencyShelf" yX11_of yX11_of ∈ TB ∧ Cond.initialized "FrequencyShelf" ∈ TB := ⟨kw_745, kw_743, kw_744, kw_63⟩
theorem kw_1516 : Cond.methodLink "FrequencyShelfLaw" 63 yX12_of ∈ TB := tb_at 1516 (by decide +kernel) (by decide +kernel)
theorem kw_1519 : Cond.code yX12_of cX12_of 3 (some .int) ∈ TB := tb_at 1519 (by decide +kernel) (by decide +kernel)
theorem kw_1517 : Cond.instanceMethod yX12_of ∈ TB := tb_at 1517 (by decide +kernel) (by decide +kernel)
theorem kw_1518 : Cond.selects "FrequencyShelfModel" yX12_of yX12_of ∈ TB := tb_at 1518 (by decide +kernel) (by decide +kernel)
theorem cv_X12_of : Cond.code yX12_of cX12_of 3 (some .int) ∈ TB ∧ Cond.instanceMethod yX12_of ∈ TB ∧ Cond.selects "FrequencyShelfModel" yX12_of yX12_of ∈ TB ∧ Cond.initialized "FrequencyShelfModel" ∈ TB := ⟨kw_1519, kw_1517, kw_1518, kw_75⟩
theorem kw_750 : Cond.methodLink "FrequencyShelfLaw" 64 yX11_came ∈ TB := tb_at 750 (by decide +kernel) (by decide +kernel)
theorem kw_753 : Cond.code yX11_came cX11_came 6 (some .int) ∈ TB := tb_at 753 (by decide +kernel) (by decide +kernel)
theorem kw_751 : Cond.instanceMethod yX11_came ∈ TB := tb_at 751 (by decide +kernel) (by decide +kernel)
theorem kw_752 : Cond.selects "FrequencyShelf" yX11_came yX11_came ∈ TB := tb_at 752 (by decide +kernel) (by decide +kernel)
theorem cv_X11_came : Cond.code yX11_came cX11_came 6 (some .int) ∈ TB ∧ Cond.instanceMethod yX11_came ∈ TB ∧ Cond.selects "FrequencyShelf" yX11_came yX11_came ∈ TB ∧ Cond.initialized "FrequencyShelf" ∈ TB := ⟨kw_753, kw_751, kw_752, kw_63⟩
theorem kw_1402 : Cond.methodLink "FrequencyShelfLaw" 68 yX12_came ∈ TB := tb_at 1402 (by decide +kernel) (by decide +kernel)
theorem kw_1405 : Cond.code yX12_came cX12_came 10 (some .int) ∈ TB := tb_at 1405 (by decide +kernel) (by decide +kernel)
theorem kw_1403 : Cond.instanceMethod yX12_came ∈ TB := tb_at 1403 (by decide +kernel) (by decide +kernel)
theorem kw_1404 : Cond.selects "FrequencyShelfModel" yX12_came yX12_came ∈ TB := tb_at 1404 (by decide +kernel) (by decide +kernel)
theorem cv_X12_came : Cond.code yX12_came cX12_came 10 (some .int) ∈ TB ∧ Cond.instanceMethod yX12_came ∈ TB ∧ Cond.selects "FrequencyShelfModel" yX12_came yX12_came ∈ TB ∧ Cond.initialized "FrequencyShelfModel" ∈ TB := ⟨kw_1405, kw_1403, kw_1404, kw_75⟩
theorem kw_769 : Cond.methodLink "FrequencyShelfLaw" 69 yX11_failed ∈ TB := tb_at 769 (by decide +kernel) (by decide +kernel)
theorem kw_772 : Cond.code yX11_failed cX11_failed 3 (some .int) ∈ TB := tb_at 772 (by decide +kernel) (by decide +kernel)
theorem kw_770 : Cond.instanceMethod yX11_failed ∈ TB := tb_at 770 (by decide +kernel) (by decide +kernel)
theorem kw_771 : Cond.selects "FrequencyShelf" yX11_failed yX11_failed ∈ TB := tb_at 771 (by decide +kernel) (by decide +kernel)
theorem cv_X11_failed : Cond.code yX11_failed cX11_failed 3 (some .int) ∈ TB ∧ Cond.instanceMethod yX11_failed ∈ TB ∧ Cond.selects "FrequencyShelf" yX11_failed yX11_failed ∈ TB ∧ Cond.initialized "FrequencyShelf" ∈ TB := ⟨kw_772, kw_770, kw_771, kw_63⟩
theorem kw_1442 : Cond.methodLink "FrequencyShelfLaw" 72 yX12_failed ∈ TB := tb_at 1442 (by decide +kernel) (by decide +kernel)
theorem kw_1445 : Cond.code yX12_failed cX12_failed 4 (some .int) ∈ TB := tb_at 1445 (by decide +kernel) (by decide +kernel)
theorem kw_1443 : Cond.instanceMethod yX12_failed ∈ TB := tb_at 1443 (by decide +kernel) (by decide +kernel)
theorem kw_1444 : Cond.selects "FrequencyShelfModel" yX12_failed yX12_failed ∈ TB := tb_at 1444 (by decide +kernel) (by decide +kernel)
theorem cv_X12_failed : Cond.code yX12_failed cX12_failed 4 (some .int) ∈ TB ∧ Cond.instanceMethod yX12_failed ∈ TB ∧ Cond.selects "FrequencyShelfModel" yX12_failed yX12_failed ∈ TB ∧ Cond.initialized "FrequencyShelfModel" ∈ TB := ⟨kw_1445, kw_1443, kw_1444, kw_75⟩
theorem kw_774 : Cond.methodLink "FrequencyShelfLaw" 73 yX11_told ∈ TB := tb_at 774 (by decide +kernel) (by decide +kernel)
theorem kw_777 : Cond.code yX11_told cX11_told 3 (some .int) ∈ TB := tb_at 777 (by decide +kernel) (by decide +kernel)
theorem kw_775 : Cond.instanceMethod yX11_told ∈ TB := tb_at 775 (by decide +kernel) (by decide +kernel)
theorem kw_776 : Cond.selects "FrequencyShelf" yX11_told yX11_told ∈ TB := tb_at 776 (by decide +kernel) (by decide +kernel)
theorem cv_X11_told : Cond.code yX11_told cX11_told 3 (some .int) ∈ TB ∧ Cond.instanceMethod yX11_told ∈ TB ∧ Cond.selects "FrequencyShelf" yX11_told yX11_told ∈ TB ∧ Cond.initialized "FrequencyShelf" ∈ TB := ⟨kw_777, kw_775, kw_776, kw_63⟩
theorem kw_1446 : Cond.methodLink "FrequencyShelfLaw" 76 yX12_told ∈ TB := tb_at 1446 (by decide +kernel) (by decide +kernel)
theorem kw_1449 : Cond.code yX12_told cX12_told 3 (some .int) ∈ TB := tb_at 1449 (by decide +kernel) (by decide +kernel)
theorem kw_1447 : Cond.instanceMethod yX12_told ∈ TB := tb_at 1447 (by decide +kernel) (by decide +kernel)
theorem kw_1448 : Cond.selects "FrequencyShelfModel" yX12_told yX12_told ∈ TB := tb_at 1448 (by decide +kernel) (by decide +kernel)
theorem cv_X12_told : Cond.code yX12_told cX12_told 3 (some .int) ∈ TB ∧ Cond.instanceMethod yX12_told ∈ TB ∧ Cond.selects "FrequencyShelfModel" yX12_told yX12_told ∈ TB ∧ Cond.initialized "FrequencyShelfModel" ∈ TB := ⟨kw_1449, kw_1447, kw_1448, kw_75⟩
theorem kw_778 : Cond.methodLink "FrequencyShelfLaw" 77 yX11_load ∈ TB := tb_at 778 (by decide +kernel) (by decide +kernel)
theorem kw_781 : Cond.code yX11_load cX11_load 4 (some .int) ∈ TB := tb_at 781 (by decide +kernel) (by decide +kernel)
theorem kw_779 : Cond.instanceMethod yX11_load ∈ TB := tb_at 779 (by decide +kernel) (by decide +kernel)
theorem kw_780 : Cond.selects "FrequencyShelf" yX11_load yX11_load ∈ TB := tb_at 780 (by decide +kernel) (by decide +kernel)
theorem cv_X11_load : Cond.code yX11_load cX11_load 4 (some .int) ∈ TB ∧ Cond.instanceMethod yX11_load ∈ TB ∧ Cond.selects "FrequencyShelf" yX11_load yX11_load ∈ TB ∧ Cond.initialized "FrequencyShelf" ∈ TB := ⟨kw_781, kw_779, kw_780, kw_63⟩
theorem kw_1453 : Cond.methodLink "FrequencyShelfLaw" 80 yX12_load ∈ TB := tb_at 1453 (by decide +kernel) (by decide +kernel)
theorem kw_1456 : Cond.code yX12_load cX12_load 4 (some .int) ∈ TB := tb_at 1456 (by decide +kernel) (by decide +kernel)
theorem kw_1454 : Cond.instanceMethod yX12_load ∈ TB := tb_at 1454 (by decide +kernel) (by decide +kernel)
theorem kw_1455 : Cond.selects "FrequencyShelfModel" yX12_load yX12_load ∈ TB := tb_at 1455 (by decide +kernel) (by decide +kernel)
theorem cv_X12_load : Cond.code yX12_load cX12_load 4 (some .int) ∈ TB ∧ Cond.instanceMethod yX12_load ∈ TB ∧ Cond.selects "FrequencyShelfModel" yX12_load yX12_load ∈ TB ∧ Cond.initialized "FrequencyShelfModel" ∈ TB := ⟨kw_1456, kw_1454, kw_1455, kw_75⟩
theorem kw_783 : Cond.methodLink "FrequencyShelfLaw" 81 yX11_entry ∈ TB := tb_at 783 (by decide +kernel) (by decide +kernel)
theorem kw_786 : Cond.code yX11_entry cX11_entry 4 (some .int) ∈ TB := tb_at 786 (by decide +kernel) (by decide +kernel)
theorem kw_784 : Cond.instanceMethod yX11_entry ∈ TB := tb_at 784 (by decide +kernel) (by decide +kernel)
theorem kw_785 : Cond.selects "FrequencyShelf" yX11_entry yX11_entry ∈ TB := tb_at 785 (by decide +kernel) (by decide +kernel)
theorem cv_X11_entry : Cond.code yX11_entry cX11_entry 4 (some .int) ∈ TB ∧ Cond.instanceMethod yX11_entry ∈ TB ∧ Cond.selects "FrequencyShelf" yX11_entry yX11_entry ∈ TB ∧ Cond.initialized "FrequencyShelf" ∈ TB := ⟨kw_786, kw_784, kw_785, kw_63⟩
theorem kw_1536 : Cond.methodLink "FrequencyShelfLaw" 84 yX12_entry ∈ TB := tb_at 1536 (by decide +kernel) (by decide +kernel)
theorem kw_1539 : Cond.code yX12_entry cX12_entry 4 (some .int) ∈ TB := tb_at 1539 (by decide +kernel) (by decide +kernel)
theorem kw_1537 : Cond.instanceMethod yX12_entry ∈ TB := tb_at 1537 (by decide +kernel) (by decide +kernel)
theorem kw_1538 : Cond.selects "FrequencyShelfModel" yX12_entry yX12_entry ∈ TB := tb_at 1538 (by decide +kernel) (by decide +kernel)
theorem cv_X12_entry : Cond.code yX12_entry cX12_entry 4 (some .int) ∈ TB ∧ Cond.instanceMethod yX12_entry ∈ TB ∧ Cond.selects "FrequencyShelfModel" yX12_entry yX12_entry ∈ TB ∧ Cond.initialized "FrequencyShelfModel" ∈ TB := ⟨kw_1539, kw_1537, kw_1538, kw_75⟩
theorem kw_793 : Cond.methodLink "FrequencyShelfLaw" 85 yX11_seen ∈ TB := tb_at 793 (by decide +kernel) (by decide +kernel)
theorem kw_796 : Cond.code yX11_seen cX11_seen 2 (some .int) ∈ TB := tb_at 796 (by decide +kernel) (by decide +kernel)
theorem kw_794 : Cond.instanceMethod yX11_seen ∈ TB := tb_at 794 (by decide +kernel) (by decide +kernel)
theorem kw_795 : Cond.selects "FrequencyShelf" yX11_seen yX11_seen ∈ TB := tb_at 795 (by decide +kernel) (by decide +kernel)
theorem cv_X11_seen : Cond.code yX11_seen cX11_seen 2 (some .int) ∈ TB ∧ Cond.instanceMethod yX11_seen ∈ TB ∧ Cond.selects "FrequencyShelf" yX11_seen yX11_seen ∈ TB ∧ Cond.initialized "FrequencyShelf" ∈ TB := ⟨kw_796, kw_794, kw_795, kw_63⟩
theorem kw_1277 : Cond.methodLink "FrequencyShelfLaw" 88 yX12_seen ∈ TB := tb_at 1277 (by decide +kernel) (by decide +kernel)
theorem kw_1280 : Cond.code yX12_seen cX12_seen 2 (some .int) ∈ TB := tb_at 1280 (by decide +kernel) (by decide +kernel)
theorem kw_1278 : Cond.instanceMethod yX12_seen ∈ TB := tb_at 1278 (by decide +kernel) (by decide +kernel)
theorem kw_1279 : Cond.selects "FrequencyShelfModel" yX12_seen yX12_seen ∈ TB := tb_at 1279 (by decide +kernel) (by decide +kernel)
theorem cv_X12_seen : Cond.code yX12_seen cX12_seen 2 (some .int) ∈ TB ∧ Cond.instanceMethod yX12_seen ∈ TB ∧ Cond.selects "FrequencyShelfModel" yX12_seen yX12_seen ∈ TB ∧ Cond.initialized "FrequencyShelfModel" ∈ TB := ⟨kw_1280, kw_1278, kw_1279, kw_75⟩
theorem kw_798 : Cond.methodLink "FrequencyShelfLaw" 89 yX11_sketch ∈ TB := tb_at 798 (by decide +kernel) (by decide +kernel)
theorem kw_801 : Cond.code yX11_sketch cX11_sketch 3 (some .int) ∈ TB := tb_at 801 (by decide +kernel) (by decide +kernel)
theorem kw_799 : Cond.instanceMethod yX11_sketch ∈ TB := tb_at 799 (by decide +kernel) (by decide +kernel)
theorem kw_800 : Cond.selects "FrequencyShelf" yX11_sketch yX11_sketch ∈ TB := tb_at 800 (by decide +kernel) (by decide +kernel)
theorem cv_X11_sketch : Cond.code yX11_sketch cX11_sketch 3 (some .int) ∈ TB ∧ Cond.instanceMethod yX11_sketch ∈ TB ∧ Cond.selects "FrequencyShelf" yX11_sketch yX11_sketch ∈ TB ∧ Cond.initialized "FrequencyShelf" ∈ TB := ⟨kw_801, kw_799, kw_800, kw_63⟩
theorem kw_1306 : Cond.methodLink "FrequencyShelfLaw" 92 yX12_sketch ∈ TB := tb_at 1306 (by decide +kernel) (by decide +kernel)
theorem kw_1309 : Cond.code yX12_sketch cX12_sketch 3 (some .int) ∈ TB := tb_at 1309 (by decide +kernel) (by decide +kernel)
theorem kw_1307 : Cond.instanceMethod yX12_sketch ∈ TB := tb_at 1307 (by decide +kernel) (by decide +kernel)
theorem kw_1308 : Cond.selects "FrequencyShelfModel" yX12_sketch yX12_sketch ∈ TB := tb_at 1308 (by decide +kernel) (by decide +kernel)
theorem cv_X12_sketch : Cond.code yX12_sketch cX12_sketch 3 (some .int) ∈ TB ∧ Cond.instanceMethod yX12_sketch ∈ TB ∧ Cond.selects "FrequencyShelfModel" yX12_sketch yX12_sketch ∈ TB ∧ Cond.initialized "FrequencyShelfModel" ∈ TB := ⟨kw_1309, kw_1307, kw_1308, kw_75⟩
theorem kw_806 : Cond.methodLink "FrequencyShelfLaw" 93 yX11_drop ∈ TB := tb_at 806 (by decide +kernel) (by decide +kernel)
theorem kw_809 : Cond.code yX11_drop cX11_drop 2 (some .int) ∈ TB := tb_at 809 (by decide +kernel) (by decide +kernel)
theorem kw_807 : Cond.instanceMethod yX11_drop ∈ TB := tb_at 807 (by decide +kernel) (by decide +kernel)
theorem kw_808 : Cond.selects "FrequencyShelf" yX11_drop yX11_drop ∈ TB := tb_at 808 (by decide +kernel) (by decide +kernel)
theorem cv_X11_drop : Cond.code yX11_drop cX11_drop 2 (some .int) ∈ TB ∧ Cond.instanceMethod yX11_drop ∈ TB ∧ Cond.selects "FrequencyShelf" yX11_drop yX11_drop ∈ TB ∧ Cond.initialized "FrequencyShelf" ∈ TB := ⟨kw_809, kw_807, kw_808, kw_63⟩
theorem kw_1540 : Cond.methodLink "FrequencyShelfLaw" 96 yX12_drop ∈ TB := tb_at 1540 (by decide +kernel) (by decide +kernel)
theorem kw_1543 : Cond.code yX12_drop cX12_drop 2 (some .int) ∈ TB := tb_at 1543 (by decide +kernel) (by decide +kernel)
theorem kw_1541 : Cond.instanceMethod yX12_drop ∈ TB := tb_at 1541 (by decide +kernel) (by decide +kernel)
theorem kw_1542 : Cond.selects "FrequencyShelfModel" yX12_drop yX12_drop ∈ TB := tb_at 1542 (by decide +kernel) (by decide +kernel)
theorem cv_X12_drop : Cond.code yX12_drop cX12_drop 2 (some .int) ∈ TB ∧ Cond.instanceMethod yX12_drop ∈ TB ∧ Cond.selects "FrequencyShelfModel" yX12_drop yX12_drop ∈ TB ∧ Cond.initialized "FrequencyShelfModel" ∈ TB := ⟨kw_1543, kw_1541, kw_1542, kw_75⟩
theorem kw_815 : Cond.methodLink "FrequencyShelfLaw" 97 yX11_dropTag ∈ TB := tb_at 815 (by decide +kernel) (by decide +kernel)
theorem kw_818 : Cond.code yX11_dropTag cX11_dropTag 2 (some .int) ∈ TB := tb_at 818 (by decide +kernel) (by decide +kernel)
theorem kw_816 : Cond.instanceMethod yX11_dropTag ∈ TB := tb_at 816 (by decide +kernel) (by decide +kernel)
theorem kw_817 : Cond.selects "FrequencyShelf" yX11_dropTag yX11_dropTag ∈ TB := tb_at 817 (by decide +kernel) (by decide +kernel)
theorem cv_X11_dropTag : Cond.code yX11_dropTag cX11_dropTag 2 (some .int) ∈ TB ∧ Cond.instanceMethod yX11_dropTag ∈ TB ∧ Cond.selects "FrequencyShelf" yX11_dropTag yX11_dropTag ∈ TB ∧ Cond.initialized "FrequencyShelf" ∈ TB := ⟨kw_818, kw_816, kw_817, kw_63⟩
theorem kw_1555 : Cond.methodLink "FrequencyShelfLaw" 100 yX12_dropTag ∈ TB := tb_at 1555 (by decide +kernel) (by decide +kernel)
theorem kw_1558 : Cond.code yX12_dropTag cX12_dropTag 2 (some .int) ∈ TB := tb_at 1558 (by decide +kernel) (by decide +kernel)
theorem kw_1556 : Cond.instanceMethod yX12_dropTag ∈ TB := tb_at 1556 (by decide +kernel) (by decide +kernel)
theorem kw_1557 : Cond.selects "FrequencyShelfModel" yX12_dropTag yX12_dropTag ∈ TB := tb_at 1557 (by decide +kernel) (by decide +kernel)
theorem cv_X12_dropTag : Cond.code yX12_dropTag cX12_dropTag 2 (some .int) ∈ TB ∧ Cond.instanceMethod yX12_dropTag ∈ TB ∧ Cond.selects "FrequencyShelfModel" yX12_dropTag yX12_dropTag ∈ TB ∧ Cond.initialized "FrequencyShelfModel" ∈ TB := ⟨kw_1558, kw_1556, kw_1557, kw_75⟩
theorem kw_822 : Cond.methodLink "FrequencyShelfLaw" 101 yX11_dropAll ∈ TB := tb_at 822 (by decide +kernel) (by decide +kernel)
theorem kw_825 : Cond.code yX11_dropAll cX11_dropAll 2 (some .int) ∈ TB := tb_at 825 (by decide +kernel) (by decide +kernel)
theorem kw_823 : Cond.instanceMethod yX11_dropAll ∈ TB := tb_at 823 (by decide +kernel) (by decide +kernel)
theorem kw_824 : Cond.selects "FrequencyShelf" yX11_dropAll yX11_dropAll ∈ TB := tb_at 824 (by decide +kernel) (by decide +kernel)
theorem cv_X11_dropAll : Cond.code yX11_dropAll cX11_dropAll 2 (some .int) ∈ TB ∧ Cond.instanceMethod yX11_dropAll ∈ TB ∧ Cond.selects "FrequencyShelf" yX11_dropAll yX11_dropAll ∈ TB ∧ Cond.initialized "FrequencyShelf" ∈ TB := ⟨kw_825, kw_823, kw_824, kw_63⟩
theorem kw_1559 : Cond.methodLink "FrequencyShelfLaw" 104 yX12_dropAll ∈ TB := tb_at 1559 (by decide +kernel) (by decide +kernel)
theorem kw_1562 : Cond.code yX12_dropAll cX12_dropAll 2 (some .int) ∈ TB := tb_at 1562 (by decide +kernel) (by decide +kernel)
theorem kw_1560 : Cond.instanceMethod yX12_dropAll ∈ TB := tb_at 1560 (by decide +kernel) (by decide +kernel)
theorem kw_1561 : Cond.selects "FrequencyShelfModel" yX12_dropAll yX12_dropAll ∈ TB := tb_at 1561 (by decide +kernel) (by decide +kernel)
theorem cv_X12_dropAll : Cond.code yX12_dropAll cX12_dropAll 2 (some .int) ∈ TB ∧ Cond.instanceMethod yX12_dropAll ∈ TB ∧ Cond.selects "FrequencyShelfModel" yX12_dropAll yX12_dropAll ∈ TB ∧ Cond.initialized "FrequencyShelfModel" ∈ TB := ⟨kw_1562, kw_1560, kw_1561, kw_75⟩
theorem kw_826 : Cond.methodLink "FrequencyShelfLaw" 105 yX11_tagged ∈ TB := tb_at 826 (by decide +kernel) (by decide +kernel)
theorem kw_829 : Cond.code yX11_tagged cX11_tagged 3 (some .int) ∈ TB := tb_at 829 (by decide +kernel) (by decide +kernel)
theorem kw_827 : Cond.instanceMethod yX11_tagged ∈ TB := tb_at 827 (by decide +kernel) (by decide +kernel)
theorem kw_828 : Cond.selects "FrequencyShelf" yX11_tagged yX11_tagged ∈ TB := tb_at 828 (by decide +kernel) (by decide +kernel)
theorem cv_X11_tagged : Cond.code yX11_tagged cX11_tagged 3 (some .int) ∈ TB ∧ Cond.instanceMethod yX11_tagged ∈ TB ∧ Cond.selects "FrequencyShelf" yX11_tagged yX11_tagged ∈ TB ∧ Cond.initialized "FrequencyShelf" ∈ TB := ⟨kw_829, kw_827, kw_828, kw_63⟩
theorem kw_1567 : Cond.methodLink "FrequencyShelfLaw" 108 yX12_tagged ∈ TB := tb_at 1567 (by decide +kernel) (by decide +kernel)
theorem kw_1570 : Cond.code yX12_tagged cX12_tagged 5 (some .int) ∈ TB := tb_at 1570 (by decide +kernel) (by decide +kernel)
theorem kw_1568 : Cond.instanceMethod yX12_tagged ∈ TB := tb_at 1568 (by decide +kernel) (by decide +kernel)
theorem kw_1569 : Cond.selects "FrequencyShelfModel" yX12_tagged yX12_tagged ∈ TB := tb_at 1569 (by decide +kernel) (by decide +kernel)
theorem cv_X12_tagged : Cond.code yX12_tagged cX12_tagged 5 (some .int) ∈ TB ∧ Cond.instanceMethod yX12_tagged ∈ TB ∧ Cond.selects "FrequencyShelfModel" yX12_tagged yX12_tagged ∈ TB ∧ Cond.initialized "FrequencyShelfModel" ∈ TB := ⟨kw_1570, kw_1568, kw_1569, kw_75⟩
theorem kw_835 : Cond.methodLink "FrequencyShelfLaw" 109 yX11_sweep ∈ TB := tb_at 835 (by decide +kernel) (by decide +kernel)
theorem kw_838 : Cond.code yX11_sweep cX11_sweep 1 (some .int) ∈ TB := tb_at 838 (by decide +kernel) (by decide +kernel)
theorem kw_836 : Cond.instanceMethod yX11_sweep ∈ TB := tb_at 836 (by decide +kernel) (by decide +kernel)
theorem kw_837 : Cond.selects "FrequencyShelf" yX11_sweep yX11_sweep ∈ TB := tb_at 837 (by decide +kernel) (by decide +kernel)
theorem cv_X11_sweep : Cond.code yX11_sweep cX11_sweep 1 (some .int) ∈ TB ∧ Cond.instanceMethod yX11_sweep ∈ TB ∧ Cond.selects "FrequencyShelf" yX11_sweep yX11_sweep ∈ TB ∧ Cond.initialized "FrequencyShelf" ∈ TB := ⟨kw_838, kw_836, kw_837, kw_63⟩
theorem kw_1563 : Cond.methodLink "FrequencyShelfLaw" 112 yX12_sweep ∈ TB := tb_at 1563 (by decide +kernel) (by decide +kernel)
theorem kw_1566 : Cond.code yX12_sweep cX12_sweep 1 (some .int) ∈ TB := tb_at 1566 (by decide +kernel) (by decide +kernel)
theorem kw_1564 : Cond.instanceMethod yX12_sweep ∈ TB := tb_at 1564 (by decide +kernel) (by decide +kernel)
theorem kw_1565 : Cond.selects "FrequencyShelfModel" yX12_sweep yX12_sweep ∈ TB := tb_at 1565 (by decide +kernel) (by decide +kernel)
theorem cv_X12_sweep : Cond.code yX12_sweep cX12_sweep 1 (some .int) ∈ TB ∧ Cond.instanceMethod yX12_sweep ∈ TB ∧ Cond.selects "FrequencyShelfModel" yX12_sweep yX12_sweep ∈ TB ∧ Cond.initialized "FrequencyShelfModel" ∈ TB := ⟨kw_1566, kw_1564, kw_1565, kw_75⟩
theorem kw_839 : Cond.methodLink "FrequencyShelfLaw" 113 yX11_toGo ∈ TB := tb_at 839 (by decide +kernel) (by decide +kernel)
theorem kw_842 : Cond.code yX11_toGo cX11_toGo 4 (some .int) ∈ TB := tb_at 842 (by decide +kernel) (by decide +kernel)
theorem kw_840 : Cond.instanceMethod yX11_toGo ∈ TB := tb_at 840 (by decide +kernel) (by decide +kernel)
theorem kw_841 : Cond.selects "FrequencyShelf" yX11_toGo yX11_toGo ∈ TB := tb_at 841 (by decide +kernel) (by decide +kernel)
theorem cv_X11_toGo : Cond.code yX11_toGo cX11_toGo 4 (some .int) ∈ TB ∧ Cond.instanceMethod yX11_toGo ∈ TB ∧ Cond.selects "FrequencyShelf" yX11_toGo yX11_toGo ∈ TB ∧ Cond.initialized "FrequencyShelf" ∈ TB := ⟨kw_842, kw_840, kw_841, kw_63⟩
theorem kw_1571 : Cond.methodLink "FrequencyShelfLaw" 116 yX12_toGo ∈ TB := tb_at 1571 (by decide +kernel) (by decide +kernel)
theorem kw_1574 : Cond.code yX12_toGo cX12_toGo 4 (some .int) ∈ TB := tb_at 1574 (by decide +kernel) (by decide +kernel)
theorem kw_1572 : Cond.instanceMethod yX12_toGo ∈ TB := tb_at 1572 (by decide +kernel) (by decide +kernel)
theorem kw_1573 : Cond.selects "FrequencyShelfModel" yX12_toGo yX12_toGo ∈ TB := tb_at 1573 (by decide +kernel) (by decide +kernel)
theorem cv_X12_toGo : Cond.code yX12_toGo cX12_toGo 4 (some .int) ∈ TB ∧ Cond.instanceMethod yX12_toGo ∈ TB ∧ Cond.selects "FrequencyShelfModel" yX12_toGo yX12_toGo ∈ TB ∧ Cond.initialized "FrequencyShelfModel" ∈ TB := ⟨kw_1574, kw_1572, kw_1573, kw_75⟩
theorem kw_848 : Cond.methodLink "FrequencyShelfLaw" 117 yX11_would ∈ TB := tb_at 848 (by decide +kernel) (by decide +kernel)
theorem kw_851 : Cond.code yX11_would cX11_would 3 (some .int) ∈ TB := tb_at 851 (by decide +kernel) (by decide +kernel)
theorem kw_849 : Cond.instanceMethod yX11_would ∈ TB := tb_at 849 (by decide +kernel) (by decide +kernel)
theorem kw_850 : Cond.selects "FrequencyShelf" yX11_would yX11_would ∈ TB := tb_at 850 (by decide +kernel) (by decide +kernel)
theorem cv_X11_would : Cond.code yX11_would cX11_would 3 (some .int) ∈ TB ∧ Cond.instanceMethod yX11_would ∈ TB ∧ Cond.selects "FrequencyShelf" yX11_would yX11_would ∈ TB ∧ Cond.initialized "FrequencyShelf" ∈ TB := ⟨kw_851, kw_849, kw_850, kw_63⟩
theorem kw_1579 : Cond.methodLink "FrequencyShelfLaw" 120 yX12_would ∈ TB := tb_at 1579 (by decide +kernel) (by decide +kernel)
theorem kw_1582 : Cond.code yX12_would cX12_would 8 (some .int) ∈ TB := tb_at 1582 (by decide +kernel) (by decide +kernel)
theorem kw_1580 : Cond.instanceMethod yX12_would ∈ TB := tb_at 1580 (by decide +kernel) (by decide +kernel)
theorem kw_1581 : Cond.selects "FrequencyShelfModel" yX12_would yX12_would ∈ TB := tb_at 1581 (by decide +kernel) (by decide +kernel)
theorem cv_X12_would : Cond.code yX12_would cX12_would 8 (some .int) ∈ TB ∧ Cond.instanceMethod yX12_would ∈ TB ∧ Cond.selects "FrequencyShelfModel" yX12_would yX12_would ∈ TB ∧ Cond.initialized "FrequencyShelfModel" ∈ TB := ⟨kw_1582, kw_1580, kw_1581, kw_75⟩
theorem kw_856 : Cond.methodLink "FrequencyShelfLaw" 121 yX11_cold ∈ TB := tb_at 856 (by decide +kernel) (by decide +kernel)
theorem kw_859 : Cond.code yX11_cold cX11_cold 3 (some .int) ∈ TB := tb_at 859 (by decide +kernel) (by decide +kernel)
theorem kw_857 : Cond.instanceMethod yX11_cold ∈ TB := tb_at 857 (by decide +kernel) (by decide +kernel)
theorem kw_858 : Cond.selects "FrequencyShelf" yX11_cold yX11_cold ∈ TB := tb_at 858 (by decide +kernel) (by decide +kernel)
theorem cv_X11_cold : Cond.code yX11_cold cX11_cold 3 (some .int) ∈ TB ∧ Cond.instanceMethod yX11_cold ∈ TB ∧ Cond.selects "FrequencyShelf" yX11_cold yX11_cold ∈ TB ∧ Cond.initialized "FrequencyShelf" ∈ TB := ⟨kw_859, kw_857, kw_858, kw_63⟩
theorem kw_1583 : Cond.methodLink "FrequencyShelfLaw" 124 yX12_cold ∈ TB := tb_at 1583 (by decide +kernel) (by decide +kernel)
theorem kw_1586 : Cond.code yX12_cold cX12_cold 3 (some .int) ∈ TB := tb_at 1586 (by decide +kernel) (by decide +kernel)
theorem kw_1584 : Cond.instanceMethod yX12_cold ∈ TB := tb_at 1584 (by decide +kernel) (by decide +kernel)
theorem kw_1585 : Cond.selects "FrequencyShelfModel" yX12_cold yX12_cold ∈ TB := tb_at 1585 (by decide +kernel) (by decide +kernel)
theorem cv_X12_cold : Cond.code yX12_cold cX12_cold 3 (some .int) ∈ TB ∧ Cond.instanceMethod yX12_cold ∈ TB ∧ Cond.selects "FrequencyShelfModel" yX12_cold yX12_cold ∈ TB ∧ Cond.initialized "FrequencyShelfModel" ∈ TB := ⟨kw_1586, kw_1584, kw_1585, kw_75⟩
theorem kw_861 : Cond.methodLink "FrequencyShelfLaw" 125 yX11_follows ∈ TB := tb_at 861 (by decide +kernel) (by decide +kernel)
theorem kw_864 : Cond.code yX11_follows cX11_follows 4 (some .int) ∈ TB := tb_at 864 (by decide +kernel) (by decide +kernel)
theorem kw_862 : Cond.instanceMethod yX11_follows ∈ TB := tb_at 862 (by decide +kernel) (by decide +kernel)
theorem kw_863 : Cond.selects "FrequencyShelf" yX11_follows yX11_follows ∈ TB := tb_at 863 (by decide +kernel) (by decide +kernel)
theorem cv_X11_follows : Cond.code yX11_follows cX11_follows 4 (some .int) ∈ TB ∧ Cond.instanceMethod yX11_follows ∈ TB ∧ Cond.selects "FrequencyShelf" yX11_follows yX11_follows ∈ TB ∧ Cond.initialized "FrequencyShelf" ∈ TB := ⟨kw_864, kw_862, kw_863, kw_63⟩
theorem kw_1587 : Cond.methodLink "FrequencyShelfLaw" 128 yX12_follows ∈ TB := tb_at 1587 (by decide +kernel) (by decide +kernel)
theorem kw_1590 : Cond.code yX12_follows cX12_follows 8 (some .int) ∈ TB := tb_at 1590 (by decide +kernel) (by decide +kernel)
theorem kw_1588 : Cond.instanceMethod yX12_follows ∈ TB := tb_at 1588 (by decide +kernel) (by decide +kernel)
theorem kw_1589 : Cond.selects "FrequencyShelfModel" yX12_follows yX12_follows ∈ TB := tb_at 1589 (by decide +kernel) (by decide +kernel)
theorem cv_X12_follows : Cond.code yX12_follows cX12_follows 8 (some .int) ∈ TB ∧ Cond.instanceMethod yX12_follows ∈ TB ∧ Cond.selects "FrequencyShelfModel" yX12_follows yX12_follows ∈ TB ∧ Cond.initialized "FrequencyShelfModel" ∈ TB := ⟨kw_1590, kw_1588, kw_1589, kw_75⟩
theorem kw_876 : Cond.methodLink "FrequencyShelfLaw" 129 yX11_replay ∈ TB := tb_at 876 (by decide +kernel) (by decide +kernel)
theorem kw_879 : Cond.code yX11_replay cX11_replay 3 (some .int) ∈ TB := tb_at 879 (by decide +kernel) (by decide +kernel)
theorem kw_877 : Cond.instanceMethod yX11_replay ∈ TB := tb_at 877 (by decide +kernel) (by decide +kernel)
theorem kw_878 : Cond.selects "FrequencyShelf" yX11_replay yX11_replay ∈ TB := tb_at 878 (by decide +kernel) (by decide +kernel)
theorem cv_X11_replay : Cond.code yX11_replay cX11_replay 3 (some .int) ∈ TB ∧ Cond.instanceMethod yX11_replay ∈ TB ∧ Cond.selects "FrequencyShelf" yX11_replay yX11_replay ∈ TB ∧ Cond.initialized "FrequencyShelf" ∈ TB := ⟨kw_879, kw_877, kw_878, kw_63⟩
theorem kw_1629 : Cond.methodLink "FrequencyShelfLaw" 132 yX12_replay ∈ TB := tb_at 1629 (by decide +kernel) (by decide +kernel)
theorem kw_1632 : Cond.code yX12_replay cX12_replay 7 (some .int) ∈ TB := tb_at 1632 (by decide +kernel) (by decide +kernel)
theorem kw_1630 : Cond.instanceMethod yX12_replay ∈ TB := tb_at 1630 (by decide +kernel) (by decide +kernel)
theorem kw_1631 : Cond.selects "FrequencyShelfModel" yX12_replay yX12_replay ∈ TB := tb_at 1631 (by decide +kernel) (by decide +kernel)
theorem cv_X12_replay : Cond.code yX12_replay cX12_replay 7 (some .int) ∈ TB ∧ Cond.instanceMethod yX12_replay ∈ TB ∧ Cond.selects "FrequencyShelfModel" yX12_replay yX12_replay ∈ TB ∧ Cond.initialized "FrequencyShelfModel" ∈ TB := ⟨kw_1632, kw_1630, kw_1631, kw_75⟩
theorem kw_912 : Cond.methodLink "FrequencyShelfLaw" 133 yX11_replayed ∈ TB := tb_at 912 (by decide +kernel) (by decide +kernel)
theorem kw_915 : Cond.code yX11_replayed cX11_replayed 3 (some .int) ∈ TB := tb_at 915 (by decide +kernel) (by decide +kernel)
theorem kw_913 : Cond.instanceMethod yX11_replayed ∈ TB := tb_at 913 (by decide +kernel) (by decide +kernel)
theorem kw_914 : Cond.selects "FrequencyShelf" yX11_replayed yX11_replayed ∈ TB := tb_at 914 (by decide +kernel) (by decide +kernel)
theorem cv_X11_replayed : Cond.code yX11_replayed cX11_replayed 3 (some .int) ∈ TB ∧ Cond.instanceMethod yX11_replayed ∈ TB ∧ Cond.selects "FrequencyShelf" yX11_replayed yX11_replayed ∈ TB ∧ Cond.initialized "FrequencyShelf" ∈ TB := ⟨kw_915, kw_913, kw_914, kw_63⟩
theorem kw_1644 : Cond.methodLink "FrequencyShelfLaw" 136 yX12_replayed ∈ TB := tb_at 1644 (by decide +kernel) (by decide +kernel)
theorem kw_1647 : Cond.code yX12_replayed cX12_replayed 4 (some .int) ∈ TB := tb_at 1647 (by decide +kernel) (by decide +kernel)
theorem kw_1645 : Cond.instanceMethod yX12_replayed ∈ TB := tb_at 1645 (by decide +kernel) (by decide +kernel)
theorem kw_1646 : Cond.selects "FrequencyShelfModel" yX12_replayed yX12_replayed ∈ TB := tb_at 1646 (by decide +kernel) (by decide +kernel)
theorem cv_X12_replayed : Cond.code yX12_replayed cX12_replayed 4 (some .int) ∈ TB ∧ Cond.instanceMethod yX12_replayed ∈ TB ∧ Cond.selects "FrequencyShelfModel" yX12_replayed yX12_replayed ∈ TB ∧ Cond.initialized "FrequencyShelfModel" ∈ TB := ⟨kw_1647, kw_1645, kw_1646, kw_75⟩
theorem kw_1143 : Cond.methodLink "FrequencyShelfLaw" 141 yX11_book ∈ TB := tb_at 1143 (by decide +kernel) (by decide +kernel)
theorem kw_1146 : Cond.code yX11_book cX11_book 3 (some .long) ∈ TB := tb_at 1146 (by decide +kernel) (by decide +kernel)
theorem kw_1144 : Cond.instanceMethod yX11_book ∈ TB := tb_at 1144 (by decide +kernel) (by decide +kernel)
theorem kw_1145 : Cond.selects "FrequencyShelf" yX11_book yX11_book ∈ TB := tb_at 1145 (by decide +kernel) (by decide +kernel)
theorem cv_X11_book : Cond.code yX11_book cX11_book 3 (some .long) ∈ TB ∧ Cond.instanceMethod yX11_book ∈ TB ∧ Cond.selects "FrequencyShelf" yX11_book yX11_book ∈ TB ∧ Cond.initialized "FrequencyShelf" ∈ TB := ⟨kw_1146, kw_1144, kw_1145, kw_63⟩
theorem kw_1648 : Cond.methodLink "FrequencyShelfLaw" 145 yX12_book ∈ TB := tb_at 1648 (by decide +kernel) (by decide +kernel)
theorem kw_1651 : Cond.code yX12_book cX12_book 3 (some .long) ∈ TB := tb_at 1651 (by decide +kernel) (by decide +kernel)
theorem kw_1649 : Cond.instanceMethod yX12_book ∈ TB := tb_at 1649 (by decide +kernel) (by decide +kernel)
theorem kw_1650 : Cond.selects "FrequencyShelfModel" yX12_book yX12_book ∈ TB := tb_at 1650 (by decide +kernel) (by decide +kernel)
theorem cv_X12_book : Cond.code yX12_book cX12_book 3 (some .long) ∈ TB ∧ Cond.instanceMethod yX12_book ∈ TB ∧ Cond.selects "FrequencyShelfModel" yX12_book yX12_book ∈ TB ∧ Cond.initialized "FrequencyShelfModel" ∈ TB := ⟨kw_1651, kw_1649, kw_1650, kw_75⟩
theorem kw_1149 : Cond.methodLink "FrequencyShelfLaw" 146 yX11_led ∈ TB := tb_at 1149 (by decide +kernel) (by decide +kernel)
theorem kw_1152 : Cond.code yX11_led cX11_led 2 (some .long) ∈ TB := tb_at 1152 (by decide +kernel) (by decide +kernel)
theorem kw_1150 : Cond.instanceMethod yX11_led ∈ TB := tb_at 1150 (by decide +kernel) (by decide +kernel)
theorem kw_1151 : Cond.selects "FrequencyShelf" yX11_led yX11_led ∈ TB := tb_at 1151 (by decide +kernel) (by decide +kernel)
theorem cv_X11_led : Cond.code yX11_led cX11_led 2 (some .long) ∈ TB ∧ Cond.instanceMethod yX11_led ∈ TB ∧ Cond.selects "FrequencyShelf" yX11_led yX11_led ∈ TB ∧ Cond.initialized "FrequencyShelf" ∈ TB := ⟨kw_1152, kw_1150, kw_1151, kw_63⟩
theorem kw_1654 : Cond.methodLink "FrequencyShelfLaw" 150 yX12_led ∈ TB := tb_at 1654 (by decide +kernel) (by decide +kernel)
theorem kw_1657 : Cond.code yX12_led cX12_led 2 (some .long) ∈ TB := tb_at 1657 (by decide +kernel) (by decide +kernel)
theorem kw_1655 : Cond.instanceMethod yX12_led ∈ TB := tb_at 1655 (by decide +kernel) (by decide +kernel)
theorem kw_1656 : Cond.selects "FrequencyShelfModel" yX12_led yX12_led ∈ TB := tb_at 1656 (by decide +kernel) (by decide +kernel)
theorem cv_X12_led : Cond.code yX12_led cX12_led 2 (some .long) ∈ TB ∧ Cond.instanceMethod yX12_led ∈ TB ∧ Cond.selects "FrequencyShelfModel" yX12_led yX12_led ∈ TB ∧ Cond.initialized "FrequencyShelfModel" ∈ TB := ⟨kw_1657, kw_1655, kw_1656, kw_75⟩
theorem kw_1157 : Cond.methodLink "FrequencyShelfLaw" 151 yX11_image ∈ TB := tb_at 1157 (by decide +kernel) (by decide +kernel)
theorem kw_1160 : Cond.code yX11_image cX11_image 1 (some .int) ∈ TB := tb_at 1160 (by decide +kernel) (by decide +kernel)
theorem kw_1158 : Cond.instanceMethod yX11_image ∈ TB := tb_at 1158 (by decide +kernel) (by decide +kernel)
theorem kw_1159 : Cond.selects "FrequencyShelf" yX11_image yX11_image ∈ TB := tb_at 1159 (by decide +kernel) (by decide +kernel)
theorem cv_X11_image : Cond.code yX11_image cX11_image 1 (some .int) ∈ TB ∧ Cond.instanceMethod yX11_image ∈ TB ∧ Cond.selects "FrequencyShelf" yX11_image yX11_image ∈ TB ∧ Cond.initialized "FrequencyShelf" ∈ TB := ⟨kw_1160, kw_1158, kw_1159, kw_63⟩
theorem kw_1658 : Cond.methodLink "FrequencyShelfLaw" 154 yX12_image ∈ TB := tb_at 1658 (by decide +kernel) (by decide +kernel)
theorem kw_1661 : Cond.code yX12_image cX12_image 1 (some .int) ∈ TB := tb_at 1661 (by decide +kernel) (by decide +kernel)
theorem kw_1659 : Cond.instanceMethod yX12_image ∈ TB := tb_at 1659 (by decide +kernel) (by decide +kernel)
theorem kw_1660 : Cond.selects "FrequencyShelfModel" yX12_image yX12_image ∈ TB := tb_at 1660 (by decide +kernel) (by decide +kernel)
theorem cv_X12_image : Cond.code yX12_image cX12_image 1 (some .int) ∈ TB ∧ Cond.instanceMethod yX12_image ∈ TB ∧ Cond.selects "FrequencyShelfModel" yX12_image yX12_image ∈ TB ∧ Cond.initialized "FrequencyShelfModel" ∈ TB := ⟨kw_1661, kw_1659, kw_1660, kw_75⟩
theorem kw_1203 : Cond.methodLink "FrequencyShelfLaw" 155 yX11_back ∈ TB := tb_at 1203 (by decide +kernel) (by decide +kernel)
theorem kw_1206 : Cond.code yX11_back cX11_back 1 (some .int) ∈ TB := tb_at 1206 (by decide +kernel) (by decide +kernel)
theorem kw_1204 : Cond.instanceMethod yX11_back ∈ TB := tb_at 1204 (by decide +kernel) (by decide +kernel)
theorem kw_1205 : Cond.selects "FrequencyShelf" yX11_back yX11_back ∈ TB := tb_at 1205 (by decide +kernel) (by decide +kernel)
theorem cv_X11_back : Cond.code yX11_back cX11_back 1 (some .int) ∈ TB ∧ Cond.instanceMethod yX11_back ∈ TB ∧ Cond.selects "FrequencyShelf" yX11_back yX11_back ∈ TB ∧ Cond.initialized "FrequencyShelf" ∈ TB := ⟨kw_1206, kw_1204, kw_1205, kw_63⟩
theorem kw_1665 : Cond.methodLink "FrequencyShelfLaw" 158 yX12_back ∈ TB := tb_at 1665 (by decide +kernel) (by decide +kernel)
theorem kw_1668 : Cond.code yX12_back cX12_back 1 (some .int) ∈ TB := tb_at 1668 (by decide +kernel) (by decide +kernel)
theorem kw_1666 : Cond.instanceMethod yX12_back ∈ TB := tb_at 1666 (by decide +kernel) (by decide +kernel)
theorem kw_1667 : Cond.selects "FrequencyShelfModel" yX12_back yX12_back ∈ TB := tb_at 1667 (by decide +kernel) (by decide +kernel)
theorem cv_X12_back : Cond.code yX12_back cX12_back 1 (some .int) ∈ TB ∧ Cond.instanceMethod yX12_back ∈ TB ∧ Cond.selects "FrequencyShelfModel" yX12_back yX12_back ∈ TB ∧ Cond.initialized "FrequencyShelfModel" ∈ TB := ⟨kw_1668, kw_1666, kw_1667, kw_75⟩
theorem kw_1207 : Cond.methodLink "FrequencyShelfLaw" 159 yX11_count ∈ TB := tb_at 1207 (by decide +kernel) (by decide +kernel)
theorem kw_1210 : Cond.code yX11_count cX11_count 2 (some .int) ∈ TB := tb_at 1210 (by decide +kernel) (by decide +kernel)
theorem kw_1208 : Cond.instanceMethod yX11_count ∈ TB := tb_at 1208 (by decide +kernel) (by decide +kernel)
theorem kw_1209 : Cond.selects "FrequencyShelf" yX11_count yX11_count ∈ TB := tb_at 1209 (by decide +kernel) (by decide +kernel)
theorem cv_X11_count : Cond.code yX11_count cX11_count 2 (some .int) ∈ TB ∧ Cond.instanceMethod yX11_count ∈ TB ∧ Cond.selects "FrequencyShelf" yX11_count yX11_count ∈ TB ∧ Cond.initialized "FrequencyShelf" ∈ TB := ⟨kw_1210, kw_1208, kw_1209, kw_63⟩
theorem kw_1669 : Cond.methodLink "FrequencyShelfLaw" 162 yX12_count ∈ TB := tb_at 1669 (by decide +kernel) (by decide +kernel)
theorem kw_1672 : Cond.code yX12_count cX12_count 4 (some .int) ∈ TB := tb_at 1672 (by decide +kernel) (by decide +kernel)
theorem kw_1670 : Cond.instanceMethod yX12_count ∈ TB := tb_at 1670 (by decide +kernel) (by decide +kernel)
theorem kw_1671 : Cond.selects "FrequencyShelfModel" yX12_count yX12_count ∈ TB := tb_at 1671 (by decide +kernel) (by decide +kernel)
theorem cv_X12_count : Cond.code yX12_count cX12_count 4 (some .int) ∈ TB ∧ Cond.instanceMethod yX12_count ∈ TB ∧ Cond.selects "FrequencyShelfModel" yX12_count yX12_count ∈ TB ∧ Cond.initialized "FrequencyShelfModel" ∈ TB := ⟨kw_1672, kw_1670, kw_1671, kw_75⟩
abbrev cX11_text : ByteArray := prog_1_method_33_code
def yX11_text : MethodName := ⟨RX11, "text", "(II)I"⟩
theorem dX11_text_0 : decode cX11_text 0 = .ok (.iload_n 1, 1) := by decide +kernel
theorem dX11_text_1 : decode cX11_text 1 = .ok (.ifCond .lt 8, 3) := by decide +kernel
theorem dX11_text_4 : decode cX11_text 4 = .ok (.iload_n 2, 1) := by decide +kernel
theorem dX11_text_5 : decode cX11_text 5 = .ok (.iconst (-1), 1) := by decide +kernel
theorem dX11_text_6 : decode cX11_text 6 = .ok (.if_icmp .ge 7, 3) := by decide +kernel
theorem dX11_text_9 : decode cX11_text 9 = .ok (.sipush (-1001), 3) := by decide +kernel
theorem dX11_text_12 : decode cX11_text 12 = .ok (.ireturn, 1) := by decide +kernel
theorem dX11_text_13 : decode cX11_text 13 = .ok (.aload_n 0, 1) := by decide +kernel
theorem dX11_text_14 : decode cX11_text 14 = .ok (.getfield 53, 3) := by decide +kernel
theorem dX11_text_17 : decode cX11_text 17 = .ok (.getfield 129, 3) := by decide +kernel
theorem dX11_text_20 : decode cX11_text 20 = .ok (.iload_n 1, 1) := by decide +kernel
theorem dX11_text_21 : decode cX11_text 21 = .ok (.invokevirtual 272, 3) := by decide +kernel
theorem dX11_text_24 : decode cX11_text 24 = .ok (.istore_n 3, 1) := by decide +kernel
theorem dX11_text_25 : decode cX11_text 25 = .ok (.iload_n 3, 1) := by decide +kernel
theorem dX11_text_26 : decode cX11_text 26 = .ok (.iconst (-1), 1) := by decide +kernel
theorem dX11_text_27 : decode cX11_text 27 = .ok (.if_icmp .ne 7, 3) := by decide +kernel
theorem dX11_text_30 : decode cX11_text 30 = .ok (.sipush (-1003), 3) := by decide +kernel
theorem dX11_text_33 : decode cX11_text 33 = .ok (.ireturn, 1) := by decide +kernel
theorem dX11_text_34 : decode cX11_text 34 = .ok (.new 299, 3) := by decide +kernel
theorem dX11_text_37 : decode cX11_text 37 = .ok (.dup, 1) := by decide +kernel
theorem dX11_text_38 : decode cX11_text 38 = .ok (.invokespecial 301, 3) := by decide +kernel
theorem dX11_text_41 : decode cX11_text 41 = .ok (.astore 4, 2) := by decide +kernel
theorem dX11_text_43 : decode cX11_text 43 = .ok (.aload_n 0, 1) := by decide +kernel
theorem dX11_text_44 : decode cX11_text 44 = .ok (.getfield 53, 3) := by decide +kernel
theorem dX11_text_47 : decode cX11_text 47 = .ok (.getfield 129, 3) := by decide +kernel
theorem dX11_text_50 : decode cX11_text 50 = .ok (.iload_n 3, 1) := by decide +kernel
theorem dX11_text_51 : decode cX11_text 51 = .ok (.aload 4, 2) := by decide +kernel
theorem dX11_text_53 : decode cX11_text 53 = .ok (.invokevirtual 302, 3) := by decide +kernel
theorem dX11_text_56 : decode cX11_text 56 = .ok (.iload_n 2, 1) := by decide +kernel
theorem dX11_text_57 : decode cX11_text 57 = .ok (.iconst (-1), 1) := by decide +kernel
theorem dX11_text_58 : decode cX11_text 58 = .ok (.if_icmp .ne 9, 3) := by decide +kernel
theorem dX11_text_61 : decode cX11_text 61 = .ok (.aload 4, 2) := by decide +kernel
theorem dX11_text_63 : decode cX11_text 63 = .ok (.invokevirtual 306, 3) := by decide +kernel
theorem dX11_text_66 : decode cX11_text 66 = .ok (.ireturn, 1) := by decide +kernel
theorem dX11_text_67 : decode cX11_text 67 = .ok (.iload_n 2, 1) := by decide +kernel
theorem dX11_text_68 : decode cX11_text 68 = .ok (.aload 4, 2) := by decide +kernel
theorem dX11_text_70 : decode cX11_text 70 = .ok (.invokevirtual 306, 3) := by decide +kernel
theorem dX11_text_73 : decode cX11_text 73 = .ok (.if_icmp .ge 12, 3) := by decide +kernel
theorem dX11_text_76 : decode cX11_text 76 = .ok (.aload 4, 2) := by decide +kernel
theorem dX11_text_78 : decode cX11_text 78 = .ok (.iload_n 2, 1) := by decide +kernel
theorem dX11_text_79 : decode cX11_text 79 = .ok (.invokevirtual 308, 3) := by decide +kernel
theorem dX11_text_82 : decode cX11_text 82 = .ok (.goto 6, 3) := by decide +kernel
theorem dX11_text_85 : decode cX11_text 85 = .ok (.sipush (-1003), 3) := by decide +kernel
theorem dX11_text_88 : decode cX11_text 88 = .ok (.ireturn, 1) := by decide +kernel
theorem kw_916 : Cond.methodLink "FrequencyShelfLaw" 137 yX11_text ∈ TB := tb_at 916 (by decide +kernel) (by decide +kernel)
theorem kw_919 : Cond.code yX11_text cX11_text 5 (some .int) ∈ TB := tb_at 919 (by decide +kernel) (by decide +kernel)
theorem kw_917 : Cond.instanceMethod yX11_text ∈ TB := tb_at 917 (by decide +kernel) (by decide +kernel)
theorem kw_918 : Cond.selects "FrequencyShelf" yX11_text yX11_text ∈ TB := tb_at 918 (by decide +kernel) (by decide +kernel)
theorem cv_X11_text : Cond.code yX11_text cX11_text 5 (some .int) ∈ TB ∧ Cond.instanceMethod yX11_text ∈ TB ∧ Cond.selects "FrequencyShelf" yX11_text yX11_text ∈ TB ∧ Cond.initialized "FrequencyShelf" ∈ TB := ⟨kw_919, kw_917, kw_918, kw_63⟩
theorem kw_1591 : Cond.methodLink "FrequencyShelfLaw" 140 yX12_text ∈ TB := tb_at 1591 (by decide +kernel) (by decide +kernel)
theorem kw_1594 : Cond.code yX12_text cX12_text 6 (some .int) ∈ TB := tb_at 1594 (by decide +kernel) (by decide +kernel)
theorem kw_1592 : Cond.instanceMethod yX12_text ∈ TB := tb_at 1592 (by decide +kernel) (by decide +kernel)
theorem kw_1593 : Cond.selects "FrequencyShelfModel" yX12_text yX12_text ∈ TB := tb_at 1593 (by decide +kernel) (by decide +kernel)
theorem cv_X12_text : Cond.code yX12_text cX12_text 6 (some .int) ∈ TB ∧ Cond.instanceMethod yX12_text ∈ TB ∧ Cond.selects "FrequencyShelfModel" yX12_text yX12_text ∈ TB ∧ Cond.initialized "FrequencyShelfModel" ∈ TB := ⟨kw_1594, kw_1592, kw_1593, kw_75⟩
/-- what text's case asks: both sides -/
def TEXTLAW (E : mE) (l : Launch) : Prop := ∀ (hx hm hat hru hle hsh hlo : Nat) (kv : Value) (kept : Nat → Int32) (isKept : Int32) (n : Nat), n < 512 → ∀ (w1 w2 : va_W), LI E hx hm hat hru hle hsh hlo kv kept isKept n w1 w2 → ∀ x1 x2 : Int32, KC Value.int .int E l hx hm hat hru hle hsh hlo kv kept isKept n w1 w2 yX11_text cX11_text 5 yX12_text cX12_text 6 [.int x1, .int x2]
theorem lc_rule {E : mE} {p : Program} {l : Launch} {e : Env} {s : State} {m : MethodId} {below : List Frame} {meth : Method} {c : Code} {b L : Nat} {xs : Nat → Int32} {A : Nat → Prop} {Q : State → Prop} {cells slots i n hx hm : Nat} {H : Heap} {locs : List Loc} {ls : Array Slot} {w1 w2 kw : va_W} (F : LF E p s m c b A) (X : va_X b L xs s s.heap) (hbl : b < s.heap.size) (hbA : ¬ A b) (i1 : vp_in (nI i + 1) L) (i2 : vp_in (nI i + 2) L) (i3 : vp_in (nI i + 3) L) (hc : n < 512) (hS : LSt E hx hm n w1 w2 kw) (w : mW E A s (w1 ++ (w2 ++ kw)) H locs) (hl : lv_has ls 4 [(0, .ref b), (1, .ref hx), (2, .ref hm), (3, .int (nI i))]) (hf : cells + 90 + 90 ≤ 96002 ∧ slots + 8500 + 8500 ≤ 8814244) (next : ∀ (w1 w2 kw : va_W) (H : Heap) (locs : List Loc), LSt E hx hm (n + 1) w1 w2 kw → mW E A s (w1 ++ (w2 ++ kw)) H locs → W p l e room_1 s m #[Value.ref b] below meth c H locs (cells + 90 + 90) (slots + 8500 + 8500) Q (F0 m 1112 ls [])) : W p l e room_1 s m #[Value.ref b] below meth c H locs cells slots Q (F0 m 192 ls []) := by
  obtain ⟨hat, hru, hle, hsh, hlo, kv, kept, isKept, hI, hK⟩ := hS
  obtain ⟨fs1, e1⟩ := hI.x0
  obtain ⟨fs2, e2⟩ := hI.m0
  obtain ⟨r, P1, P2, C1, C2, hnx⟩ := lk_rule (l := l) hc hI (xs (nI i + 1).toNatClampNeg) (xs (nI i + 2).toNatClampNeg)
  refine lv_aload_n F.1.1 F.1.2.1 dL_law_192 rfl (lv_at hl 1 rfl) ?_
  refine lv_aload_n F.1.1 F.1.2.1 dL_law_193 rfl (lv_at hl 0 rfl) ?_
  refine lv_iload_n F.1.1 F.1.2.1 dL_law_194 rfl (lv_at hl 3 rfl) ?_
  refine lv_iconst (v := 1) F.1.1 F.1.2.1 dL_law_195 (by decide) ?_
  refine lv_iadd F.1.1 F.1.2.1 dL_law_196 ?_
  refine va_sld F.1.1 F.1.2.1 X hbl hbA w.2.2 i1 dL_law_197 ?_
  refine lv_aload_n F.1.1 F.1.2.1 dL_law_198 rfl (lv_at hl 0 rfl) ?_
  refine lv_iload_n F.1.1 F.1.2.1 dL_law_199 rfl (lv_at hl 3 rfl) ?_
  refine lv_iconst (v := 2) F.1.1 F.1.2.1 dL_law_200 (by decide) ?_
  refine lv_iadd F.1.1 F.1.2.1 dL_law_201 ?_
  refine va_sld F.1.1 F.1.2.1 X hbl hbA w.2.2 i2 dL_law_202 ?_
  refine lw_call (As := [.int (xs (nI i + 1).toNatClampNeg), .int (xs (nI i + 2).toNatClampNeg)]) (rest := []) F C1 w (List.Perm.refl _) (ci := 10) rfl e1 cv_X11_rule kw_329 2 (by decide +kernel) rfl hl.1 rfl (Nat.le_of_ble_eq_true rfl) dL_law_203 ⟨by omega, by omega⟩ (fun u1 H locs p1 w => ?_)
  refine lv_aload_n F.1.1 F.1.2.1 dL_law_206 rfl (lv_at hl 2 rfl) ?_
  refine lv_aload_n F.1.1 F.1.2.1 dL_law_207 rfl (lv_at hl 0 rfl) ?_
  refine lv_iload_n F.1.1 F.1.2.1 dL_law_208 rfl (lv_at hl 3 rfl) ?_
  refine lv_iconst (v := 1) F.1.1 F.1.2.1 dL_law_209 (by decide) ?_
  refine lv_iadd F.1.1 F.1.2.1 dL_law_210 ?_
  refine va_sld F.1.1 F.1.2.1 X hbl hbA w.2.2 i1 dL_law_211 ?_
  refine lv_aload_n F.1.1 F.1.2.1 dL_law_212 rfl (lv_at hl 0 rfl) ?_
  refine lv_iload_n F.1.1 F.1.2.1 dL_law_213 rfl (lv_at hl 3 rfl) ?_
  refine lv_iconst (v := 2) F.1.1 F.1.2.1 dL_law_214 (by decide) ?_
  refine lv_iadd F.1.1 F.1.2.1 dL_law_215 ?_
  refine va_sld F.1.1 F.1.2.1 X hbl hbA w.2.2 i2 dL_law_216 ?_
  refine lw_call (As := [.int (xs (nI i + 1).toNatClampNeg), .int (xs (nI i + 2).toNatClampNeg)]) (rest := [.int r]) F C2 w (by rw [List.append_assoc]) (ci := 11) rfl e2 cv_X12_rule kw_1310 2 (by decide +kernel) rfl hl.1 rfl (Nat.le_of_ble_eq_true rfl) dL_law_217 ⟨by omega, by omega⟩ (fun u2 H locs p2 w => ?_)
  refine lv_icmp_eq (tgt := 1112) F.1.1 F.1.2.1 dL_law_220 (by decide) (fun _ => ?_) (fun hne => absurd rfl hne)
  exact next _ _ _ H locs ⟨hat, hru, hle, hsh, hlo, kv, kept, isKept, hnx _ _ p1 p2, hK.up⟩ (w.perm (lz_p3 u1 u2 kw))
theorem lc_step {E : mE} {p : Program} {l : Launch} {e : Env} {s : State} {m : MethodId} {below : List Frame} {meth : Method} {c : Code} {b L : Nat} {xs : Nat → Int32} {A : Nat → Prop} {Q : State → Prop} {cells slots i n hx hm : Nat} {H : Heap} {locs : List Loc} {ls : Array Slot} {w1 w2 kw : va_W} (F : LF E p s m c b A) (X : va_X b L xs s s.heap) (hbl : b < s.heap.size) (hbA : ¬ A b) (i1 : vp_in (nI i + 1) L) (i2 : vp_in (nI i + 2) L) (i3 : vp_in (nI i + 3) L) (hc : n < 512) (hS : LSt E hx hm n w1 w2 kw) (w : mW E A s (w1 ++ (w2 ++ kw)) H locs) (hl : lv_has ls 4 [(0, .ref b), (1, .ref hx), (2, .ref hm), (3, .int (nI i))]) (hf : cells + 90 + 90 ≤ 96002 ∧ slots + 8500 + 8500 ≤ 8814244) (next : ∀ (w1 w2 kw : va_W) (H : Heap) (locs : List Loc), LSt E hx hm (n + 1) w1 w2 kw → mW E A s (w1 ++ (w2 ++ kw)) H locs → W p l e room_1 s m #[Value.ref b] below meth c H locs (cells + 90 + 90) (slots + 8500 + 8500) Q (F0 m 1112 ls [])) : W p l e room_1 s m #[Value.ref b] below meth c H locs cells slots Q (F0 m 225 ls []) := by
  obtain ⟨hat, hru, hle, hsh, hlo, kv, kept, isKept, hI, hK⟩ := hS
  obtain ⟨fs1, e1⟩ := hI.x0
  obtain ⟨fs2, e2⟩ := hI.m0
  obtain ⟨r, P1, P2, C1, C2, hnx⟩ := lk_step (l := l) hc hI (xs (nI i + 1).toNatClampNeg)
  refine lv_aload_n F.1.1 F.1.2.1 dL_law_225 rfl (lv_at hl 1 rfl) ?_
  refine lv_aload_n F.1.1 F.1.2.1 dL_law_226 rfl (lv_at hl 0 rfl) ?_
  refine lv_iload_n F.1.1 F.1.2.1 dL_law_227 rfl (lv_at hl 3 rfl) ?_
  refine lv_iconst (v := 1) F.1.1 F.1.2.1 dL_law_228 (by decide) ?_
  refine lv_iadd F.1.1 F.1.2.1 dL_law_229 ?_
  refine va_sld F.1.1 F.1.2.1 X hbl hbA w.2.2 i1 dL_law_230 ?_
  refine lw_call (As := [.int (xs (nI i + 1).toNatClampNeg)]) (rest := []) F C1 w (List.Perm.refl _) (ci := 10) rfl e1 cv_X11_step kw_480 1 (by decide +kernel) rfl hl.1 rfl (Nat.le_of_ble_eq_true rfl) dL_law_231 ⟨by omega, by omega⟩ (fun u1 H locs p1 w => ?_)
  refine lv_aload_n F.1.1 F.1.2.1 dL_law_234 rfl (lv_at hl 2 rfl) ?_
  refine lv_aload_n F.1.1 F.1.2.1 dL_law_235 rfl (lv_at hl 0 rfl) ?_
  refine lv_iload_n F.1.1 F.1.2.1 dL_law_236 rfl (lv_at hl 3 rfl) ?_
  refine lv_iconst (v := 1) F.1.1 F.1.2.1 dL_law_237 (by decide) ?_
  refine lv_iadd F.1.1 F.1.2.1 dL_law_238 ?_
  refine va_sld F.1.1 F.1.2.1 X hbl hbA w.2.2 i1 dL_law_239 ?_
  refine lw_call (As := [.int (xs (nI i + 1).toNatClampNeg)]) (rest := [.int r]) F C2 w (by rw [List.append_assoc]) (ci := 11) rfl e2 cv_X12_step kw_1389 1 (by decide +kernel) rfl hl.1 rfl (Nat.le_of_ble_eq_true rfl) dL_law_240 ⟨by omega, by omega⟩ (fun u2 H locs p2 w => ?_)
  refine lv_icmp_eq (tgt := 1112) F.1.1 F.1.2.1 dL_law_243 (by decide) (fun _ => ?_) (fun hne => absurd rfl hne)
  exact next _ _ _ H locs ⟨hat, hru, hle, hsh, hlo, kv, kept, isKept, hnx _ _ p1 p2, hK.up⟩ (w.perm (lz_p3 u1 u2 kw))
theorem lc_feed {E : mE} {p : Program} {l : Launch} {e : Env} {s : State} {m : MethodId} {below : List Frame} {meth : Method} {c : Code} {b L : Nat} {xs : Nat → Int32} {A : Nat → Prop} {Q : State → Prop} {cells slots i n hx hm : Nat} {H : Heap} {locs : List Loc} {ls : Array Slot} {w1 w2 kw : va_W} (F : LF E p s m c b A) (X : va_X b L xs s s.heap) (hbl : b < s.heap.size) (hbA : ¬ A b) (i1 : vp_in (nI i + 1) L) (i2 : vp_in (nI i + 2) L) (i3 : vp_in (nI i + 3) L) (hc : n < 512) (hS : LSt E hx hm n w1 w2 kw) (w : mW E A s (w1 ++ (w2 ++ kw)) H locs) (hl : lv_has ls 4 [(0, .ref b), (1, .ref hx), (2, .ref hm), (3, .int (nI i))]) (hf : cells + 90 + 90 ≤ 96002 ∧ slots + 8500 + 8500 ≤ 8814244) (next : ∀ (w1 w2 kw : va_W) (H : Heap) (locs : List Loc), LSt E hx hm (n + 1) w1 w2 kw → mW E A s (w1 ++ (w2 ++ kw)) H locs → W p l e room_1 s m #[Value.ref b] below meth c H locs (cells + 90 + 90) (slots + 8500 + 8500) Q (F0 m 1112 ls [])) : W p l e room_1 s m #[Value.ref b] below meth c H locs cells slots Q (F0 m 248 ls []) := by
  obtain ⟨hat, hru, hle, hsh, hlo, kv, kept, isKept, hI, hK⟩ := hS
  obtain ⟨fs1, e1⟩ := hI.x0
  obtain ⟨fs2, e2⟩ := hI.m0
  obtain ⟨r, P1, P2, C1, C2, hnx⟩ := lk_feed (l := l) hc hI (xs (nI i + 1).toNatClampNeg)
  refine lv_aload_n F.1.1 F.1.2.1 dL_law_248 rfl (lv_at hl 1 rfl) ?_
  refine lv_aload_n F.1.1 F.1.2.1 dL_law_249 rfl (lv_at hl 0 rfl) ?_
  refine lv_iload_n F.1.1 F.1.2.1 dL_law_250 rfl (lv_at hl 3 rfl) ?_
  refine lv_iconst (v := 1) F.1.1 F.1.2.1 dL_law_251 (by decide) ?_
  refine lv_iadd F.1.1 F.1.2.1 dL_law_252 ?_
  refine va_sld F.1.1 F.1.2.1 X hbl hbA w.2.2 i1 dL_law_253 ?_
  refine lw_call (As := [.int (xs (nI i + 1).toNatClampNeg)]) (rest := []) F C1 w (List.Perm.refl _) (ci := 10) rfl e1 cv_X11_feed kw_537 1 (by decide +kernel) rfl hl.1 rfl (Nat.le_of_ble_eq_true rfl) dL_law_254 ⟨by omega, by omega⟩ (fun u1 H locs p1 w => ?_)
  refine lv_aload_n F.1.1 F.1.2.1 dL_law_257 rfl (lv_at hl 2 rfl) ?_
  refine lv_aload_n F.1.1 F.1.2.1 dL_law_258 rfl (lv_at hl 0 rfl) ?_
  refine lv_iload_n F.1.1 F.1.2.1 dL_law_259 rfl (lv_at hl 3 rfl) ?_
  refine lv_iconst (v := 1) F.1.1 F.1.2.1 dL_law_260 (by decide) ?_
  refine lv_iadd F.1.1 F.1.2.1 dL_law_261 ?_
  refine va_sld F.1.1 F.1.2.1 X hbl hbA w.2.2 i1 dL_law_262 ?_
  refine lw_call (As := [.int (xs (nI i + 1).toNatClampNeg)]) (rest := [.int r]) F C2 w (by rw [List.append_assoc]) (ci := 11) rfl e2 cv_X12_feed kw_1270 1 (by decide +kernel) rfl hl.1 rfl (Nat.le_of_ble_eq_true rfl) dL_law_263 ⟨by omega, by omega⟩ (fun u2 H locs p2 w => ?_)
  refine lv_icmp_eq (tgt := 1112) F.1.1 F.1.2.1 dL_law_266 (by decide) (fun _ => ?_) (fun hne => absurd rfl hne)
  exact next _ _ _ H locs ⟨hat, hru, hle, hsh, hlo, kv, kept, isKept, hnx _ _ p1 p2, hK.up⟩ (w.perm (lz_p3 u1 u2 kw))
theorem lc_ask {E : mE} {p : Program} {l : Launch} {e : Env} {s : State} {m : MethodId} {below : List Frame} {meth : Method} {c : Code} {b L : Nat} {xs : Nat → Int32} {A : Nat → Prop} {Q : State → Prop} {cells slots i n hx hm : Nat} {H : Heap} {locs : List Loc} {ls : Array Slot} {w1 w2 kw : va_W} (F : LF E p s m c b A) (X : va_X b L xs s s.heap) (hbl : b < s.heap.size) (hbA : ¬ A b) (i1 : vp_in (nI i + 1) L) (i2 : vp_in (nI i + 2) L) (i3 : vp_in (nI i + 3) L) (hc : n < 512) (hS : LSt E hx hm n w1 w2 kw) (w : mW E A s (w1 ++ (w2 ++ kw)) H locs) (hl : lv_has ls 4 [(0, .ref b), (1, .ref hx), (2, .ref hm), (3, .int (nI i))]) (hf : cells + 90 + 90 ≤ 96002 ∧ slots + 8500 + 8500 ≤ 8814244) (next : ∀ (w1 w2 kw : va_W) (H : Heap) (locs : List Loc), LSt E hx hm (n + 1) w1 w2 kw → mW E A s (w1 ++ (w2 ++ kw)) H locs → W p l e room_1 s m #[Value.ref b] below meth c H locs (cells + 90 + 90) (slots + 8500 + 8500) Q (F0 m 1112 ls [])) : W p l e room_1 s m #[Value.ref b] below meth c H locs cells slots Q (F0 m 271 ls []) := by
  obtain ⟨hat, hru, hle, hsh, hlo, kv, kept, isKept, hI, hK⟩ := hS
  obtain ⟨fs1, e1⟩ := hI.x0
  obtain ⟨fs2, e2⟩ := hI.m0
  obtain ⟨r, P1, P2, C1, C2, hnx⟩ := lk_ask (l := l) hc hI (xs (nI i + 1).toNatClampNeg)
  refine lv_aload_n F.1.1 F.1.2.1 dL_law_271 rfl (lv_at hl 1 rfl) ?_
  refine lv_aload_n F.1.1 F.1.2.1 dL_law_272 rfl (lv_at hl 0 rfl) ?_
  refine lv_iload_n F.1.1 F.1.2.1 dL_law_273 rfl (lv_at hl 3 rfl) ?_
  refine lv_iconst (v := 1) F.1.1 F.1.2.1 dL_law_274 (by decide) ?_
  refine lv_iadd F.1.1 F.1.2.1 dL_law_275 ?_
  refine va_sld F.1.1 F.1.2.1 X hbl hbA w.2.2 i1 dL_law_276 ?_
  refine lw_call (As := [.int (xs (nI i + 1).toNatClampNeg)]) (rest := []) F C1 w (List.Perm.refl _) (ci := 10) rfl e1 cv_X11_ask kw_552 1 (by decide +kernel) rfl hl.1 rfl (Nat.le_of_ble_eq_true rfl) dL_law_277 ⟨by omega, by omega⟩ (fun u1 H locs p1 w => ?_)
  refine lv_aload_n F.1.1 F.1.2.1 dL_law_280 rfl (lv_at hl 2 rfl) ?_
  refine lv_aload_n F.1.1 F.1.2.1 dL_law_281 rfl (lv_at hl 0 rfl) ?_
  refine lv_iload_n F.1.1 F.1.2.1 dL_law_282 rfl (lv_at hl 3 rfl) ?_
  refine lv_iconst (v := 1) F.1.1 F.1.2.1 dL_law_283 (by decide) ?_
  refine lv_iadd F.1.1 F.1.2.1 dL_law_284 ?_
  refine va_sld F.1.1 F.1.2.1 X hbl hbA w.2.2 i1 dL_law_285 ?_
  refine lw_call (As := [.int (xs (nI i + 1).toNatClampNeg)]) (rest := [.int r]) F C2 w (by rw [List.append_assoc]) (ci := 11) rfl e2 cv_X12_ask kw_1457 1 (by decide +kernel) rfl hl.1 rfl (Nat.le_of_ble_eq_true rfl) dL_law_286 ⟨by omega, by omega⟩ (fun u2 H locs p2 w => ?_)
  refine lv_icmp_eq (tgt := 1112) F.1.1 F.1.2.1 dL_law_289 (by decide) (fun _ => ?_) (fun hne => absurd rfl hne)
  exact next _ _ _ H locs ⟨hat, hru, hle, hsh, hlo, kv, kept, isKept, hnx _ _ p1 p2, hK.up⟩ (w.perm (lz_p3 u1 u2 kw))
theorem lc_giveUp {E : mE} {p : Program} {l : Launch} {e : Env} {s : State} {m : MethodId} {below : List Frame} {meth : Method} {c : Code} {b L : Nat} {xs : Nat → Int32} {A : Nat → Prop} {Q : State → Prop} {cells slots i n hx hm : Nat} {H : Heap} {locs : List Loc} {ls : Array Slot} {w1 w2 kw : va_W} (F : LF E p s m c b A) (X : va_X b L xs s s.heap) (hbl : b < s.heap.size) (hbA : ¬ A b) (i1 : vp_in (nI i + 1) L) (i2 : vp_in (nI i + 2) L) (i3 : vp_in (nI i + 3) L) (hc : n < 512) (hS : LSt E hx hm n w1 w2 kw) (w : mW E A s (w1 ++ (w2 ++ kw)) H locs) (hl : lv_has ls 4 [(0, .ref b), (1, .ref hx), (2, .ref hm), (3, .int (nI i))]) (hf : cells + 90 + 90 ≤ 96002 ∧ slots + 8500 + 8500 ≤ 8814244) (next : ∀ (w1 w2 kw : va_W) (H : Heap) (locs : List Loc), LSt E hx hm (n + 1) w1 w2 kw → mW E A s (w1 ++ (w2 ++ kw)) H locs → W p l e room_1 s m #[Value.ref b] below meth c H locs (cells + 90 + 90) (slots + 8500 + 8500) Q (F0 m 1112 ls [])) : W p l e room_1 s m #[Value.ref b] below meth c H locs cells slots Q (F0 m 294 ls []) := by
  obtain ⟨hat, hru, hle, hsh, hlo, kv, kept, isKept, hI, hK⟩ := hS
  obtain ⟨fs1, e1⟩ := hI.x0
  obtain ⟨fs2, e2⟩ := hI.m0
  obtain ⟨r, P1, P2, C1, C2, hnx⟩ := lk_giveUp (l := l) hc hI (xs (nI i + 1).toNatClampNeg)
  refine lv_aload_n F.1.1 F.1.2.1 dL_law_294 rfl (lv_at hl 1 rfl) ?_
  refine lv_aload_n F.1.1 F.1.2.1 dL_law_295 rfl (lv_at hl 0 rfl) ?_
  refine lv_iload_n F.1.1 F.1.2.1 dL_law_296 rfl (lv_at hl 3 rfl) ?_
  refine lv_iconst (v := 1) F.1.1 F.1.2.1 dL_law_297 (by decide) ?_
  refine lv_iadd F.1.1 F.1.2.1 dL_law_298 ?_
  refine va_sld F.1.1 F.1.2.1 X hbl hbA w.2.2 i1 dL_law_299 ?_
  refine lw_call (As := [.int (xs (nI i + 1).toNatClampNeg)]) (rest := []) F C1 w (List.Perm.refl _) (ci := 10) rfl e1 cv_X11_giveUp kw_662 1 (by decide +kernel) rfl hl.1 rfl (Nat.le_of_ble_eq_true rfl) dL_law_300 ⟨by omega, by omega⟩ (fun u1 H locs p1 w => ?_)
  refine lv_aload_n F.1.1 F.1.2.1 dL_law_303 rfl (lv_at hl 2 rfl) ?_
  refine lv_aload_n F.1.1 F.1.2.1 dL_law_304 rfl (lv_at hl 0 rfl) ?_
  refine lv_iload_n F.1.1 F.1.2.1 dL_law_305 rfl (lv_at hl 3 rfl) ?_
  refine lv_iconst (v := 1) F.1.1 F.1.2.1 dL_law_306 (by decide) ?_
  refine lv_iadd F.1.1 F.1.2.1 dL_law_307 ?_
  refine va_sld F.1.1 F.1.2.1 X hbl hbA w.2.2 i1 dL_law_308 ?_
  refine lw_call (As := [.int (xs (nI i + 1).toNatClampNeg)]) (rest := [.int r]) F C2 w (by rw [List.append_assoc]) (ci := 11) rfl e2 cv_X12_giveUp kw_1500 1 (by decide +kernel) rfl hl.1 rfl (Nat.le_of_ble_eq_true rfl) dL_law_309 ⟨by omega, by omega⟩ (fun u2 H locs p2 w => ?_)
  refine lv_icmp_eq (tgt := 1112) F.1.1 F.1.2.1 dL_law_312 (by decide) (fun _ => ?_) (fun hne => absurd rfl hne)
  exact next _ _ _ H locs ⟨hat, hru, hle, hsh, hlo, kv, kept, isKept, hnx _ _ p1 p2, hK.up⟩ (w.perm (lz_p3 u1 u2 kw))
theorem lc_take {E : mE} {p : Program} {l : Launch} {e : Env} {s : State} {m : MethodId} {below : List Frame} {meth : Method} {c : Code} {b L : Nat} {xs : Nat → Int32} {A : Nat → Prop} {Q : State → Prop} {cells slots i n hx hm : Nat} {H : Heap} {locs : List Loc} {ls : Array Slot} {w1 w2 kw : va_W} (F : LF E p s m c b A) (X : va_X b L xs s s.heap) (hbl : b < s.heap.size) (hbA : ¬ A b) (i1 : vp_in (nI i + 1) L) (i2 : vp_in (nI i + 2) L) (i3 : vp_in (nI i + 3) L) (hc : n < 512) (hS : LSt E hx hm n w1 w2 kw) (w : mW E A s (w1 ++ (w2 ++ kw)) H locs) (hl : lv_has ls 4 [(0, .ref b), (1, .ref hx), (2, .ref hm), (3, .int (nI i))]) (hf : cells + 90 + 90 ≤ 96002 ∧ slots + 8500 + 8500 ≤ 8814244) (next : ∀ (w1 w2 kw : va_W) (H : Heap) (locs : List Loc), LSt E hx hm (n + 1) w1 w2 kw → mW E A s (w1 ++ (w2 ++ kw)) H locs → W p l e room_1 s m #[Value.ref b] below meth c H locs (cells + 90 + 90) (slots + 8500 + 8500) Q (F0 m 1112 ls [])) : W p l e room_1 s m #[Value.ref b] below meth c H locs cells slots Q (F0 m 317 ls []) := by
  obtain ⟨hat, hru, hle, hsh, hlo, kv, kept, isKept, hI, hK⟩ := hS
  obtain ⟨fs1, e1⟩ := hI.x0
  obtain ⟨fs2, e2⟩ := hI.m0
  obtain ⟨r, P1, P2, C1, C2, hnx⟩ := lk_take (l := l) hc hI (xs (nI i + 1).toNatClampNeg)
  refine lv_aload_n F.1.1 F.1.2.1 dL_law_317 rfl (lv_at hl 1 rfl) ?_
  refine lv_aload_n F.1.1 F.1.2.1 dL_law_318 rfl (lv_at hl 0 rfl) ?_
  refine lv_iload_n F.1.1 F.1.2.1 dL_law_319 rfl (lv_at hl 3 rfl) ?_
  refine lv_iconst (v := 1) F.1.1 F.1.2.1 dL_law_320 (by decide) ?_
  refine lv_iadd F.1.1 F.1.2.1 dL_law_321 ?_
  refine va_sld F.1.1 F.1.2.1 X hbl hbA w.2.2 i1 dL_law_322 ?_
  refine lw_call (As := [.int (xs (nI i + 1).toNatClampNeg)]) (rest := []) F C1 w (List.Perm.refl _) (ci := 10) rfl e1 cv_X11_take kw_674 1 (by decide +kernel) rfl hl.1 rfl (Nat.le_of_ble_eq_true rfl) dL_law_323 ⟨by omega, by omega⟩ (fun u1 H locs p1 w => ?_)
  refine lv_aload_n F.1.1 F.1.2.1 dL_law_326 rfl (lv_at hl 2 rfl) ?_
  refine lv_aload_n F.1.1 F.1.2.1 dL_law_327 rfl (lv_at hl 0 rfl) ?_
  refine lv_iload_n F.1.1 F.1.2.1 dL_law_328 rfl (lv_at hl 3 rfl) ?_
  refine lv_iconst (v := 1) F.1.1 F.1.2.1 dL_law_329 (by decide) ?_
  refine lv_iadd F.1.1 F.1.2.1 dL_law_330 ?_
  refine va_sld F.1.1 F.1.2.1 X hbl hbA w.2.2 i1 dL_law_331 ?_
  refine lw_call (As := [.int (xs (nI i + 1).toNatClampNeg)]) (rest := [.int r]) F C2 w (by rw [List.append_assoc]) (ci := 11) rfl e2 cv_X12_take kw_1504 1 (by decide +kernel) rfl hl.1 rfl (Nat.le_of_ble_eq_true rfl) dL_law_332 ⟨by omega, by omega⟩ (fun u2 H locs p2 w => ?_)
  refine lv_icmp_eq (tgt := 1112) F.1.1 F.1.2.1 dL_law_335 (by decide) (fun _ => ?_) (fun hne => absurd rfl hne)
  exact next _ _ _ H locs ⟨hat, hru, hle, hsh, hlo, kv, kept, isKept, hnx _ _ p1 p2, hK.up⟩ (w.perm (lz_p3 u1 u2 kw))
theorem lc_first {E : mE} {p : Program} {l : Launch} {e : Env} {s : State} {m : MethodId} {below : List Frame} {meth : Method} {c : Code} {b L : Nat} {xs : Nat → Int32} {A : Nat → Prop} {Q : State → Prop} {cells slots i n hx hm : Nat} {H : Heap} {locs : List Loc} {ls : Array Slot} {w1 w2 kw : va_W} (F : LF E p s m c b A) (X : va_X b L xs s s.heap) (hbl : b < s.heap.size) (hbA : ¬ A b) (i1 : vp_in (nI i + 1) L) (i2 : vp_in (nI i + 2) L) (i3 : vp_in (nI i + 3) L) (hc : n < 512) (hS : LSt E hx hm n w1 w2 kw) (w : mW E A s (w1 ++ (w2 ++ kw)) H locs) (hl : lv_has ls 4 [(0, .ref b), (1, .ref hx), (2, .ref hm), (3, .int (nI i))]) (hf : cells + 90 + 90 ≤ 96002 ∧ slots + 8500 + 8500 ≤ 8814244) (next : ∀ (w1 w2 kw : va_W) (H : Heap) (locs : List Loc), LSt E hx hm (n + 1) w1 w2 kw → mW E A s (w1 ++ (w2 ++ kw)) H locs → W p l e room_1 s m #[Value.ref b] below meth c H locs (cells + 90 + 90) (slots + 8500 + 8500) Q (F0 m 1112 ls [])) : W p l e room_1 s m #[Value.ref b] below meth c H locs cells slots Q (F0 m 340 ls []) := by
  obtain ⟨hat, hru, hle, hsh, hlo, kv, kept, isKept, hI, hK⟩ := hS
  obtain ⟨fs1, e1⟩ := hI.x0
  obtain ⟨fs2, e2⟩ := hI.m0
  obtain ⟨r, P1, P2, C1, C2, hnx⟩ := lk_first (l := l) hc hI (xs (nI i + 1).toNatClampNeg) (xs (nI i + 2).toNatClampNeg)
  refine lv_aload_n F.1.1 F.1.2.1 dL_law_340 rfl (lv_at hl 1 rfl) ?_
  refine lv_aload_n F.1.1 F.1.2.1 dL_law_341 rfl (lv_at hl 0 rfl) ?_
  refine lv_iload_n F.1.1 F.1.2.1 dL_law_342 rfl (lv_at hl 3 rfl) ?_
  refine lv_iconst (v := 1) F.1.1 F.1.2.1 dL_law_343 (by decide) ?_
  refine lv_iadd F.1.1 F.1.2.1 dL_law_344 ?_
  refine va_sld F.1.1 F.1.2.1 X hbl hbA w.2.2 i1 dL_law_345 ?_
  refine lv_aload_n F.1.1 F.1.2.1 dL_law_346 rfl (lv_at hl 0 rfl) ?_
  refine lv_iload_n F.1.1 F.1.2.1 dL_law_347 rfl (lv_at hl 3 rfl) ?_
  refine lv_iconst (v := 2) F.1.1 F.1.2.1 dL_law_348 (by decide) ?_
  refine lv_iadd F.1.1 F.1.2.1 dL_law_349 ?_
  refine va_sld F.1.1 F.1.2.1 X hbl hbA w.2.2 i2 dL_law_350 ?_
  refine lw_call (As := [.int (xs (nI i + 1).toNatClampNeg), .int (xs (nI i + 2).toNatClampNeg)]) (rest := []) F C1 w (List.Perm.refl _) (ci := 10) rfl e1 cv_X11_first kw_682 2 (by decide +kernel) rfl hl.1 rfl (Nat.le_of_ble_eq_true rfl) dL_law_351 ⟨by omega, by omega⟩ (fun u1 H locs p1 w => ?_)
  refine lv_aload_n F.1.1 F.1.2.1 dL_law_354 rfl (lv_at hl 2 rfl) ?_
  refine lv_aload_n F.1.1 F.1.2.1 dL_law_355 rfl (lv_at hl 0 rfl) ?_
  refine lv_iload_n F.1.1 F.1.2.1 dL_law_356 rfl (lv_at hl 3 rfl) ?_
  refine lv_iconst (v := 1) F.1.1 F.1.2.1 dL_law_357 (by decide) ?_
  refine lv_iadd F.1.1 F.1.2.1 dL_law_358 ?_
  refine va_sld F.1.1 F.1.2.1 X hbl hbA w.2.2 i1 dL_law_359 ?_
  refine lv_aload_n F.1.1 F.1.2.1 dL_law_360 rfl (lv_at hl 0 rfl) ?_
  refine lv_iload_n F.1.1 F.1.2.1 dL_law_361 rfl (lv_at hl 3 rfl) ?_
  refine lv_iconst (v := 2) F.1.1 F.1.2.1 dL_law_362 (by decide) ?_
  refine lv_iadd F.1.1 F.1.2.1 dL_law_363 ?_
  refine va_sld F.1.1 F.1.2.1 X hbl hbA w.2.2 i2 dL_law_364 ?_
  refine lw_call (As := [.int (xs (nI i + 1).toNatClampNeg), .int (xs (nI i + 2).toNatClampNeg)]) (rest := [.int r]) F C2 w (by rw [List.append_assoc]) (ci := 11) rfl e2 cv_X12_first kw_1508 2 (by decide +kernel) rfl hl.1 rfl (Nat.le_of_ble_eq_true rfl) dL_law_365 ⟨by omega, by omega⟩ (fun u2 H locs p2 w => ?_)
  refine lv_icmp_eq (tgt := 1112) F.1.1 F.1.2.1 dL_law_368 (by decide) (fun _ => ?_) (fun hne => absurd rfl hne)
  exact next _ _ _ H locs ⟨hat, hru, hle, hsh, hlo, kv, kept, isKept, hnx _ _ p1 p2, hK.up⟩ (w.perm (lz_p3 u1 u2 kw))
theorem lc_box {E : mE} {p : Program} {l : Launch} {e : Env} {s : State} {m : MethodId} {below : List Frame} {meth : Method} {c : Code} {b L : Nat} {xs : Nat → Int32} {A : Nat → Prop} {Q : State → Prop} {cells slots i n hx hm : Nat} {H : Heap} {locs : List Loc} {ls : Array Slot} {w1 w2 kw : va_W} (F : LF E p s m c b A) (X : va_X b L xs s s.heap) (hbl : b < s.heap.size) (hbA : ¬ A b) (i1 : vp_in (nI i + 1) L) (i2 : vp_in (nI i + 2) L) (i3 : vp_in (nI i + 3) L) (hc : n < 512) (hS : LSt E hx hm n w1 w2 kw) (w : mW E A s (w1 ++ (w2 ++ kw)) H locs) (hl : lv_has ls 4 [(0, .ref b), (1, .ref hx), (2, .ref hm), (3, .int (nI i))]) (hf : cells + 90 + 90 ≤ 96002 ∧ slots + 8500 + 8500 ≤ 8814244) (next : ∀ (w1 w2 kw : va_W) (H : Heap) (locs : List Loc), LSt E hx hm (n + 1) w1 w2 kw → mW E A s (w1 ++ (w2 ++ kw)) H locs → W p l e room_1 s m #[Value.ref b] below meth c H locs (cells + 90 + 90) (slots + 8500 + 8500) Q (F0 m 1112 ls [])) : W p l e room_1 s m #[Value.ref b] below meth c H locs cells slots Q (F0 m 373 ls []) := by
  obtain ⟨hat, hru, hle, hsh, hlo, kv, kept, isKept, hI, hK⟩ := hS
  obtain ⟨fs1, e1⟩ := hI.x0
  obtain ⟨fs2, e2⟩ := hI.m0
  obtain ⟨r, P1, P2, C1, C2, hnx⟩ := lk_box (l := l) hc hI (xs (nI i + 1).toNatClampNeg) (xs (nI i + 2).toNatClampNeg)
  refine lv_aload_n F.1.1 F.1.2.1 dL_law_373 rfl (lv_at hl 1 rfl) ?_
  refine lv_aload_n F.1.1 F.1.2.1 dL_law_374 rfl (lv_at hl 0 rfl) ?_
  refine lv_iload_n F.1.1 F.1.2.1 dL_law_375 rfl (lv_at hl 3 rfl) ?_
  refine lv_iconst (v := 1) F.1.1 F.1.2.1 dL_law_376 (by decide) ?_
  refine lv_iadd F.1.1 F.1.2.1 dL_law_377 ?_
  refine va_sld F.1.1 F.1.2.1 X hbl hbA w.2.2 i1 dL_law_378 ?_
  refine lv_aload_n F.1.1 F.1.2.1 dL_law_379 rfl (lv_at hl 0 rfl) ?_
  refine lv_iload_n F.1.1 F.1.2.1 dL_law_380 rfl (lv_at hl 3 rfl) ?_
  refine lv_iconst (v := 2) F.1.1 F.1.2.1 dL_law_381 (by decide) ?_
  refine lv_iadd F.1.1 F.1.2.1 dL_law_382 ?_
  refine va_sld F.1.1 F.1.2.1 X hbl hbA w.2.2 i2 dL_law_383 ?_
  refine lw_call (As := [.int (xs (nI i + 1).toNatClampNeg), .int (xs (nI i + 2).toNatClampNeg)]) (rest := []) F C1 w (List.Perm.refl _) (ci := 10) rfl e1 cv_X11_box kw_696 2 (by decide +kernel) rfl hl.1 rfl (Nat.le_of_ble_eq_true rfl) dL_law_384 ⟨by omega, by omega⟩ (fun u1 H locs p1 w => ?_)
  refine lv_aload_n F.1.1 F.1.2.1 dL_law_387 rfl (lv_at hl 2 rfl) ?_
  refine lv_aload_n F.1.1 F.1.2.1 dL_law_388 rfl (lv_at hl 0 rfl) ?_
  refine lv_iload_n F.1.1 F.1.2.1 dL_law_389 rfl (lv_at hl 3 rfl) ?_
  refine lv_iconst (v := 1) F.1.1 F.1.2.1 dL_law_390 (by decide) ?_
  refine lv_iadd F.1.1 F.1.2.1 dL_law_391 ?_
  refine va_sld F.1.1 F.1.2.1 X hbl hbA w.2.2 i1 dL_law_392 ?_
  refine lv_aload_n F.1.1 F.1.2.1 dL_law_393 rfl (lv_at hl 0 rfl) ?_
  refine lv_iload_n F.1.1 F.1.2.1 dL_law_394 rfl (lv_at hl 3 rfl) ?_
  refine lv_iconst (v := 2) F.1.1 F.1.2.1 dL_law_395 (by decide) ?_
  refine lv_iadd F.1.1 F.1.2.1 dL_law_396 ?_
  refine va_sld F.1.1 F.1.2.1 X hbl hbA w.2.2 i2 dL_law_397 ?_
  refine lw_call (As := [.int (xs (nI i + 1).toNatClampNeg), .int (xs (nI i + 2).toNatClampNeg)]) (rest := [.int r]) F C2 w (by rw [List.append_assoc]) (ci := 11) rfl e2 cv_X12_box kw_1512 2 (by decide +kernel) rfl hl.1 rfl (Nat.le_of_ble_eq_true rfl) dL_law_398 ⟨by omega, by omega⟩ (fun u2 H locs p2 w => ?_)
  refine lv_icmp_eq (tgt := 1112) F.1.1 F.1.2.1 dL_law_401 (by decide) (fun _ => ?_) (fun hne => absurd rfl hne)
  exact next _ _ _ H locs ⟨hat, hru, hle, hsh, hlo, kv, kept, isKept, hnx _ _ p1 p2, hK.up⟩ (w.perm (lz_p3 u1 u2 kw))
theorem lc_write {E : mE} {p : Program} {l : Launch} {e : Env} {s : State} {m : MethodId} {below : List Frame} {meth : Method} {c : Code} {b L : Nat} {xs : Nat → Int32} {A : Nat → Prop} {Q : State → Prop} {cells slots i n hx hm : Nat} {H : Heap} {locs : List Loc} {ls : Array Slot} {w1 w2 kw : va_W} (F : LF E p s m c b A) (X : va_X b L xs s s.heap) (hbl : b < s.heap.size) (hbA : ¬ A b) (i1 : vp_in (nI i + 1) L) (i2 : vp_in (nI i + 2) L) (i3 : vp_in (nI i + 3) L) (hc : n < 512) (hS : LSt E hx hm n w1 w2 kw) (w : mW E A s (w1 ++ (w2 ++ kw)) H locs) (hl : lv_has ls 4 [(0, .ref b), (1, .ref hx), (2, .ref hm), (3, .int (nI i))]) (hf : cells + 90 + 90 ≤ 96002 ∧ slots + 8500 + 8500 ≤ 8814244) (next : ∀ (w1 w2 kw : va_W) (H : Heap) (locs : List Loc), LSt E hx hm (n + 1) w1 w2 kw → mW E A s (w1 ++ (w2 ++ kw)) H locs → W p l e room_1 s m #[Value.ref b] below meth c H locs (cells + 90 + 90) (slots + 8500 + 8500) Q (F0 m 1112 ls [])) : W p l e room_1 s m #[Value.ref b] below meth c H locs cells slots Q (F0 m 406 ls []) := by
  obtain ⟨hat, hru, hle, hsh, hlo, kv, kept, isKept, hI, hK⟩ := hS
  obtain ⟨fs1, e1⟩ := hI.x0
  obtain ⟨fs2, e2⟩ := hI.m0
  obtain ⟨r, P1, P2, C1, C2, hnx⟩ := lk_write (l := l) hc hI (xs (nI i + 1).toNatClampNeg)
  refine lv_aload_n F.1.1 F.1.2.1 dL_law_406 rfl (lv_at hl 1 rfl) ?_
  refine lv_aload_n F.1.1 F.1.2.1 dL_law_407 rfl (lv_at hl 0 rfl) ?_
  refine lv_iload_n F.1.1 F.1.2.1 dL_law_408 rfl (lv_at hl 3 rfl) ?_
  refine lv_iconst (v := 1) F.1.1 F.1.2.1 dL_law_409 (by decide) ?_
  refine lv_iadd F.1.1 F.1.2.1 dL_law_410 ?_
  refine va_sld F.1.1 F.1.2.1 X hbl hbA w.2.2 i1 dL_law_411 ?_
  refine lw_call (As := [.int (xs (nI i + 1).toNatClampNeg)]) (rest := []) F C1 w (List.Perm.refl _) (ci := 10) rfl e1 cv_X11_write kw_701 1 (by decide +kernel) rfl hl.1 rfl (Nat.le_of_ble_eq_true rfl) dL_law_412 ⟨by omega, by omega⟩ (fun u1 H locs p1 w => ?_)
  refine lv_aload_n F.1.1 F.1.2.1 dL_law_415 rfl (lv_at hl 2 rfl) ?_
  refine lv_aload_n F.1.1 F.1.2.1 dL_law_416 rfl (lv_at hl 0 rfl) ?_
  refine lv_iload_n F.1.1 F.1.2.1 dL_law_417 rfl (lv_at hl 3 rfl) ?_
  refine lv_iconst (v := 1) F.1.1 F.1.2.1 dL_law_418 (by decide) ?_
  refine lv_iadd F.1.1 F.1.2.1 dL_law_419 ?_
  refine va_sld F.1.1 F.1.2.1 X hbl hbA w.2.2 i1 dL_law_420 ?_
  refine lw_call (As := [.int (xs (nI i + 1).toNatClampNeg)]) (rest := [.int r]) F C2 w (by rw [List.append_assoc]) (ci := 11) rfl e2 cv_X12_write kw_1520 1 (by decide +kernel) rfl hl.1 rfl (Nat.le_of_ble_eq_true rfl) dL_law_421 ⟨by omega, by omega⟩ (fun u2 H locs p2 w => ?_)
  refine lv_icmp_eq (tgt := 1112) F.1.1 F.1.2.1 dL_law_424 (by decide) (fun _ => ?_) (fun hne => absurd rfl hne)
  exact next _ _ _ H locs ⟨hat, hru, hle, hsh, hlo, kv, kept, isKept, hnx _ _ p1 p2, hK.up⟩ (w.perm (lz_p3 u1 u2 kw))
theorem lc_flush {E : mE} {p : Program} {l : Launch} {e : Env} {s : State} {m : MethodId} {below : List Frame} {meth : Method} {c : Code} {b L : Nat} {xs : Nat → Int32} {A : Nat → Prop} {Q : State → Prop} {cells slots i n hx hm : Nat} {H : Heap} {locs : List Loc} {ls : Array Slot} {w1 w2 kw : va_W} (F : LF E p s m c b A) (X : va_X b L xs s s.heap) (hbl : b < s.heap.size) (hbA : ¬ A b) (i1 : vp_in (nI i + 1) L) (i2 : vp_in (nI i + 2) L) (i3 : vp_in (nI i + 3) L) (hc : n < 512) (hS : LSt E hx hm n w1 w2 kw) (w : mW E A s (w1 ++ (w2 ++ kw)) H locs) (hl : lv_has ls 4 [(0, .ref b), (1, .ref hx), (2, .ref hm), (3, .int (nI i))]) (hf : cells + 90 + 90 ≤ 96002 ∧ slots + 8500 + 8500 ≤ 8814244) (next : ∀ (w1 w2 kw : va_W) (H : Heap) (locs : List Loc), LSt E hx hm (n + 1) w1 w2 kw → mW E A s (w1 ++ (w2 ++ kw)) H locs → W p l e room_1 s m #[Value.ref b] below meth c H locs (cells + 90 + 90) (slots + 8500 + 8500) Q (F0 m 1112 ls [])) : W p l e room_1 s m #[Value.ref b] below meth c H locs cells slots Q (F0 m 429 ls []) := by
  obtain ⟨hat, hru, hle, hsh, hlo, kv, kept, isKept, hI, hK⟩ := hS
  obtain ⟨fs1, e1⟩ := hI.x0
  obtain ⟨fs2, e2⟩ := hI.m0
  obtain ⟨r, P1, P2, C1, C2, hnx⟩ := lk_flush (l := l) hc hI 
  refine lv_aload_n F.1.1 F.1.2.1 dL_law_429 rfl (lv_at hl 1 rfl) ?_
  refine lw_call (As := []) (rest := []) F C1 w (List.Perm.refl _) (ci := 10) rfl e1 cv_X11_flush kw_713 0 (by decide +kernel) rfl hl.1 rfl (Nat.le_of_ble_eq_true rfl) dL_law_430 ⟨by omega, by omega⟩ (fun u1 H locs p1 w => ?_)
  refine lv_aload_n F.1.1 F.1.2.1 dL_law_433 rfl (lv_at hl 2 rfl) ?_
  refine lw_call (As := []) (rest := [.int r]) F C2 w (by rw [List.append_assoc]) (ci := 11) rfl e2 cv_X12_flush kw_1524 0 (by decide +kernel) rfl hl.1 rfl (Nat.le_of_ble_eq_true rfl) dL_law_434 ⟨by omega, by omega⟩ (fun u2 H locs p2 w => ?_)
  refine lv_icmp_eq (tgt := 1112) F.1.1 F.1.2.1 dL_law_437 (by decide) (fun _ => ?_) (fun hne => absurd rfl hne)
  exact next _ _ _ H locs ⟨hat, hru, hle, hsh, hlo, kv, kept, isKept, hnx _ _ p1 p2, hK.up⟩ (w.perm (lz_p3 u1 u2 kw))
theorem lc_writtenOf {E : mE} {p : Program} {l : Launch} {e : Env} {s : State} {m : MethodId} {below : List Frame} {meth : Method} {c : Code} {b L : Nat} {xs : Nat → Int32} {A : Nat → Prop} {Q : State → Prop} {cells slots i n hx hm : Nat} {H : Heap} {locs : List Loc} {ls : Array Slot} {w1 w2 kw : va_W} (F : LF E p s m c b A) (X : va_X b L xs s s.heap) (hbl : b < s.heap.size) (hbA : ¬ A b) (i1 : vp_in (nI i + 1) L) (i2 : vp_in (nI i + 2) L) (i3 : vp_in (nI i + 3) L) (hc : n < 512) (hS : LSt E hx hm n w1 w2 kw) (w : mW E A s (w1 ++ (w2 ++ kw)) H locs) (hl : lv_has ls 4 [(0, .ref b), (1, .ref hx), (2, .ref hm), (3, .int (nI i))]) (hf : cells + 90 + 90 ≤ 96002 ∧ slots + 8500 + 8500 ≤ 8814244) (next : ∀ (w1 w2 kw : va_W) (H : Heap) (locs : List Loc), LSt E hx hm (n + 1) w1 w2 kw → mW E A s (w1 ++ (w2 ++ kw)) H locs → W p l e room_1 s m #[Value.ref b] below meth c H locs (cells + 90 + 90) (slots + 8500 + 8500) Q (F0 m 1112 ls [])) : W p l e room_1 s m #[Value.ref b] below meth c H locs cells slots Q (F0 m 442 ls []) := by
  obtain ⟨hat, hru, hle, hsh, hlo, kv, kept, isKept, hI, hK⟩ := hS
  obtain ⟨fs1, e1⟩ := hI.x0
  obtain ⟨fs2, e2⟩ := hI.m0
  obtain ⟨r, P1, P2, C1, C2, hnx⟩ := lk_writtenOf (l := l) hc hI (xs (nI i + 1).toNatClampNeg) (xs (nI i + 2).toNatClampNeg)
  refine lv_aload_n F.1.1 F.1.2.1 dL_law_442 rfl (lv_at hl 1 rfl) ?_
  refine lv_aload_n F.1.1 F.1.2.1 dL_law_443 rfl (lv_at hl 0 rfl) ?_
  refine lv_iload_n F.1.1 F.1.2.1 dL_law_444 rfl (lv_at hl 3 rfl) ?_
  refine lv_iconst (v := 1) F.1.1 F.1.2.1 dL_law_445 (by decide) ?_
  refine lv_iadd F.1.1 F.1.2.1 dL_law_446 ?_
  refine va_sld F.1.1 F.1.2.1 X hbl hbA w.2.2 i1 dL_law_447 ?_
  refine lv_aload_n F.1.1 F.1.2.1 dL_law_448 rfl (lv_at hl 0 rfl) ?_
  refine lv_iload_n F.1.1 F.1.2.1 dL_law_449 rfl (lv_at hl 3 rfl) ?_
  refine lv_iconst (v := 2) F.1.1 F.1.2.1 dL_law_450 (by decide) ?_
  refine lv_iadd F.1.1 F.1.2.1 dL_law_451 ?_
  refine va_sld F.1.1 F.1.2.1 X hbl hbA w.2.2 i2 dL_law_452 ?_
  refine lw_call (As := [.int (xs (nI i + 1).toNatClampNeg), .int (xs (nI i + 2).toNatClampNeg)]) (rest := []) F C1 w (List.Perm.refl _) (ci := 10) rfl e1 cv_X11_writtenOf kw_737 2 (by decide +kernel) rfl hl.1 rfl (Nat.le_of_ble_eq_true rfl) dL_law_453 ⟨by omega, by omega⟩ (fun u1 H locs p1 w => ?_)
  refine lv_aload_n F.1.1 F.1.2.1 dL_law_456 rfl (lv_at hl 2 rfl) ?_
  refine lv_aload_n F.1.1 F.1.2.1 dL_law_457 rfl (lv_at hl 0 rfl) ?_
  refine lv_iload_n F.1.1 F.1.2.1 dL_law_458 rfl (lv_at hl 3 rfl) ?_
  refine lv_iconst (v := 1) F.1.1 F.1.2.1 dL_law_459 (by decide) ?_
  refine lv_iadd F.1.1 F.1.2.1 dL_law_460 ?_
  refine va_sld F.1.1 F.1.2.1 X hbl hbA w.2.2 i1 dL_law_461 ?_
  refine lv_aload_n F.1.1 F.1.2.1 dL_law_462 rfl (lv_at hl 0 rfl) ?_
  refine lv_iload_n F.1.1 F.1.2.1 dL_law_463 rfl (lv_at hl 3 rfl) ?_
  refine lv_iconst (v := 2) F.1.1 F.1.2.1 dL_law_464 (by decide) ?_
  refine lv_iadd F.1.1 F.1.2.1 dL_law_465 ?_
  refine va_sld F.1.1 F.1.2.1 X hbl hbA w.2.2 i2 dL_law_466 ?_
  refine lw_call (As := [.int (xs (nI i + 1).toNatClampNeg), .int (xs (nI i + 2).toNatClampNeg)]) (rest := [.int r]) F C2 w (by rw [List.append_assoc]) (ci := 11) rfl e2 cv_X12_writtenOf kw_1532 2 (by decide +kernel) rfl hl.1 rfl (Nat.le_of_ble_eq_true rfl) dL_law_467 ⟨by omega, by omega⟩ (fun u2 H locs p2 w => ?_)
  refine lv_icmp_eq (tgt := 1112) F.1.1 F.1.2.1 dL_law_470 (by decide) (fun _ => ?_) (fun hne => absurd rfl hne)
  exact next _ _ _ H locs ⟨hat, hru, hle, hsh, hlo, kv, kept, isKept, hnx _ _ p1 p2, hK.up⟩ (w.perm (lz_p3 u1 u2 kw))
theorem lc_of {E : mE} {p : Program} {l : Launch} {e : Env} {s : State} {m : MethodId} {below : List Frame} {meth : Method} {c : Code} {b L : Nat} {xs : Nat → Int32} {A : Nat → Prop} {Q : State → Prop} {cells slots i n hx hm : Nat} {H : Heap} {locs : List Loc} {ls : Array Slot} {w1 w2 kw : va_W} (F : LF E p s m c b A) (X : va_X b L xs s s.heap) (hbl : b < s.heap.size) (hbA : ¬ A b) (i1 : vp_in (nI i + 1) L) (i2 : vp_in (nI i + 2) L) (i3 : vp_in (nI i + 3) L) (hc : n < 512) (hS : LSt E hx hm n w1 w2 kw) (w : mW E A s (w1 ++ (w2 ++ kw)) H locs) (hl : lv_has ls 4 [(0, .ref b), (1, .ref hx), (2, .ref hm), (3, .int (nI i))]) (hf : cells + 90 + 90 ≤ 96002 ∧ slots + 8500 + 8500 ≤ 8814244) (next : ∀ (w1 w2 kw : va_W) (H : Heap) (locs : List Loc), LSt E hx hm (n + 1) w1 w2 kw → mW E A s (w1 ++ (w2 ++ kw)) H locs → W p l e room_1 s m #[Value.ref b] below meth c H locs (cells + 90 + 90) (slots + 8500 + 8500) Q (F0 m 1112 ls [])) : W p l e room_1 s m #[Value.ref b] below meth c H locs cells slots Q (F0 m 475 ls []) := by
  obtain ⟨hat, hru, hle, hsh, hlo, kv, kept, isKept, hI, hK⟩ := hS
  obtain ⟨fs1, e1⟩ := hI.x0
  obtain ⟨fs2, e2⟩ := hI.m0
  obtain ⟨r, P1, P2, C1, C2, hnx⟩ := lk_of (l := l) hc hI (xs (nI i + 1).toNatClampNeg) (xs (nI i + 2).toNatClampNeg)
  refine lv_aload_n F.1.1 F.1.2.1 dL_law_475 rfl (lv_at hl 1 rfl) ?_
  refine lv_aload_n F.1.1 F.1.2.1 dL_law_476 rfl (lv_at hl 0 rfl) ?_
  refine lv_iload_n F.1.1 F.1.2.1 dL_law_477 rfl (lv_at hl 3 rfl) ?_
  refine lv_iconst (v := 1) F.1.1 F.1.2.1 dL_law_478 (by decide) ?_
  refine lv_iadd F.1.1 F.1.2.1 dL_law_479 ?_
  refine va_sld F.1.1 F.1.2.1 X hbl hbA w.2.2 i1 dL_law_480 ?_
  refine lv_aload_n F.1.1 F.1.2.1 dL_law_481 rfl (lv_at hl 0 rfl) ?_
  refine lv_iload_n F.1.1 F.1.2.1 dL_law_482 rfl (lv_at hl 3 rfl) ?_
  refine lv_iconst (v := 2) F.1.1 F.1.2.1 dL_law_483 (by decide) ?_
  refine lv_iadd F.1.1 F.1.2.1 dL_law_484 ?_
  refine va_sld F.1.1 F.1.2.1 X hbl hbA w.2.2 i2 dL_law_485 ?_
  refine lw_call (As := [.int (xs (nI i + 1).toNatClampNeg), .int (xs (nI i + 2).toNatClampNeg)]) (rest := []) F C1 w (List.Perm.refl _) (ci := 10) rfl e1 cv_X11_of kw_742 2 (by decide +kernel) rfl hl.1 rfl (Nat.le_of_ble_eq_true rfl) dL_law_486 ⟨by omega, by omega⟩ (fun u1 H locs p1 w => ?_)
  refine lv_aload_n F.1.1 F.1.2.1 dL_law_489 rfl (lv_at hl 2 rfl) ?_
  refine lv_aload_n F.1.1 F.1.2.1 dL_law_490 rfl (lv_at hl 0 rfl) ?_
  refine lv_iload_n F.1.1 F.1.2.1 dL_law_491 rfl (lv_at hl 3 rfl) ?_
  refine lv_iconst (v := 1) F.1.1 F.1.2.1 dL_law_492 (by decide) ?_
  refine lv_iadd F.1.1 F.1.2.1 dL_law_493 ?_
  refine va_sld F.1.1 F.1.2.1 X hbl hbA w.2.2 i1 dL_law_494 ?_
  refine lv_aload_n F.1.1 F.1.2.1 dL_law_495 rfl (lv_at hl 0 rfl) ?_
  refine lv_iload_n F.1.1 F.1.2.1 dL_law_496 rfl (lv_at hl 3 rfl) ?_
  refine lv_iconst (v := 2) F.1.1 F.1.2.1 dL_law_497 (by decide) ?_
  refine lv_iadd F.1.1 F.1.2.1 dL_law_498 ?_
  refine va_sld F.1.1 F.1.2.1 X hbl hbA w.2.2 i2 dL_law_499 ?_
  refine lw_call (As := [.int (xs (nI i + 1).toNatClampNeg), .int (xs (nI i + 2).toNatClampNeg)]) (rest := [.int r]) F C2 w (by rw [List.append_assoc]) (ci := 11) rfl e2 cv_X12_of kw_1516 2 (by decide +kernel) rfl hl.1 rfl (Nat.le_of_ble_eq_true rfl) dL_law_500 ⟨by omega, by omega⟩ (fun u2 H locs p2 w => ?_)
  refine lv_icmp_eq (tgt := 1112) F.1.1 F.1.2.1 dL_law_503 (by decide) (fun _ => ?_) (fun hne => absurd rfl hne)
  exact next _ _ _ H locs ⟨hat, hru, hle, hsh, hlo, kv, kept, isKept, hnx _ _ p1 p2, hK.up⟩ (w.perm (lz_p3 u1 u2 kw))
theorem lc_came {E : mE} {p : Program} {l : Launch} {e : Env} {s : State} {m : MethodId} {below : List Frame} {meth : Method} {c : Code} {b L : Nat} {xs : Nat → Int32} {A : Nat → Prop} {Q : State → Prop} {cells slots i n hx hm : Nat} {H : Heap} {locs : List Loc} {ls : Array Slot} {w1 w2 kw : va_W} (F : LF E p s m c b A) (X : va_X b L xs s s.heap) (hbl : b < s.heap.size) (hbA : ¬ A b) (i1 : vp_in (nI i + 1) L) (i2 : vp_in (nI i + 2) L) (i3 : vp_in (nI i + 3) L) (hc : n < 512) (hS : LSt E hx hm n w1 w2 kw) (w : mW E A s (w1 ++ (w2 ++ kw)) H locs) (hl : lv_has ls 4 [(0, .ref b), (1, .ref hx), (2, .ref hm), (3, .int (nI i))]) (hf : cells + 90 + 90 ≤ 96002 ∧ slots + 8500 + 8500 ≤ 8814244) (next : ∀ (w1 w2 kw : va_W) (H : Heap) (locs : List Loc), LSt E hx hm (n + 1) w1 w2 kw → mW E A s (w1 ++ (w2 ++ kw)) H locs → W p l e room_1 s m #[Value.ref b] below meth c H locs (cells + 90 + 90) (slots + 8500 + 8500) Q (F0 m 1112 ls [])) : W p l e room_1 s m #[Value.ref b] below meth c H locs cells slots Q (F0 m 508 ls []) := by
  obtain ⟨hat, hru, hle, hsh, hlo, kv, kept, isKept, hI, hK⟩ := hS
  obtain ⟨fs1, e1⟩ := hI.x0
  obtain ⟨fs2, e2⟩ := hI.m0
  obtain ⟨r, P1, P2, C1, C2, hnx⟩ := lk_came (l := l) hc hI (xs (nI i + 1).toNatClampNeg) (xs (nI i + 2).toNatClampNeg) (xs (nI i + 3).toNatClampNeg)
  refine lv_aload_n F.1.1 F.1.2.1 dL_law_508 rfl (lv_at hl 1 rfl) ?_
  refine lv_aload_n F.1.1 F.1.2.1 dL_law_509 rfl (lv_at hl 0 rfl) ?_
  refine lv_iload_n F.1.1 F.1.2.1 dL_law_510 rfl (lv_at hl 3 rfl) ?_
  refine lv_iconst (v := 1) F.1.1 F.1.2.1 dL_law_511 (by decide) ?_
  refine lv_iadd F.1.1 F.1.2.1 dL_law_512 ?_
  refine va_sld F.1.1 F.1.2.1 X hbl hbA w.2.2 i1 dL_law_513 ?_
  refine lv_aload_n F.1.1 F.1.2.1 dL_law_514 rfl (lv_at hl 0 rfl) ?_
  refine lv_iload_n F.1.1 F.1.2.1 dL_law_515 rfl (lv_at hl 3 rfl) ?_
  refine lv_iconst (v := 2) F.1.1 F.1.2.1 dL_law_516 (by decide) ?_
  refine lv_iadd F.1.1 F.1.2.1 dL_law_517 ?_
  refine va_sld F.1.1 F.1.2.1 X hbl hbA w.2.2 i2 dL_law_518 ?_
  refine lv_aload_n F.1.1 F.1.2.1 dL_law_519 rfl (lv_at hl 0 rfl) ?_
  refine lv_iload_n F.1.1 F.1.2.1 dL_law_520 rfl (lv_at hl 3 rfl) ?_
  refine lv_iconst (v := 3) F.1.1 F.1.2.1 dL_law_521 (by decide) ?_
  refine lv_iadd F.1.1 F.1.2.1 dL_law_522 ?_
  refine va_sld F.1.1 F.1.2.1 X hbl hbA w.2.2 i3 dL_law_523 ?_
  refine lw_call (As := [.int (xs (nI i + 1).toNatClampNeg), .int (xs (nI i + 2).toNatClampNeg), .int (xs (nI i + 3).toNatClampNeg)]) (rest := []) F C1 w (List.Perm.refl _) (ci := 10) rfl e1 cv_X11_came kw_750 3 (by decide +kernel) rfl hl.1 rfl (Nat.le_of_ble_eq_true rfl) dL_law_524 ⟨by omega, by omega⟩ (fun u1 H locs p1 w => ?_)
  refine lv_aload_n F.1.1 F.1.2.1 dL_law_527 rfl (lv_at hl 2 rfl) ?_
  refine lv_aload_n F.1.1 F.1.2.1 dL_law_528 rfl (lv_at hl 0 rfl) ?_
  refine lv_iload_n F.1.1 F.1.2.1 dL_law_529 rfl (lv_at hl 3 rfl) ?_
  refine lv_iconst (v := 1) F.1.1 F.1.2.1 dL_law_530 (by decide) ?_
  refine lv_iadd F.1.1 F.1.2.1 dL_law_531 ?_
  refine va_sld F.1.1 F.1.2.1 X hbl hbA w.2.2 i1 dL_law_532 ?_
  refine lv_aload_n F.1.1 F.1.2.1 dL_law_533 rfl (lv_at hl 0 rfl) ?_
  refine lv_iload_n F.1.1 F.1.2.1 dL_law_534 rfl (lv_at hl 3 rfl) ?_
  refine lv_iconst (v := 2) F.1.1 F.1.2.1 dL_law_535 (by decide) ?_
  refine lv_iadd F.1.1 F.1.2.1 dL_law_536 ?_
  refine va_sld F.1.1 F.1.2.1 X hbl hbA w.2.2 i2 dL_law_537 ?_
  refine lv_aload_n F.1.1 F.1.2.1 dL_law_538 rfl (lv_at hl 0 rfl) ?_
  refine lv_iload_n F.1.1 F.1.2.1 dL_law_539 rfl (lv_at hl 3 rfl) ?_
  refine lv_iconst (v := 3) F.1.1 F.1.2.1 dL_law_540 (by decide) ?_
  refine lv_iadd F.1.1 F.1.2.1 dL_law_541 ?_
  refine va_sld F.1.1 F.1.2.1 X hbl hbA w.2.2 i3 dL_law_542 ?_
  refine lw_call (As := [.int (xs (nI i + 1).toNatClampNeg), .int (xs (nI i + 2).toNatClampNeg), .int (xs (nI i + 3).toNatClampNeg)]) (rest := [.int r]) F C2 w (by rw [List.append_assoc]) (ci := 11) rfl e2 cv_X12_came kw_1402 3 (by decide +kernel) rfl hl.1 rfl (Nat.le_of_ble_eq_true rfl) dL_law_543 ⟨by omega, by omega⟩ (fun u2 H locs p2 w => ?_)
  refine lv_icmp_eq (tgt := 1112) F.1.1 F.1.2.1 dL_law_546 (by decide) (fun _ => ?_) (fun hne => absurd rfl hne)
  exact next _ _ _ H locs ⟨hat, hru, hle, hsh, hlo, kv, kept, isKept, hnx _ _ p1 p2, hK.up⟩ (w.perm (lz_p3 u1 u2 kw))
theorem lc_failed {E : mE} {p : Program} {l : Launch} {e : Env} {s : State} {m : MethodId} {below : List Frame} {meth : Method} {c : Code} {b L : Nat} {xs : Nat → Int32} {A : Nat → Prop} {Q : State → Prop} {cells slots i n hx hm : Nat} {H : Heap} {locs : List Loc} {ls : Array Slot} {w1 w2 kw : va_W} (F : LF E p s m c b A) (X : va_X b L xs s s.heap) (hbl : b < s.heap.size) (hbA : ¬ A b) (i1 : vp_in (nI i + 1) L) (i2 : vp_in (nI i + 2) L) (i3 : vp_in (nI i + 3) L) (hc : n < 512) (hS : LSt E hx hm n w1 w2 kw) (w : mW E A s (w1 ++ (w2 ++ kw)) H locs) (hl : lv_has ls 4 [(0, .ref b), (1, .ref hx), (2, .ref hm), (3, .int (nI i))]) (hf : cells + 90 + 90 ≤ 96002 ∧ slots + 8500 + 8500 ≤ 8814244) (next : ∀ (w1 w2 kw : va_W) (H : Heap) (locs : List Loc), LSt E hx hm (n + 1) w1 w2 kw → mW E A s (w1 ++ (w2 ++ kw)) H locs → W p l e room_1 s m #[Value.ref b] below meth c H locs (cells + 90 + 90) (slots + 8500 + 8500) Q (F0 m 1112 ls [])) : W p l e room_1 s m #[Value.ref b] below meth c H locs cells slots Q (F0 m 551 ls []) := by
  obtain ⟨hat, hru, hle, hsh, hlo, kv, kept, isKept, hI, hK⟩ := hS
  obtain ⟨fs1, e1⟩ := hI.x0
  obtain ⟨fs2, e2⟩ := hI.m0
  obtain ⟨r, P1, P2, C1, C2, hnx⟩ := lk_failed (l := l) hc hI (xs (nI i + 1).toNatClampNeg)
  refine lv_aload_n F.1.1 F.1.2.1 dL_law_551 rfl (lv_at hl 1 rfl) ?_
  refine lv_aload_n F.1.1 F.1.2.1 dL_law_552 rfl (lv_at hl 0 rfl) ?_
  refine lv_iload_n F.1.1 F.1.2.1 dL_law_553 rfl (lv_at hl 3 rfl) ?_
  refine lv_iconst (v := 1) F.1.1 F.1.2.1 dL_law_554 (by decide) ?_
  refine lv_iadd F.1.1 F.1.2.1 dL_law_555 ?_
  refine va_sld F.1.1 F.1.2.1 X hbl hbA w.2.2 i1 dL_law_556 ?_
  refine lw_call (As := [.int (xs (nI i + 1).toNatClampNeg)]) (rest := []) F C1 w (List.Perm.refl _) (ci := 10) rfl e1 cv_X11_failed kw_769 1 (by decide +kernel) rfl hl.1 rfl (Nat.le_of_ble_eq_true rfl) dL_law_557 ⟨by omega, by omega⟩ (fun u1 H locs p1 w => ?_)
  refine lv_aload_n F.1.1 F.1.2.1 dL_law_560 rfl (lv_at hl 2 rfl) ?_
  refine lv_aload_n F.1.1 F.1.2.1 dL_law_561 rfl (lv_at hl 0 rfl) ?_
  refine lv_iload_n F.1.1 F.1.2.1 dL_law_562 rfl (lv_at hl 3 rfl) ?_
  refine lv_iconst (v := 1) F.1.1 F.1.2.1 dL_law_563 (by decide) ?_
  refine lv_iadd F.1.1 F.1.2.1 dL_law_564 ?_
  refine va_sld F.1.1 F.1.2.1 X hbl hbA w.2.2 i1 dL_law_565 ?_
  refine lw_call (As := [.int (xs (nI i + 1).toNatClampNeg)]) (rest := [.int r]) F C2 w (by rw [List.append_assoc]) (ci := 11) rfl e2 cv_X12_failed kw_1442 1 (by decide +kernel) rfl hl.1 rfl (Nat.le_of_ble_eq_true rfl) dL_law_566 ⟨by omega, by omega⟩ (fun u2 H locs p2 w => ?_)
  refine lv_icmp_eq (tgt := 1112) F.1.1 F.1.2.1 dL_law_569 (by decide) (fun _ => ?_) (fun hne => absurd rfl hne)
  exact next _ _ _ H locs ⟨hat, hru, hle, hsh, hlo, kv, kept, isKept, hnx _ _ p1 p2, hK.up⟩ (w.perm (lz_p3 u1 u2 kw))
theorem lc_told {E : mE} {p : Program} {l : Launch} {e : Env} {s : State} {m : MethodId} {below : List Frame} {meth : Method} {c : Code} {b L : Nat} {xs : Nat → Int32} {A : Nat → Prop} {Q : State → Prop} {cells slots i n hx hm : Nat} {H : Heap} {locs : List Loc} {ls : Array Slot} {w1 w2 kw : va_W} (F : LF E p s m c b A) (X : va_X b L xs s s.heap) (hbl : b < s.heap.size) (hbA : ¬ A b) (i1 : vp_in (nI i + 1) L) (i2 : vp_in (nI i + 2) L) (i3 : vp_in (nI i + 3) L) (hc : n < 512) (hS : LSt E hx hm n w1 w2 kw) (w : mW E A s (w1 ++ (w2 ++ kw)) H locs) (hl : lv_has ls 4 [(0, .ref b), (1, .ref hx), (2, .ref hm), (3, .int (nI i))]) (hf : cells + 90 + 90 ≤ 96002 ∧ slots + 8500 + 8500 ≤ 8814244) (next : ∀ (w1 w2 kw : va_W) (H : Heap) (locs : List Loc), LSt E hx hm (n + 1) w1 w2 kw → mW E A s (w1 ++ (w2 ++ kw)) H locs → W p l e room_1 s m #[Value.ref b] below meth c H locs (cells + 90 + 90) (slots + 8500 + 8500) Q (F0 m 1112 ls [])) : W p l e room_1 s m #[Value.ref b] below meth c H locs cells slots Q (F0 m 574 ls []) := by
  obtain ⟨hat, hru, hle, hsh, hlo, kv, kept, isKept, hI, hK⟩ := hS
  obtain ⟨fs1, e1⟩ := hI.x0
  obtain ⟨fs2, e2⟩ := hI.m0
  obtain ⟨r, P1, P2, C1, C2, hnx⟩ := lk_told (l := l) hc hI (xs (nI i + 1).toNatClampNeg) (xs (nI i + 2).toNatClampNeg)
  refine lv_aload_n F.1.1 F.1.2.1 dL_law_574 rfl (lv_at hl 1 rfl) ?_
  refine lv_aload_n F.1.1 F.1.2.1 dL_law_575 rfl (lv_at hl 0 rfl) ?_
  refine lv_iload_n F.1.1 F.1.2.1 dL_law_576 rfl (lv_at hl 3 rfl) ?_
  refine lv_iconst (v := 1) F.1.1 F.1.2.1 dL_law_577 (by decide) ?_
  refine lv_iadd F.1.1 F.1.2.1 dL_law_578 ?_
  refine va_sld F.1.1 F.1.2.1 X hbl hbA w.2.2 i1 dL_law_579 ?_
  refine lv_aload_n F.1.1 F.1.2.1 dL_law_580 rfl (lv_at hl 0 rfl) ?_
  refine lv_iload_n F.1.1 F.1.2.1 dL_law_581 rfl (lv_at hl 3 rfl) ?_
  refine lv_iconst (v := 2) F.1.1 F.1.2.1 dL_law_582 (by decide) ?_
  refine lv_iadd F.1.1 F.1.2.1 dL_law_583 ?_
  refine va_sld F.1.1 F.1.2.1 X hbl hbA w.2.2 i2 dL_law_584 ?_
  refine lw_call (As := [.int (xs (nI i + 1).toNatClampNeg), .int (xs (nI i + 2).toNatClampNeg)]) (rest := []) F C1 w (List.Perm.refl _) (ci := 10) rfl e1 cv_X11_told kw_774 2 (by decide +kernel) rfl hl.1 rfl (Nat.le_of_ble_eq_true rfl) dL_law_585 ⟨by omega, by omega⟩ (fun u1 H locs p1 w => ?_)
  refine lv_aload_n F.1.1 F.1.2.1 dL_law_588 rfl (lv_at hl 2 rfl) ?_
  refine lv_aload_n F.1.1 F.1.2.1 dL_law_589 rfl (lv_at hl 0 rfl) ?_
  refine lv_iload_n F.1.1 F.1.2.1 dL_law_590 rfl (lv_at hl 3 rfl) ?_
  refine lv_iconst (v := 1) F.1.1 F.1.2.1 dL_law_591 (by decide) ?_
  refine lv_iadd F.1.1 F.1.2.1 dL_law_592 ?_
  refine va_sld F.1.1 F.1.2.1 X hbl hbA w.2.2 i1 dL_law_593 ?_
  refine lv_aload_n F.1.1 F.1.2.1 dL_law_594 rfl (lv_at hl 0 rfl) ?_
  refine lv_iload_n F.1.1 F.1.2.1 dL_law_595 rfl (lv_at hl 3 rfl) ?_
  refine lv_iconst (v := 2) F.1.1 F.1.2.1 dL_law_596 (by decide) ?_
  refine lv_iadd F.1.1 F.1.2.1 dL_law_597 ?_
  refine va_sld F.1.1 F.1.2.1 X hbl hbA w.2.2 i2 dL_law_598 ?_
  refine lw_call (As := [.int (xs (nI i + 1).toNatClampNeg), .int (xs (nI i + 2).toNatClampNeg)]) (rest := [.int r]) F C2 w (by rw [List.append_assoc]) (ci := 11) rfl e2 cv_X12_told kw_1446 2 (by decide +kernel) rfl hl.1 rfl (Nat.le_of_ble_eq_true rfl) dL_law_599 ⟨by omega, by omega⟩ (fun u2 H locs p2 w => ?_)
  refine lv_icmp_eq (tgt := 1112) F.1.1 F.1.2.1 dL_law_602 (by decide) (fun _ => ?_) (fun hne => absurd rfl hne)
  exact next _ _ _ H locs ⟨hat, hru, hle, hsh, hlo, kv, kept, isKept, hnx _ _ p1 p2, hK.up⟩ (w.perm (lz_p3 u1 u2 kw))
theorem lc_load {E : mE} {p : Program} {l : Launch} {e : Env} {s : State} {m : MethodId} {below : List Frame} {meth : Method} {c : Code} {b L : Nat} {xs : Nat → Int32} {A : Nat → Prop} {Q : State → Prop} {cells slots i n hx hm : Nat} {H : Heap} {locs : List Loc} {ls : Array Slot} {w1 w2 kw : va_W} (F : LF E p s m c b A) (X : va_X b L xs s s.heap) (hbl : b < s.heap.size) (hbA : ¬ A b) (i1 : vp_in (nI i + 1) L) (i2 : vp_in (nI i + 2) L) (i3 : vp_in (nI i + 3) L) (hc : n < 512) (hS : LSt E hx hm n w1 w2 kw) (w : mW E A s (w1 ++ (w2 ++ kw)) H locs) (hl : lv_has ls 4 [(0, .ref b), (1, .ref hx), (2, .ref hm), (3, .int (nI i))]) (hf : cells + 90 + 90 ≤ 96002 ∧ slots + 8500 + 8500 ≤ 8814244) (next : ∀ (w1 w2 kw : va_W) (H : Heap) (locs : List Loc), LSt E hx hm (n + 1) w1 w2 kw → mW E A s (w1 ++ (w2 ++ kw)) H locs → W p l e room_1 s m #[Value.ref b] below meth c H locs (cells + 90 + 90) (slots + 8500 + 8500) Q (F0 m 1112 ls [])) : W p l e room_1 s m #[Value.ref b] below meth c H locs cells slots Q (F0 m 607 ls []) := by
  obtain ⟨hat, hru, hle, hsh, hlo, kv, kept, isKept, hI, hK⟩ := hS
  obtain ⟨fs1, e1⟩ := hI.x0
  obtain ⟨fs2, e2⟩ := hI.m0
  obtain ⟨r, P1, P2, C1, C2, hnx⟩ := lk_load (l := l) hc hI (xs (nI i + 1).toNatClampNeg)
  refine lv_aload_n F.1.1 F.1.2.1 dL_law_607 rfl (lv_at hl 1 rfl) ?_
  refine lv_aload_n F.1.1 F.1.2.1 dL_law_608 rfl (lv_at hl 0 rfl) ?_
  refine lv_iload_n F.1.1 F.1.2.1 dL_law_609 rfl (lv_at hl 3 rfl) ?_
  refine lv_iconst (v := 1) F.1.1 F.1.2.1 dL_law_610 (by decide) ?_
  refine lv_iadd F.1.1 F.1.2.1 dL_law_611 ?_
  refine va_sld F.1.1 F.1.2.1 X hbl hbA w.2.2 i1 dL_law_612 ?_
  refine lw_call (As := [.int (xs (nI i + 1).toNatClampNeg)]) (rest := []) F C1 w (List.Perm.refl _) (ci := 10) rfl e1 cv_X11_load kw_778 1 (by decide +kernel) rfl hl.1 rfl (Nat.le_of_ble_eq_true rfl) dL_law_613 ⟨by omega, by omega⟩ (fun u1 H locs p1 w => ?_)
  refine lv_aload_n F.1.1 F.1.2.1 dL_law_616 rfl (lv_at hl 2 rfl) ?_
  refine lv_aload_n F.1.1 F.1.2.1 dL_law_617 rfl (lv_at hl 0 rfl) ?_
  refine lv_iload_n F.1.1 F.1.2.1 dL_law_618 rfl (lv_at hl 3 rfl) ?_
  refine lv_iconst (v := 1) F.1.1 F.1.2.1 dL_law_619 (by decide) ?_
  refine lv_iadd F.1.1 F.1.2.1 dL_law_620 ?_
  refine va_sld F.1.1 F.1.2.1 X hbl hbA w.2.2 i1 dL_law_621 ?_
  refine lw_call (As := [.int (xs (nI i + 1).toNatClampNeg)]) (rest := [.int r]) F C2 w (by rw [List.append_assoc]) (ci := 11) rfl e2 cv_X12_load kw_1453 1 (by decide +kernel) rfl hl.1 rfl (Nat.le_of_ble_eq_true rfl) dL_law_622 ⟨by omega, by omega⟩ (fun u2 H locs p2 w => ?_)
  refine lv_icmp_eq (tgt := 1112) F.1.1 F.1.2.1 dL_law_625 (by decide) (fun _ => ?_) (fun hne => absurd rfl hne)
  exact next _ _ _ H locs ⟨hat, hru, hle, hsh, hlo, kv, kept, isKept, hnx _ _ p1 p2, hK.up⟩ (w.perm (lz_p3 u1 u2 kw))
theorem lc_entry {E : mE} {p : Program} {l : Launch} {e : Env} {s : State} {m : MethodId} {below : List Frame} {meth : Method} {c : Code} {b L : Nat} {xs : Nat → Int32} {A : Nat → Prop} {Q : State → Prop} {cells slots i n hx hm : Nat} {H : Heap} {locs : List Loc} {ls : Array Slot} {w1 w2 kw : va_W} (F : LF E p s m c b A) (X : va_X b L xs s s.heap) (hbl : b < s.heap.size) (hbA : ¬ A b) (i1 : vp_in (nI i + 1) L) (i2 : vp_in (nI i + 2) L) (i3 : vp_in (nI i + 3) L) (hc : n < 512) (hS : LSt E hx hm n w1 w2 kw) (w : mW E A s (w1 ++ (w2 ++ kw)) H locs) (hl : lv_has ls 4 [(0, .ref b), (1, .ref hx), (2, .ref hm), (3, .int (nI i))]) (hf : cells + 90 + 90 ≤ 96002 ∧ slots + 8500 + 8500 ≤ 8814244) (next : ∀ (w1 w2 kw : va_W) (H : Heap) (locs : List Loc), LSt E hx hm (n + 1) w1 w2 kw → mW E A s (w1 ++ (w2 ++ kw)) H locs → W p l e room_1 s m #[Value.ref b] below meth c H locs (cells + 90 + 90) (slots + 8500 + 8500) Q (F0 m 1112 ls [])) : W p l e room_1 s m #[Value.ref b] below meth c H locs cells slots Q (F0 m 630 ls []) := by
  obtain ⟨hat, hru, hle, hsh, hlo, kv, kept, isKept, hI, hK⟩ := hS
  obtain ⟨fs1, e1⟩ := hI.x0
  obtain ⟨fs2, e2⟩ := hI.m0
  obtain ⟨r, P1, P2, C1, C2, hnx⟩ := lk_entry (l := l) hc hI (xs (nI i + 1).toNatClampNeg)
  refine lv_aload_n F.1.1 F.1.2.1 dL_law_630 rfl (lv_at hl 1 rfl) ?_
  refine lv_aload_n F.1.1 F.1.2.1 dL_law_631 rfl (lv_at hl 0 rfl) ?_
  refine lv_iload_n F.1.1 F.1.2.1 dL_law_632 rfl (lv_at hl 3 rfl) ?_
  refine lv_iconst (v := 1) F.1.1 F.1.2.1 dL_law_633 (by decide) ?_
  refine lv_iadd F.1.1 F.1.2.1 dL_law_634 ?_
  refine va_sld F.1.1 F.1.2.1 X hbl hbA w.2.2 i1 dL_law_635 ?_
  refine lw_call (As := [.int (xs (nI i + 1).toNatClampNeg)]) (rest := []) F C1 w (List.Perm.refl _) (ci := 10) rfl e1 cv_X11_entry kw_783 1 (by decide +kernel) rfl hl.1 rfl (Nat.le_of_ble_eq_true rfl) dL_law_636 ⟨by omega, by omega⟩ (fun u1 H locs p1 w => ?_)
  refine lv_aload_n F.1.1 F.1.2.1 dL_law_639 rfl (lv_at hl 2 rfl) ?_
  refine lv_aload_n F.1.1 F.1.2.1 dL_law_640 rfl (lv_at hl 0 rfl) ?_
  refine lv_iload_n F.1.1 F.1.2.1 dL_law_641 rfl (lv_at hl 3 rfl) ?_
  refine lv_iconst (v := 1) F.1.1 F.1.2.1 dL_law_642 (by decide) ?_
  refine lv_iadd F.1.1 F.1.2.1 dL_law_643 ?_
  refine va_sld F.1.1 F.1.2.1 X hbl hbA w.2.2 i1 dL_law_644 ?_
  refine lw_call (As := [.int (xs (nI i + 1).toNatClampNeg)]) (rest := [.int r]) F C2 w (by rw [List.append_assoc]) (ci := 11) rfl e2 cv_X12_entry kw_1536 1 (by decide +kernel) rfl hl.1 rfl (Nat.le_of_ble_eq_true rfl) dL_law_645 ⟨by omega, by omega⟩ (fun u2 H locs p2 w => ?_)
  refine lv_icmp_eq (tgt := 1112) F.1.1 F.1.2.1 dL_law_648 (by decide) (fun _ => ?_) (fun hne => absurd rfl hne)
  exact next _ _ _ H locs ⟨hat, hru, hle, hsh, hlo, kv, kept, isKept, hnx _ _ p1 p2, hK.up⟩ (w.perm (lz_p3 u1 u2 kw))
theorem lc_seen {E : mE} {p : Program} {l : Launch} {e : Env} {s : State} {m : MethodId} {below : List Frame} {meth : Method} {c : Code} {b L : Nat} {xs : Nat → Int32} {A : Nat → Prop} {Q : State → Prop} {cells slots i n hx hm : Nat} {H : Heap} {locs : List Loc} {ls : Array Slot} {w1 w2 kw : va_W} (F : LF E p s m c b A) (X : va_X b L xs s s.heap) (hbl : b < s.heap.size) (hbA : ¬ A b) (i1 : vp_in (nI i + 1) L) (i2 : vp_in (nI i + 2) L) (i3 : vp_in (nI i + 3) L) (hc : n < 512) (hS : LSt E hx hm n w1 w2 kw) (w : mW E A s (w1 ++ (w2 ++ kw)) H locs) (hl : lv_has ls 4 [(0, .ref b), (1, .ref hx), (2, .ref hm), (3, .int (nI i))]) (hf : cells + 90 + 90 ≤ 96002 ∧ slots + 8500 + 8500 ≤ 8814244) (next : ∀ (w1 w2 kw : va_W) (H : Heap) (locs : List Loc), LSt E hx hm (n + 1) w1 w2 kw → mW E A s (w1 ++ (w2 ++ kw)) H locs → W p l e room_1 s m #[Value.ref b] below meth c H locs (cells + 90 + 90) (slots + 8500 + 8500) Q (F0 m 1112 ls [])) : W p l e room_1 s m #[Value.ref b] below meth c H locs cells slots Q (F0 m 653 ls []) := by
  obtain ⟨hat, hru, hle, hsh, hlo, kv, kept, isKept, hI, hK⟩ := hS
  obtain ⟨fs1, e1⟩ := hI.x0
  obtain ⟨fs2, e2⟩ := hI.m0
  obtain ⟨r, P1, P2, C1, C2, hnx⟩ := lk_seen (l := l) hc hI 
  refine lv_aload_n F.1.1 F.1.2.1 dL_law_653 rfl (lv_at hl 1 rfl) ?_
  refine lw_call (As := []) (rest := []) F C1 w (List.Perm.refl _) (ci := 10) rfl e1 cv_X11_seen kw_793 0 (by decide +kernel) rfl hl.1 rfl (Nat.le_of_ble_eq_true rfl) dL_law_654 ⟨by omega, by omega⟩ (fun u1 H locs p1 w => ?_)
  refine lv_aload_n F.1.1 F.1.2.1 dL_law_657 rfl (lv_at hl 2 rfl) ?_
  refine lw_call (As := []) (rest := [.int r]) F C2 w (by rw [List.append_assoc]) (ci := 11) rfl e2 cv_X12_seen kw_1277 0 (by decide +kernel) rfl hl.1 rfl (Nat.le_of_ble_eq_true rfl) dL_law_658 ⟨by omega, by omega⟩ (fun u2 H locs p2 w => ?_)
  refine lv_icmp_eq (tgt := 1112) F.1.1 F.1.2.1 dL_law_661 (by decide) (fun _ => ?_) (fun hne => absurd rfl hne)
  exact next _ _ _ H locs ⟨hat, hru, hle, hsh, hlo, kv, kept, isKept, hnx _ _ p1 p2, hK.up⟩ (w.perm (lz_p3 u1 u2 kw))
theorem lc_sketch {E : mE} {p : Program} {l : Launch} {e : Env} {s : State} {m : MethodId} {below : List Frame} {meth : Method} {c : Code} {b L : Nat} {xs : Nat → Int32} {A : Nat → Prop} {Q : State → Prop} {cells slots i n hx hm : Nat} {H : Heap} {locs : List Loc} {ls : Array Slot} {w1 w2 kw : va_W} (F : LF E p s m c b A) (X : va_X b L xs s s.heap) (hbl : b < s.heap.size) (hbA : ¬ A b) (i1 : vp_in (nI i + 1) L) (i2 : vp_in (nI i + 2) L) (i3 : vp_in (nI i + 3) L) (hc : n < 512) (hS : LSt E hx hm n w1 w2 kw) (w : mW E A s (w1 ++ (w2 ++ kw)) H locs) (hl : lv_has ls 4 [(0, .ref b), (1, .ref hx), (2, .ref hm), (3, .int (nI i))]) (hf : cells + 90 + 90 ≤ 96002 ∧ slots + 8500 + 8500 ≤ 8814244) (next : ∀ (w1 w2 kw : va_W) (H : Heap) (locs : List Loc), LSt E hx hm (n + 1) w1 w2 kw → mW E A s (w1 ++ (w2 ++ kw)) H locs → W p l e room_1 s m #[Value.ref b] below meth c H locs (cells + 90 + 90) (slots + 8500 + 8500) Q (F0 m 1112 ls [])) : W p l e room_1 s m #[Value.ref b] below meth c H locs cells slots Q (F0 m 666 ls []) := by
  obtain ⟨hat, hru, hle, hsh, hlo, kv, kept, isKept, hI, hK⟩ := hS
  obtain ⟨fs1, e1⟩ := hI.x0
  obtain ⟨fs2, e2⟩ := hI.m0
  obtain ⟨r, P1, P2, C1, C2, hnx⟩ := lk_sketch (l := l) hc hI (xs (nI i + 1).toNatClampNeg) (xs (nI i + 2).toNatClampNeg)
  refine lv_aload_n F.1.1 F.1.2.1 dL_law_666 rfl (lv_at hl 1 rfl) ?_
  refine lv_aload_n F.1.1 F.1.2.1 dL_law_667 rfl (lv_at hl 0 rfl) ?_
  refine lv_iload_n F.1.1 F.1.2.1 dL_law_668 rfl (lv_at hl 3 rfl) ?_
  refine lv_iconst (v := 1) F.1.1 F.1.2.1 dL_law_669 (by decide) ?_
  refine lv_iadd F.1.1 F.1.2.1 dL_law_670 ?_
  refine va_sld F.1.1 F.1.2.1 X hbl hbA w.2.2 i1 dL_law_671 ?_
  refine lv_aload_n F.1.1 F.1.2.1 dL_law_672 rfl (lv_at hl 0 rfl) ?_
  refine lv_iload_n F.1.1 F.1.2.1 dL_law_673 rfl (lv_at hl 3 rfl) ?_
  refine lv_iconst (v := 2) F.1.1 F.1.2.1 dL_law_674 (by decide) ?_
  refine lv_iadd F.1.1 F.1.2.1 dL_law_675 ?_
  refine va_sld F.1.1 F.1.2.1 X hbl hbA w.2.2 i2 dL_law_676 ?_
  refine lw_call (As := [.int (xs (nI i + 1).toNatClampNeg), .int (xs (nI i + 2).toNatClampNeg)]) (rest := []) F C1 w (List.Perm.refl _) (ci := 10) rfl e1 cv_X11_sketch kw_798 2 (by decide +kernel) rfl hl.1 rfl (Nat.le_of_ble_eq_true rfl) dL_law_677 ⟨by omega, by omega⟩ (fun u1 H locs p1 w => ?_)
  refine lv_aload_n F.1.1 F.1.2.1 dL_law_680 rfl (lv_at hl 2 rfl) ?_
  refine lv_aload_n F.1.1 F.1.2.1 dL_law_681 rfl (lv_at hl 0 rfl) ?_
  refine lv_iload_n F.1.1 F.1.2.1 dL_law_682 rfl (lv_at hl 3 rfl) ?_
  refine lv_iconst (v := 1) F.1.1 F.1.2.1 dL_law_683 (by decide) ?_
  refine lv_iadd F.1.1 F.1.2.1 dL_law_684 ?_
  refine va_sld F.1.1 F.1.2.1 X hbl hbA w.2.2 i1 dL_law_685 ?_
  refine lv_aload_n F.1.1 F.1.2.1 dL_law_686 rfl (lv_at hl 0 rfl) ?_
  refine lv_iload_n F.1.1 F.1.2.1 dL_law_687 rfl (lv_at hl 3 rfl) ?_
  refine lv_iconst (v := 2) F.1.1 F.1.2.1 dL_law_688 (by decide) ?_
  refine lv_iadd F.1.1 F.1.2.1 dL_law_689 ?_
  refine va_sld F.1.1 F.1.2.1 X hbl hbA w.2.2 i2 dL_law_690 ?_
  refine lw_call (As := [.int (xs (nI i + 1).toNatClampNeg), .int (xs (nI i + 2).toNatClampNeg)]) (rest := [.int r]) F C2 w (by rw [List.append_assoc]) (ci := 11) rfl e2 cv_X12_sketch kw_1306 2 (by decide +kernel) rfl hl.1 rfl (Nat.le_of_ble_eq_true rfl) dL_law_691 ⟨by omega, by omega⟩ (fun u2 H locs p2 w => ?_)
  refine lv_icmp_eq (tgt := 1112) F.1.1 F.1.2.1 dL_law_694 (by decide) (fun _ => ?_) (fun hne => absurd rfl hne)
  exact next _ _ _ H locs ⟨hat, hru, hle, hsh, hlo, kv, kept, isKept, hnx _ _ p1 p2, hK.up⟩ (w.perm (lz_p3 u1 u2 kw))
theorem lc_drop {E : mE} {p : Program} {l : Launch} {e : Env} {s : State} {m : MethodId} {below : List Frame} {meth : Method} {c : Code} {b L : Nat} {xs : Nat → Int32} {A : Nat → Prop} {Q : State → Prop} {cells slots i n hx hm : Nat} {H : Heap} {locs : List Loc} {ls : Array Slot} {w1 w2 kw : va_W} (F : LF E p s m c b A) (X : va_X b L xs s s.heap) (hbl : b < s.heap.size) (hbA : ¬ A b) (i1 : vp_in (nI i + 1) L) (i2 : vp_in (nI i + 2) L) (i3 : vp_in (nI i + 3) L) (hc : n < 512) (hS : LSt E hx hm n w1 w2 kw) (w : mW E A s (w1 ++ (w2 ++ kw)) H locs) (hl : lv_has ls 4 [(0, .ref b), (1, .ref hx), (2, .ref hm), (3, .int (nI i))]) (hf : cells + 90 + 90 ≤ 96002 ∧ slots + 8500 + 8500 ≤ 8814244) (next : ∀ (w1 w2 kw : va_W) (H : Heap) (locs : List Loc), LSt E hx hm (n + 1) w1 w2 kw → mW E A s (w1 ++ (w2 ++ kw)) H locs → W p l e room_1 s m #[Value.ref b] below meth c H locs (cells + 90 + 90) (slots + 8500 + 8500) Q (F0 m 1112 ls [])) : W p l e room_1 s m #[Value.ref b] below meth c H locs cells slots Q (F0 m 699 ls []) := by
  obtain ⟨hat, hru, hle, hsh, hlo, kv, kept, isKept, hI, hK⟩ := hS
  obtain ⟨fs1, e1⟩ := hI.x0
  obtain ⟨fs2, e2⟩ := hI.m0
  obtain ⟨r, P1, P2, C1, C2, hnx⟩ := lk_drop (l := l) hc hI 
  refine lv_aload_n F.1.1 F.1.2.1 dL_law_699 rfl (lv_at hl 1 rfl) ?_
  refine lw_call (As := []) (rest := []) F C1 w (List.Perm.refl _) (ci := 10) rfl e1 cv_X11_drop kw_806 0 (by decide +kernel) rfl hl.1 rfl (Nat.le_of_ble_eq_true rfl) dL_law_700 ⟨by omega, by omega⟩ (fun u1 H locs p1 w => ?_)
  refine lv_aload_n F.1.1 F.1.2.1 dL_law_703 rfl (lv_at hl 2 rfl) ?_
  refine lw_call (As := []) (rest := [.int r]) F C2 w (by rw [List.append_assoc]) (ci := 11) rfl e2 cv_X12_drop kw_1540 0 (by decide +kernel) rfl hl.1 rfl (Nat.le_of_ble_eq_true rfl) dL_law_704 ⟨by omega, by omega⟩ (fun u2 H locs p2 w => ?_)
  refine lv_icmp_eq (tgt := 1112) F.1.1 F.1.2.1 dL_law_707 (by decide) (fun _ => ?_) (fun hne => absurd rfl hne)
  exact next _ _ _ H locs ⟨hat, hru, hle, hsh, hlo, kv, kept, isKept, hnx _ _ p1 p2, hK.up⟩ (w.perm (lz_p3 u1 u2 kw))
theorem lc_dropTag {E : mE} {p : Program} {l : Launch} {e : Env} {s : State} {m : MethodId} {below : List Frame} {meth : Method} {c : Code} {b L : Nat} {xs : Nat → Int32} {A : Nat → Prop} {Q : State → Prop} {cells slots i n hx hm : Nat} {H : Heap} {locs : List Loc} {ls : Array Slot} {w1 w2 kw : va_W} (F : LF E p s m c b A) (X : va_X b L xs s s.heap) (hbl : b < s.heap.size) (hbA : ¬ A b) (i1 : vp_in (nI i + 1) L) (i2 : vp_in (nI i + 2) L) (i3 : vp_in (nI i + 3) L) (hc : n < 512) (hS : LSt E hx hm n w1 w2 kw) (w : mW E A s (w1 ++ (w2 ++ kw)) H locs) (hl : lv_has ls 4 [(0, .ref b), (1, .ref hx), (2, .ref hm), (3, .int (nI i))]) (hf : cells + 90 + 90 ≤ 96002 ∧ slots + 8500 + 8500 ≤ 8814244) (next : ∀ (w1 w2 kw : va_W) (H : Heap) (locs : List Loc), LSt E hx hm (n + 1) w1 w2 kw → mW E A s (w1 ++ (w2 ++ kw)) H locs → W p l e room_1 s m #[Value.ref b] below meth c H locs (cells + 90 + 90) (slots + 8500 + 8500) Q (F0 m 1112 ls [])) : W p l e room_1 s m #[Value.ref b] below meth c H locs cells slots Q (F0 m 712 ls []) := by
  obtain ⟨hat, hru, hle, hsh, hlo, kv, kept, isKept, hI, hK⟩ := hS
  obtain ⟨fs1, e1⟩ := hI.x0
  obtain ⟨fs2, e2⟩ := hI.m0
  obtain ⟨r, P1, P2, C1, C2, hnx⟩ := lk_dropTag (l := l) hc hI (xs (nI i + 1).toNatClampNeg)
  refine lv_aload_n F.1.1 F.1.2.1 dL_law_712 rfl (lv_at hl 1 rfl) ?_
  refine lv_aload_n F.1.1 F.1.2.1 dL_law_713 rfl (lv_at hl 0 rfl) ?_
  refine lv_iload_n F.1.1 F.1.2.1 dL_law_714 rfl (lv_at hl 3 rfl) ?_
  refine lv_iconst (v := 1) F.1.1 F.1.2.1 dL_law_715 (by decide) ?_
  refine lv_iadd F.1.1 F.1.2.1 dL_law_716 ?_
  refine va_sld F.1.1 F.1.2.1 X hbl hbA w.2.2 i1 dL_law_717 ?_
  refine lw_call (As := [.int (xs (nI i + 1).toNatClampNeg)]) (rest := []) F C1 w (List.Perm.refl _) (ci := 10) rfl e1 cv_X11_dropTag kw_815 1 (by decide +kernel) rfl hl.1 rfl (Nat.le_of_ble_eq_true rfl) dL_law_718 ⟨by omega, by omega⟩ (fun u1 H locs p1 w => ?_)
  refine lv_aload_n F.1.1 F.1.2.1 dL_law_721 rfl (lv_at hl 2 rfl) ?_
  refine lv_aload_n F.1.1 F.1.2.1 dL_law_722 rfl (lv_at hl 0 rfl) ?_
  refine lv_iload_n F.1.1 F.1.2.1 dL_law_723 rfl (lv_at hl 3 rfl) ?_
  refine lv_iconst (v := 1) F.1.1 F.1.2.1 dL_law_724 (by decide) ?_
  refine lv_iadd F.1.1 F.1.2.1 dL_law_725 ?_
  refine va_sld F.1.1 F.1.2.1 X hbl hbA w.2.2 i1 dL_law_726 ?_
  refine lw_call (As := [.int (xs (nI i + 1).toNatClampNeg)]) (rest := [.int r]) F C2 w (by rw [List.append_assoc]) (ci := 11) rfl e2 cv_X12_dropTag kw_1555 1 (by decide +kernel) rfl hl.1 rfl (Nat.le_of_ble_eq_true rfl) dL_law_727 ⟨by omega, by omega⟩ (fun u2 H locs p2 w => ?_)
  refine lv_icmp_eq (tgt := 1112) F.1.1 F.1.2.1 dL_law_730 (by decide) (fun _ => ?_) (fun hne => absurd rfl hne)
  exact next _ _ _ H locs ⟨hat, hru, hle, hsh, hlo, kv, kept, isKept, hnx _ _ p1 p2, hK.up⟩ (w.perm (lz_p3 u1 u2 kw))
theorem lc_dropAll {E : mE} {p : Program} {l : Launch} {e : Env} {s : State} {m : MethodId} {below : List Frame} {meth : Method} {c : Code} {b L : Nat} {xs : Nat → Int32} {A : Nat → Prop} {Q : State → Prop} {cells slots i n hx hm : Nat} {H : Heap} {locs : List Loc} {ls : Array Slot} {w1 w2 kw : va_W} (F : LF E p s m c b A) (X : va_X b L xs s s.heap) (hbl : b < s.heap.size) (hbA : ¬ A b) (i1 : vp_in (nI i + 1) L) (i2 : vp_in (nI i + 2) L) (i3 : vp_in (nI i + 3) L) (hc : n < 512) (hS : LSt E hx hm n w1 w2 kw) (w : mW E A s (w1 ++ (w2 ++ kw)) H locs) (hl : lv_has ls 4 [(0, .ref b), (1, .ref hx), (2, .ref hm), (3, .int (nI i))]) (hf : cells + 90 + 90 ≤ 96002 ∧ slots + 8500 + 8500 ≤ 8814244) (next : ∀ (w1 w2 kw : va_W) (H : Heap) (locs : List Loc), LSt E hx hm (n + 1) w1 w2 kw → mW E A s (w1 ++ (w2 ++ kw)) H locs → W p l e room_1 s m #[Value.ref b] below meth c H locs (cells + 90 + 90) (slots + 8500 + 8500) Q (F0 m 1112 ls [])) : W p l e room_1 s m #[Value.ref b] below meth c H locs cells slots Q (F0 m 735 ls []) := by
  obtain ⟨hat, hru, hle, hsh, hlo, kv, kept, isKept, hI, hK⟩ := hS
  obtain ⟨fs1, e1⟩ := hI.x0
  obtain ⟨fs2, e2⟩ := hI.m0
  obtain ⟨r, P1, P2, C1, C2, hnx⟩ := lk_dropAll (l := l) hc hI 
  refine lv_aload_n F.1.1 F.1.2.1 dL_law_735 rfl (lv_at hl 1 rfl) ?_
  refine lw_call (As := []) (rest := []) F C1 w (List.Perm.refl _) (ci := 10) rfl e1 cv_X11_dropAll kw_822 0 (by decide +kernel) rfl hl.1 rfl (Nat.le_of_ble_eq_true rfl) dL_law_736 ⟨by omega, by omega⟩ (fun u1 H locs p1 w => ?_)
  refine lv_aload_n F.1.1 F.1.2.1 dL_law_739 rfl (lv_at hl 2 rfl) ?_
  refine lw_call (As := []) (rest := [.int r]) F C2 w (by rw [List.append_assoc]) (ci := 11) rfl e2 cv_X12_dropAll kw_1559 0 (by decide +kernel) rfl hl.1 rfl (Nat.le_of_ble_eq_true rfl) dL_law_740 ⟨by omega, by omega⟩ (fun u2 H locs p2 w => ?_)
  refine lv_icmp_eq (tgt := 1112) F.1.1 F.1.2.1 dL_law_743 (by decide) (fun _ => ?_) (fun hne => absurd rfl hne)
  exact next _ _ _ H locs ⟨hat, hru, hle, hsh, hlo, kv, kept, isKept, hnx _ _ p1 p2, hK.up⟩ (w.perm (lz_p3 u1 u2 kw))
theorem lc_tagged {E : mE} {p : Program} {l : Launch} {e : Env} {s : State} {m : MethodId} {below : List Frame} {meth : Method} {c : Code} {b L : Nat} {xs : Nat → Int32} {A : Nat → Prop} {Q : State → Prop} {cells slots i n hx hm : Nat} {H : Heap} {locs : List Loc} {ls : Array Slot} {w1 w2 kw : va_W} (F : LF E p s m c b A) (X : va_X b L xs s s.heap) (hbl : b < s.heap.size) (hbA : ¬ A b) (i1 : vp_in (nI i + 1) L) (i2 : vp_in (nI i + 2) L) (i3 : vp_in (nI i + 3) L) (hc : n < 512) (hS : LSt E hx hm n w1 w2 kw) (w : mW E A s (w1 ++ (w2 ++ kw)) H locs) (hl : lv_has ls 4 [(0, .ref b), (1, .ref hx), (2, .ref hm), (3, .int (nI i))]) (hf : cells + 90 + 90 ≤ 96002 ∧ slots + 8500 + 8500 ≤ 8814244) (next : ∀ (w1 w2 kw : va_W) (H : Heap) (locs : List Loc), LSt E hx hm (n + 1) w1 w2 kw → mW E A s (w1 ++ (w2 ++ kw)) H locs → W p l e room_1 s m #[Value.ref b] below meth c H locs (cells + 90 + 90) (slots + 8500 + 8500) Q (F0 m 1112 ls [])) : W p l e room_1 s m #[Value.ref b] below meth c H locs cells slots Q (F0 m 748 ls []) := by
  obtain ⟨hat, hru, hle, hsh, hlo, kv, kept, isKept, hI, hK⟩ := hS
  obtain ⟨fs1, e1⟩ := hI.x0
  obtain ⟨fs2, e2⟩ := hI.m0
  obtain ⟨r, P1, P2, C1, C2, hnx⟩ := lk_tagged (l := l) hc hI (xs (nI i + 1).toNatClampNeg) (xs (nI i + 2).toNatClampNeg)
  refine lv_aload_n F.1.1 F.1.2.1 dL_law_748 rfl (lv_at hl 1 rfl) ?_
  refine lv_aload_n F.1.1 F.1.2.1 dL_law_749 rfl (lv_at hl 0 rfl) ?_
  refine lv_iload_n F.1.1 F.1.2.1 dL_law_750 rfl (lv_at hl 3 rfl) ?_
  refine lv_iconst (v := 1) F.1.1 F.1.2.1 dL_law_751 (by decide) ?_
  refine lv_iadd F.1.1 F.1.2.1 dL_law_752 ?_
  refine va_sld F.1.1 F.1.2.1 X hbl hbA w.2.2 i1 dL_law_753 ?_
  refine lv_aload_n F.1.1 F.1.2.1 dL_law_754 rfl (lv_at hl 0 rfl) ?_
  refine lv_iload_n F.1.1 F.1.2.1 dL_law_755 rfl (lv_at hl 3 rfl) ?_
  refine lv_iconst (v := 2) F.1.1 F.1.2.1 dL_law_756 (by decide) ?_
  refine lv_iadd F.1.1 F.1.2.1 dL_law_757 ?_
  refine va_sld F.1.1 F.1.2.1 X hbl hbA w.2.2 i2 dL_law_758 ?_
  refine lw_call (As := [.int (xs (nI i + 1).toNatClampNeg), .int (xs (nI i + 2).toNatClampNeg)]) (rest := []) F C1 w (List.Perm.refl _) (ci := 10) rfl e1 cv_X11_tagged kw_826 2 (by decide +kernel) rfl hl.1 rfl (Nat.le_of_ble_eq_true rfl) dL_law_759 ⟨by omega, by omega⟩ (fun u1 H locs p1 w => ?_)
  refine lv_aload_n F.1.1 F.1.2.1 dL_law_762 rfl (lv_at hl 2 rfl) ?_
  refine lv_aload_n F.1.1 F.1.2.1 dL_law_763 rfl (lv_at hl 0 rfl) ?_
  refine lv_iload_n F.1.1 F.1.2.1 dL_law_764 rfl (lv_at hl 3 rfl) ?_
  refine lv_iconst (v := 1) F.1.1 F.1.2.1 dL_law_765 (by decide) ?_
  refine lv_iadd F.1.1 F.1.2.1 dL_law_766 ?_
  refine va_sld F.1.1 F.1.2.1 X hbl hbA w.2.2 i1 dL_law_767 ?_
  refine lv_aload_n F.1.1 F.1.2.1 dL_law_768 rfl (lv_at hl 0 rfl) ?_
  refine lv_iload_n F.1.1 F.1.2.1 dL_law_769 rfl (lv_at hl 3 rfl) ?_
  refine lv_iconst (v := 2) F.1.1 F.1.2.1 dL_law_770 (by decide) ?_
  refine lv_iadd F.1.1 F.1.2.1 dL_law_771 ?_
  refine va_sld F.1.1 F.1.2.1 X hbl hbA w.2.2 i2 dL_law_772 ?_
  refine lw_call (As := [.int (xs (nI i + 1).toNatClampNeg), .int (xs (nI i + 2).toNatClampNeg)]) (rest := [.int r]) F C2 w (by rw [List.append_assoc]) (ci := 11) rfl e2 cv_X12_tagged kw_1567 2 (by decide +kernel) rfl hl.1 rfl (Nat.le_of_ble_eq_true rfl) dL_law_773 ⟨by omega, by omega⟩ (fun u2 H locs p2 w => ?_)
  refine lv_icmp_eq (tgt := 1112) F.1.1 F.1.2.1 dL_law_776 (by decide) (fun _ => ?_) (fun hne => absurd rfl hne)
  exact next _ _ _ H locs ⟨hat, hru, hle, hsh, hlo, kv, kept, isKept, hnx _ _ p1 p2, hK.up⟩ (w.perm (lz_p3 u1 u2 kw))
theorem lc_sweep {E : mE} {p : Program} {l : Launch} {e : Env} {s : State} {m : MethodId} {below : List Frame} {meth : Method} {c : Code} {b L : Nat} {xs : Nat → Int32} {A : Nat → Prop} {Q : State → Prop} {cells slots i n hx hm : Nat} {H : Heap} {locs : List Loc} {ls : Array Slot} {w1 w2 kw : va_W} (F : LF E p s m c b A) (X : va_X b L xs s s.heap) (hbl : b < s.heap.size) (hbA : ¬ A b) (i1 : vp_in (nI i + 1) L) (i2 : vp_in (nI i + 2) L) (i3 : vp_in (nI i + 3) L) (hc : n < 512) (hS : LSt E hx hm n w1 w2 kw) (w : mW E A s (w1 ++ (w2 ++ kw)) H locs) (hl : lv_has ls 4 [(0, .ref b), (1, .ref hx), (2, .ref hm), (3, .int (nI i))]) (hf : cells + 90 + 90 ≤ 96002 ∧ slots + 8500 + 8500 ≤ 8814244) (next : ∀ (w1 w2 kw : va_W) (H : Heap) (locs : List Loc), LSt E hx hm (n + 1) w1 w2 kw → mW E A s (w1 ++ (w2 ++ kw)) H locs → W p l e room_1 s m #[Value.ref b] below meth c H locs (cells + 90 + 90) (slots + 8500 + 8500) Q (F0 m 1112 ls [])) : W p l e room_1 s m #[Value.ref b] below meth c H locs cells slots Q (F0 m 781 ls []) := by
  obtain ⟨hat, hru, hle, hsh, hlo, kv, kept, isKept, hI, hK⟩ := hS
  obtain ⟨fs1, e1⟩ := hI.x0
  obtain ⟨fs2, e2⟩ := hI.m0
  obtain ⟨r, P1, P2, C1, C2, hnx⟩ := lk_sweep (l := l) hc hI 
  refine lv_aload_n F.1.1 F.1.2.1 dL_law_781 rfl (lv_at hl 1 rfl) ?_
  refine lw_call (As := []) (rest := []) F C1 w (List.Perm.refl _) (ci := 10) rfl e1 cv_X11_sweep kw_835 0 (by decide +kernel) rfl hl.1 rfl (Nat.le_of_ble_eq_true rfl) dL_law_782 ⟨by omega, by omega⟩ (fun u1 H locs p1 w => ?_)
  refine lv_aload_n F.1.1 F.1.2.1 dL_law_785 rfl (lv_at hl 2 rfl) ?_
  refine lw_call (As := []) (rest := [.int r]) F C2 w (by rw [List.append_assoc]) (ci := 11) rfl e2 cv_X12_sweep kw_1563 0 (by decide +kernel) rfl hl.1 rfl (Nat.le_of_ble_eq_true rfl) dL_law_786 ⟨by omega, by omega⟩ (fun u2 H locs p2 w => ?_)
  refine lv_icmp_eq (tgt := 1112) F.1.1 F.1.2.1 dL_law_789 (by decide) (fun _ => ?_) (fun hne => absurd rfl hne)
  exact next _ _ _ H locs ⟨hat, hru, hle, hsh, hlo, kv, kept, isKept, hnx _ _ p1 p2, hK.up⟩ (w.perm (lz_p3 u1 u2 kw))
theorem lc_toGo {E : mE} {p : Program} {l : Launch} {e : Env} {s : State} {m : MethodId} {below : List Frame} {meth : Method} {c : Code} {b L : Nat} {xs : Nat → Int32} {A : Nat → Prop} {Q : State → Prop} {cells slots i n hx hm : Nat} {H : Heap} {locs : List Loc} {ls : Array Slot} {w1 w2 kw : va_W} (F : LF E p s m c b A) (X : va_X b L xs s s.heap) (hbl : b < s.heap.size) (hbA : ¬ A b) (i1 : vp_in (nI i + 1) L) (i2 : vp_in (nI i + 2) L) (i3 : vp_in (nI i + 3) L) (hc : n < 512) (hS : LSt E hx hm n w1 w2 kw) (w : mW E A s (w1 ++ (w2 ++ kw)) H locs) (hl : lv_has ls 4 [(0, .ref b), (1, .ref hx), (2, .ref hm), (3, .int (nI i))]) (hf : cells + 90 + 90 ≤ 96002 ∧ slots + 8500 + 8500 ≤ 8814244) (next : ∀ (w1 w2 kw : va_W) (H : Heap) (locs : List Loc), LSt E hx hm (n + 1) w1 w2 kw → mW E A s (w1 ++ (w2 ++ kw)) H locs → W p l e room_1 s m #[Value.ref b] below meth c H locs (cells + 90 + 90) (slots + 8500 + 8500) Q (F0 m 1112 ls [])) : W p l e room_1 s m #[Value.ref b] below meth c H locs cells slots Q (F0 m 794 ls []) := by
  obtain ⟨hat, hru, hle, hsh, hlo, kv, kept, isKept, hI, hK⟩ := hS
  obtain ⟨fs1, e1⟩ := hI.x0
  obtain ⟨fs2, e2⟩ := hI.m0
  obtain ⟨r, P1, P2, C1, C2, hnx⟩ := lk_toGo (l := l) hc hI (xs (nI i + 1).toNatClampNeg) (xs (nI i + 2).toNatClampNeg)
  refine lv_aload_n F.1.1 F.1.2.1 dL_law_794 rfl (lv_at hl 1 rfl) ?_
  refine lv_aload_n F.1.1 F.1.2.1 dL_law_795 rfl (lv_at hl 0 rfl) ?_
  refine lv_iload_n F.1.1 F.1.2.1 dL_law_796 rfl (lv_at hl 3 rfl) ?_
  refine lv_iconst (v := 1) F.1.1 F.1.2.1 dL_law_797 (by decide) ?_
  refine lv_iadd F.1.1 F.1.2.1 dL_law_798 ?_
  refine va_sld F.1.1 F.1.2.1 X hbl hbA w.2.2 i1 dL_law_799 ?_
  refine lv_aload_n F.1.1 F.1.2.1 dL_law_800 rfl (lv_at hl 0 rfl) ?_
  refine lv_iload_n F.1.1 F.1.2.1 dL_law_801 rfl (lv_at hl 3 rfl) ?_
  refine lv_iconst (v := 2) F.1.1 F.1.2.1 dL_law_802 (by decide) ?_
  refine lv_iadd F.1.1 F.1.2.1 dL_law_803 ?_
  refine va_sld F.1.1 F.1.2.1 X hbl hbA w.2.2 i2 dL_law_804 ?_
  refine lw_call (As := [.int (xs (nI i + 1).toNatClampNeg), .int (xs (nI i + 2).toNatClampNeg)]) (rest := []) F C1 w (List.Perm.refl _) (ci := 10) rfl e1 cv_X11_toGo kw_839 2 (by decide +kernel) rfl hl.1 rfl (Nat.le_of_ble_eq_true rfl) dL_law_805 ⟨by omega, by omega⟩ (fun u1 H locs p1 w => ?_)
  refine lv_aload_n F.1.1 F.1.2.1 dL_law_808 rfl (lv_at hl 2 rfl) ?_
  refine lv_aload_n F.1.1 F.1.2.1 dL_law_809 rfl (lv_at hl 0 rfl) ?_
  refine lv_iload_n F.1.1 F.1.2.1 dL_law_810 rfl (lv_at hl 3 rfl) ?_
  refine lv_iconst (v := 1) F.1.1 F.1.2.1 dL_law_811 (by decide) ?_
  refine lv_iadd F.1.1 F.1.2.1 dL_law_812 ?_
  refine va_sld F.1.1 F.1.2.1 X hbl hbA w.2.2 i1 dL_law_813 ?_
  refine lv_aload_n F.1.1 F.1.2.1 dL_law_814 rfl (lv_at hl 0 rfl) ?_
  refine lv_iload_n F.1.1 F.1.2.1 dL_law_815 rfl (lv_at hl 3 rfl) ?_
  refine lv_iconst (v := 2) F.1.1 F.1.2.1 dL_law_816 (by decide) ?_
  refine lv_iadd F.1.1 F.1.2.1 dL_law_817 ?_
  refine va_sld F.1.1 F.1.2.1 X hbl hbA w.2.2 i2 dL_law_818 ?_
  refine lw_call (As := [.int (xs (nI i + 1).toNatClampNeg), .int (xs (nI i + 2).toNatClampNeg)]) (rest := [.int r]) F C2 w (by rw [List.append_assoc]) (ci := 11) rfl e2 cv_X12_toGo kw_1571 2 (by decide +kernel) rfl hl.1 rfl (Nat.le_of_ble_eq_true rfl) dL_law_819 ⟨by omega, by omega⟩ (fun u2 H locs p2 w => ?_)
  refine lv_icmp_eq (tgt := 1112) F.1.1 F.1.2.1 dL_law_822 (by decide) (fun _ => ?_) (fun hne => absurd rfl hne)
  exact next _ _ _ H locs ⟨hat, hru, hle, hsh, hlo, kv, kept, isKept, hnx _ _ p1 p2, hK.up⟩ (w.perm (lz_p3 u1 u2 kw))
theorem lc_would {E : mE} {p : Program} {l : Launch} {e : Env} {s : State} {m : MethodId} {below : List Frame} {meth : Method} {c : Code} {b L : Nat} {xs : Nat → Int32} {A : Nat → Prop} {Q : State → Prop} {cells slots i n hx hm : Nat} {H : Heap} {locs : List Loc} {ls : Array Slot} {w1 w2 kw : va_W} (F : LF E p s m c b A) (X : va_X b L xs s s.heap) (hbl : b < s.heap.size) (hbA : ¬ A b) (i1 : vp_in (nI i + 1) L) (i2 : vp_in (nI i + 2) L) (i3 : vp_in (nI i + 3) L) (hc : n < 512) (hS : LSt E hx hm n w1 w2 kw) (w : mW E A s (w1 ++ (w2 ++ kw)) H locs) (hl : lv_has ls 4 [(0, .ref b), (1, .ref hx), (2, .ref hm), (3, .int (nI i))]) (hf : cells + 90 + 90 ≤ 96002 ∧ slots + 8500 + 8500 ≤ 8814244) (next : ∀ (w1 w2 kw : va_W) (H : Heap) (locs : List Loc), LSt E hx hm (n + 1) w1 w2 kw → mW E A s (w1 ++ (w2 ++ kw)) H locs → W p l e room_1 s m #[Value.ref b] below meth c H locs (cells + 90 + 90) (slots + 8500 + 8500) Q (F0 m 1112 ls [])) : W p l e room_1 s m #[Value.ref b] below meth c H locs cells slots Q (F0 m 827 ls []) := by
  obtain ⟨hat, hru, hle, hsh, hlo, kv, kept, isKept, hI, hK⟩ := hS
  obtain ⟨fs1, e1⟩ := hI.x0
  obtain ⟨fs2, e2⟩ := hI.m0
  obtain ⟨r, P1, P2, C1, C2, hnx⟩ := lk_would (l := l) hc hI (xs (nI i + 1).toNatClampNeg)
  refine lv_aload_n F.1.1 F.1.2.1 dL_law_827 rfl (lv_at hl 1 rfl) ?_
  refine lv_aload_n F.1.1 F.1.2.1 dL_law_828 rfl (lv_at hl 0 rfl) ?_
  refine lv_iload_n F.1.1 F.1.2.1 dL_law_829 rfl (lv_at hl 3 rfl) ?_
  refine lv_iconst (v := 1) F.1.1 F.1.2.1 dL_law_830 (by decide) ?_
  refine lv_iadd F.1.1 F.1.2.1 dL_law_831 ?_
  refine va_sld F.1.1 F.1.2.1 X hbl hbA w.2.2 i1 dL_law_832 ?_
  refine lw_call (As := [.int (xs (nI i + 1).toNatClampNeg)]) (rest := []) F C1 w (List.Perm.refl _) (ci := 10) rfl e1 cv_X11_would kw_848 1 (by decide +kernel) rfl hl.1 rfl (Nat.le_of_ble_eq_true rfl) dL_law_833 ⟨by omega, by omega⟩ (fun u1 H locs p1 w => ?_)
  refine lv_aload_n F.1.1 F.1.2.1 dL_law_836 rfl (lv_at hl 2 rfl) ?_
  refine lv_aload_n F.1.1 F.1.2.1 dL_law_837 rfl (lv_at hl 0 rfl) ?_
  refine lv_iload_n F.1.1 F.1.2.1 dL_law_838 rfl (lv_at hl 3 rfl) ?_
  refine lv_iconst (v := 1) F.1.1 F.1.2.1 dL_law_839 (by decide) ?_
  refine lv_iadd F.1.1 F.1.2.1 dL_law_840 ?_
  refine va_sld F.1.1 F.1.2.1 X hbl hbA w.2.2 i1 dL_law_841 ?_
  refine lw_call (As := [.int (xs (nI i + 1).toNatClampNeg)]) (rest := [.int r]) F C2 w (by rw [List.append_assoc]) (ci := 11) rfl e2 cv_X12_would kw_1579 1 (by decide +kernel) rfl hl.1 rfl (Nat.le_of_ble_eq_true rfl) dL_law_842 ⟨by omega, by omega⟩ (fun u2 H locs p2 w => ?_)
  refine lv_icmp_eq (tgt := 1112) F.1.1 F.1.2.1 dL_law_845 (by decide) (fun _ => ?_) (fun hne => absurd rfl hne)
  exact next _ _ _ H locs ⟨hat, hru, hle, hsh, hlo, kv, kept, isKept, hnx _ _ p1 p2, hK.up⟩ (w.perm (lz_p3 u1 u2 kw))
theorem lc_cold {E : mE} {p : Program} {l : Launch} {e : Env} {s : State} {m : MethodId} {below : List Frame} {meth : Method} {c : Code} {b L : Nat} {xs : Nat → Int32} {A : Nat → Prop} {Q : State → Prop} {cells slots i n hx hm : Nat} {H : Heap} {locs : List Loc} {ls : Array Slot} {w1 w2 kw : va_W} (F : LF E p s m c b A) (X : va_X b L xs s s.heap) (hbl : b < s.heap.size) (hbA : ¬ A b) (i1 : vp_in (nI i + 1) L) (i2 : vp_in (nI i + 2) L) (i3 : vp_in (nI i + 3) L) (hc : n < 512) (hS : LSt E hx hm n w1 w2 kw) (w : mW E A s (w1 ++ (w2 ++ kw)) H locs) (hl : lv_has ls 4 [(0, .ref b), (1, .ref hx), (2, .ref hm), (3, .int (nI i))]) (hf : cells + 90 + 90 ≤ 96002 ∧ slots + 8500 + 8500 ≤ 8814244) (next : ∀ (w1 w2 kw : va_W) (H : Heap) (locs : List Loc), LSt E hx hm (n + 1) w1 w2 kw → mW E A s (w1 ++ (w2 ++ kw)) H locs → W p l e room_1 s m #[Value.ref b] below meth c H locs (cells + 90 + 90) (slots + 8500 + 8500) Q (F0 m 1112 ls [])) : W p l e room_1 s m #[Value.ref b] below meth c H locs cells slots Q (F0 m 850 ls []) := by
  obtain ⟨hat, hru, hle, hsh, hlo, kv, kept, isKept, hI, hK⟩ := hS
  obtain ⟨fs1, e1⟩ := hI.x0
  obtain ⟨fs2, e2⟩ := hI.m0
  obtain ⟨r, P1, P2, C1, C2, hnx⟩ := lk_cold (l := l) hc hI (xs (nI i + 1).toNatClampNeg) (xs (nI i + 2).toNatClampNeg)
  refine lv_aload_n F.1.1 F.1.2.1 dL_law_850 rfl (lv_at hl 1 rfl) ?_
  refine lv_aload_n F.1.1 F.1.2.1 dL_law_851 rfl (lv_at hl 0 rfl) ?_
  refine lv_iload_n F.1.1 F.1.2.1 dL_law_852 rfl (lv_at hl 3 rfl) ?_
  refine lv_iconst (v := 1) F.1.1 F.1.2.1 dL_law_853 (by decide) ?_
  refine lv_iadd F.1.1 F.1.2.1 dL_law_854 ?_
  refine va_sld F.1.1 F.1.2.1 X hbl hbA w.2.2 i1 dL_law_855 ?_
  refine lv_aload_n F.1.1 F.1.2.1 dL_law_856 rfl (lv_at hl 0 rfl) ?_
  refine lv_iload_n F.1.1 F.1.2.1 dL_law_857 rfl (lv_at hl 3 rfl) ?_
  refine lv_iconst (v := 2) F.1.1 F.1.2.1 dL_law_858 (by decide) ?_
  refine lv_iadd F.1.1 F.1.2.1 dL_law_859 ?_
  refine va_sld F.1.1 F.1.2.1 X hbl hbA w.2.2 i2 dL_law_860 ?_
  refine lw_call (As := [.int (xs (nI i + 1).toNatClampNeg), .int (xs (nI i + 2).toNatClampNeg)]) (rest := []) F C1 w (List.Perm.refl _) (ci := 10) rfl e1 cv_X11_cold kw_856 2 (by decide +kernel) rfl hl.1 rfl (Nat.le_of_ble_eq_true rfl) dL_law_861 ⟨by omega, by omega⟩ (fun u1 H locs p1 w => ?_)
  refine lv_aload_n F.1.1 F.1.2.1 dL_law_864 rfl (lv_at hl 2 rfl) ?_
  refine lv_aload_n F.1.1 F.1.2.1 dL_law_865 rfl (lv_at hl 0 rfl) ?_
  refine lv_iload_n F.1.1 F.1.2.1 dL_law_866 rfl (lv_at hl 3 rfl) ?_
  refine lv_iconst (v := 1) F.1.1 F.1.2.1 dL_law_867 (by decide) ?_
  refine lv_iadd F.1.1 F.1.2.1 dL_law_868 ?_
  refine va_sld F.1.1 F.1.2.1 X hbl hbA w.2.2 i1 dL_law_869 ?_
  refine lv_aload_n F.1.1 F.1.2.1 dL_law_870 rfl (lv_at hl 0 rfl) ?_
  refine lv_iload_n F.1.1 F.1.2.1 dL_law_871 rfl (lv_at hl 3 rfl) ?_
  refine lv_iconst (v := 2) F.1.1 F.1.2.1 dL_law_872 (by decide) ?_
  refine lv_iadd F.1.1 F.1.2.1 dL_law_873 ?_
  refine va_sld F.1.1 F.1.2.1 X hbl hbA w.2.2 i2 dL_law_874 ?_
  refine lw_call (As := [.int (xs (nI i + 1).toNatClampNeg), .int (xs (nI i + 2).toNatClampNeg)]) (rest := [.int r]) F C2 w (by rw [List.append_assoc]) (ci := 11) rfl e2 cv_X12_cold kw_1583 2 (by decide +kernel) rfl hl.1 rfl (Nat.le_of_ble_eq_true rfl) dL_law_875 ⟨by omega, by omega⟩ (fun u2 H locs p2 w => ?_)
  refine lv_icmp_eq (tgt := 1112) F.1.1 F.1.2.1 dL_law_878 (by decide) (fun _ => ?_) (fun hne => absurd rfl hne)
  exact next _ _ _ H locs ⟨hat, hru, hle, hsh, hlo, kv, kept, isKept, hnx _ _ p1 p2, hK.up⟩ (w.perm (lz_p3 u1 u2 kw))
theorem lc_follows {E : mE} {p : Program} {l : Launch} {e : Env} {s : State} {m : MethodId} {below : List Frame} {meth : Method} {c : Code} {b L : Nat} {xs : Nat → Int32} {A : Nat → Prop} {Q : State → Prop} {cells slots i n hx hm : Nat} {H : Heap} {locs : List Loc} {ls : Array Slot} {w1 w2 kw : va_W} (F : LF E p s m c b A) (X : va_X b L xs s s.heap) (hbl : b < s.heap.size) (hbA : ¬ A b) (i1 : vp_in (nI i + 1) L) (i2 : vp_in (nI i + 2) L) (i3 : vp_in (nI i + 3) L) (hc : n < 512) (hS : LSt E hx hm n w1 w2 kw) (w : mW E A s (w1 ++ (w2 ++ kw)) H locs) (hl : lv_has ls 4 [(0, .ref b), (1, .ref hx), (2, .ref hm), (3, .int (nI i))]) (hf : cells + 90 + 90 ≤ 96002 ∧ slots + 8500 + 8500 ≤ 8814244) (next : ∀ (w1 w2 kw : va_W) (H : Heap) (locs : List Loc), LSt E hx hm (n + 1) w1 w2 kw → mW E A s (w1 ++ (w2 ++ kw)) H locs → W p l e room_1 s m #[Value.ref b] below meth c H locs (cells + 90 + 90) (slots + 8500 + 8500) Q (F0 m 1112 ls [])) : W p l e room_1 s m #[Value.ref b] below meth c H locs cells slots Q (F0 m 883 ls []) := by
  obtain ⟨hat, hru, hle, hsh, hlo, kv, kept, isKept, hI, hK⟩ := hS
  obtain ⟨fs1, e1⟩ := hI.x0
  obtain ⟨fs2, e2⟩ := hI.m0
  obtain ⟨r, P1, P2, C1, C2, hnx⟩ := lk_follows (l := l) hc hI (xs (nI i + 1).toNatClampNeg)
  refine lv_aload_n F.1.1 F.1.2.1 dL_law_883 rfl (lv_at hl 1 rfl) ?_
  refine lv_aload_n F.1.1 F.1.2.1 dL_law_884 rfl (lv_at hl 0 rfl) ?_
  refine lv_iload_n F.1.1 F.1.2.1 dL_law_885 rfl (lv_at hl 3 rfl) ?_
  refine lv_iconst (v := 1) F.1.1 F.1.2.1 dL_law_886 (by decide) ?_
  refine lv_iadd F.1.1 F.1.2.1 dL_law_887 ?_
  refine va_sld F.1.1 F.1.2.1 X hbl hbA w.2.2 i1 dL_law_888 ?_
  refine lw_call (As := [.int (xs (nI i + 1).toNatClampNeg)]) (rest := []) F C1 w (List.Perm.refl _) (ci := 10) rfl e1 cv_X11_follows kw_861 1 (by decide +kernel) rfl hl.1 rfl (Nat.le_of_ble_eq_true rfl) dL_law_889 ⟨by omega, by omega⟩ (fun u1 H locs p1 w => ?_)
  refine lv_aload_n F.1.1 F.1.2.1 dL_law_892 rfl (lv_at hl 2 rfl) ?_
  refine lv_aload_n F.1.1 F.1.2.1 dL_law_893 rfl (lv_at hl 0 rfl) ?_
  refine lv_iload_n F.1.1 F.1.2.1 dL_law_894 rfl (lv_at hl 3 rfl) ?_
  refine lv_iconst (v := 1) F.1.1 F.1.2.1 dL_law_895 (by decide) ?_
  refine lv_iadd F.1.1 F.1.2.1 dL_law_896 ?_
  refine va_sld F.1.1 F.1.2.1 X hbl hbA w.2.2 i1 dL_law_897 ?_
  refine lw_call (As := [.int (xs (nI i + 1).toNatClampNeg)]) (rest := [.int r]) F C2 w (by rw [List.append_assoc]) (ci := 11) rfl e2 cv_X12_follows kw_1587 1 (by decide +kernel) rfl hl.1 rfl (Nat.le_of_ble_eq_true rfl) dL_law_898 ⟨by omega, by omega⟩ (fun u2 H locs p2 w => ?_)
  refine lv_icmp_eq (tgt := 1112) F.1.1 F.1.2.1 dL_law_901 (by decide) (fun _ => ?_) (fun hne => absurd rfl hne)
  exact next _ _ _ H locs ⟨hat, hru, hle, hsh, hlo, kv, kept, isKept, hnx _ _ p1 p2, hK.up⟩ (w.perm (lz_p3 u1 u2 kw))
theorem lc_replay {E : mE} {p : Program} {l : Launch} {e : Env} {s : State} {m : MethodId} {below : List Frame} {meth : Method} {c : Code} {b L : Nat} {xs : Nat → Int32} {A : Nat → Prop} {Q : State → Prop} {cells slots i n hx hm : Nat} {H : Heap} {locs : List Loc} {ls : Array Slot} {w1 w2 kw : va_W} (F : LF E p s m c b A) (X : va_X b L xs s s.heap) (hbl : b < s.heap.size) (hbA : ¬ A b) (i1 : vp_in (nI i + 1) L) (i2 : vp_in (nI i + 2) L) (i3 : vp_in (nI i + 3) L) (hc : n < 512) (hS : LSt E hx hm n w1 w2 kw) (w : mW E A s (w1 ++ (w2 ++ kw)) H locs) (hl : lv_has ls 4 [(0, .ref b), (1, .ref hx), (2, .ref hm), (3, .int (nI i))]) (hf : cells + 90 + 90 ≤ 96002 ∧ slots + 8500 + 8500 ≤ 8814244) (next : ∀ (w1 w2 kw : va_W) (H : Heap) (locs : List Loc), LSt E hx hm (n + 1) w1 w2 kw → mW E A s (w1 ++ (w2 ++ kw)) H locs → W p l e room_1 s m #[Value.ref b] below meth c H locs (cells + 90 + 90) (slots + 8500 + 8500) Q (F0 m 1112 ls [])) : W p l e room_1 s m #[Value.ref b] below meth c H locs cells slots Q (F0 m 906 ls []) := by
  obtain ⟨hat, hru, hle, hsh, hlo, kv, kept, isKept, hI, hK⟩ := hS
  obtain ⟨fs1, e1⟩ := hI.x0
  obtain ⟨fs2, e2⟩ := hI.m0
  obtain ⟨r, P1, P2, C1, C2, hnx⟩ := lk_replay (l := l) hc hI (xs (nI i + 1).toNatClampNeg) (xs (nI i + 2).toNatClampNeg)
  refine lv_aload_n F.1.1 F.1.2.1 dL_law_906 rfl (lv_at hl 1 rfl) ?_
  refine lv_aload_n F.1.1 F.1.2.1 dL_law_907 rfl (lv_at hl 0 rfl) ?_
  refine lv_iload_n F.1.1 F.1.2.1 dL_law_908 rfl (lv_at hl 3 rfl) ?_
  refine lv_iconst (v := 1) F.1.1 F.1.2.1 dL_law_909 (by decide) ?_
  refine lv_iadd F.1.1 F.1.2.1 dL_law_910 ?_
  refine va_sld F.1.1 F.1.2.1 X hbl hbA w.2.2 i1 dL_law_911 ?_
  refine lv_aload_n F.1.1 F.1.2.1 dL_law_912 rfl (lv_at hl 0 rfl) ?_
  refine lv_iload_n F.1.1 F.1.2.1 dL_law_913 rfl (lv_at hl 3 rfl) ?_
  refine lv_iconst (v := 2) F.1.1 F.1.2.1 dL_law_914 (by decide) ?_
  refine lv_iadd F.1.1 F.1.2.1 dL_law_915 ?_
  refine va_sld F.1.1 F.1.2.1 X hbl hbA w.2.2 i2 dL_law_916 ?_
  refine lw_call (As := [.int (xs (nI i + 1).toNatClampNeg), .int (xs (nI i + 2).toNatClampNeg)]) (rest := []) F C1 w (List.Perm.refl _) (ci := 10) rfl e1 cv_X11_replay kw_876 2 (by decide +kernel) rfl hl.1 rfl (Nat.le_of_ble_eq_true rfl) dL_law_917 ⟨by omega, by omega⟩ (fun u1 H locs p1 w => ?_)
  refine lv_aload_n F.1.1 F.1.2.1 dL_law_920 rfl (lv_at hl 2 rfl) ?_
  refine lv_aload_n F.1.1 F.1.2.1 dL_law_921 rfl (lv_at hl 0 rfl) ?_
  refine lv_iload_n F.1.1 F.1.2.1 dL_law_922 rfl (lv_at hl 3 rfl) ?_
  refine lv_iconst (v := 1) F.1.1 F.1.2.1 dL_law_923 (by decide) ?_
  refine lv_iadd F.1.1 F.1.2.1 dL_law_924 ?_
  refine va_sld F.1.1 F.1.2.1 X hbl hbA w.2.2 i1 dL_law_925 ?_
  refine lv_aload_n F.1.1 F.1.2.1 dL_law_926 rfl (lv_at hl 0 rfl) ?_
  refine lv_iload_n F.1.1 F.1.2.1 dL_law_927 rfl (lv_at hl 3 rfl) ?_
  refine lv_iconst (v := 2) F.1.1 F.1.2.1 dL_law_928 (by decide) ?_
  refine lv_iadd F.1.1 F.1.2.1 dL_law_929 ?_
  refine va_sld F.1.1 F.1.2.1 X hbl hbA w.2.2 i2 dL_law_930 ?_
  refine lw_call (As := [.int (xs (nI i + 1).toNatClampNeg), .int (xs (nI i + 2).toNatClampNeg)]) (rest := [.int r]) F C2 w (by rw [List.append_assoc]) (ci := 11) rfl e2 cv_X12_replay kw_1629 2 (by decide +kernel) rfl hl.1 rfl (Nat.le_of_ble_eq_true rfl) dL_law_931 ⟨by omega, by omega⟩ (fun u2 H locs p2 w => ?_)
  refine lv_icmp_eq (tgt := 1112) F.1.1 F.1.2.1 dL_law_934 (by decide) (fun _ => ?_) (fun hne => absurd rfl hne)
  exact next _ _ _ H locs ⟨hat, hru, hle, hsh, hlo, kv, kept, isKept, hnx _ _ p1 p2, hK.up⟩ (w.perm (lz_p3 u1 u2 kw))
theorem lc_replayed {E : mE} {p : Program} {l : Launch} {e : Env} {s : State} {m : MethodId} {below : List Frame} {meth : Method} {c : Code} {b L : Nat} {xs : Nat → Int32} {A : Nat → Prop} {Q : State → Prop} {cells slots i n hx hm : Nat} {H : Heap} {locs : List Loc} {ls : Array Slot} {w1 w2 kw : va_W} (F : LF E p s m c b A) (X : va_X b L xs s s.heap) (hbl : b < s.heap.size) (hbA : ¬ A b) (i1 : vp_in (nI i + 1) L) (i2 : vp_in (nI i + 2) L) (i3 : vp_in (nI i + 3) L) (hc : n < 512) (hS : LSt E hx hm n w1 w2 kw) (w : mW E A s (w1 ++ (w2 ++ kw)) H locs) (hl : lv_has ls 4 [(0, .ref b), (1, .ref hx), (2, .ref hm), (3, .int (nI i))]) (hf : cells + 90 + 90 ≤ 96002 ∧ slots + 8500 + 8500 ≤ 8814244) (next : ∀ (w1 w2 kw : va_W) (H : Heap) (locs : List Loc), LSt E hx hm (n + 1) w1 w2 kw → mW E A s (w1 ++ (w2 ++ kw)) H locs → W p l e room_1 s m #[Value.ref b] below meth c H locs (cells + 90 + 90) (slots + 8500 + 8500) Q (F0 m 1112 ls [])) : W p l e room_1 s m #[Value.ref b] below meth c H locs cells slots Q (F0 m 939 ls []) := by
  obtain ⟨hat, hru, hle, hsh, hlo, kv, kept, isKept, hI, hK⟩ := hS
  obtain ⟨fs1, e1⟩ := hI.x0
  obtain ⟨fs2, e2⟩ := hI.m0
  obtain ⟨r, P1, P2, C1, C2, hnx⟩ := lk_replayed (l := l) hc hI (xs (nI i + 1).toNatClampNeg) (xs (nI i + 2).toNatClampNeg)
  refine lv_aload_n F.1.1 F.1.2.1 dL_law_939 rfl (lv_at hl 1 rfl) ?_
  refine lv_aload_n F.1.1 F.1.2.1 dL_law_940 rfl (lv_at hl 0 rfl) ?_
  refine lv_iload_n F.1.1 F.1.2.1 dL_law_941 rfl (lv_at hl 3 rfl) ?_
  refine lv_iconst (v := 1) F.1.1 F.1.2.1 dL_law_942 (by decide) ?_
  refine lv_iadd F.1.1 F.1.2.1 dL_law_943 ?_
  refine va_sld F.1.1 F.1.2.1 X hbl hbA w.2.2 i1 dL_law_944 ?_
  refine lv_aload_n F.1.1 F.1.2.1 dL_law_945 rfl (lv_at hl 0 rfl) ?_
  refine lv_iload_n F.1.1 F.1.2.1 dL_law_946 rfl (lv_at hl 3 rfl) ?_
  refine lv_iconst (v := 2) F.1.1 F.1.2.1 dL_law_947 (by decide) ?_
  refine lv_iadd F.1.1 F.1.2.1 dL_law_948 ?_
  refine va_sld F.1.1 F.1.2.1 X hbl hbA w.2.2 i2 dL_law_949 ?_
  refine lw_call (As := [.int (xs (nI i + 1).toNatClampNeg), .int (xs (nI i + 2).toNatClampNeg)]) (rest := []) F C1 w (List.Perm.refl _) (ci := 10) rfl e1 cv_X11_replayed kw_912 2 (by decide +kernel) rfl hl.1 rfl (Nat.le_of_ble_eq_true rfl) dL_law_950 ⟨by omega, by omega⟩ (fun u1 H locs p1 w => ?_)
  refine lv_aload_n F.1.1 F.1.2.1 dL_law_953 rfl (lv_at hl 2 rfl) ?_
  refine lv_aload_n F.1.1 F.1.2.1 dL_law_954 rfl (lv_at hl 0 rfl) ?_
  refine lv_iload_n F.1.1 F.1.2.1 dL_law_955 rfl (lv_at hl 3 rfl) ?_
  refine lv_iconst (v := 1) F.1.1 F.1.2.1 dL_law_956 (by decide) ?_
  refine lv_iadd F.1.1 F.1.2.1 dL_law_957 ?_
  refine va_sld F.1.1 F.1.2.1 X hbl hbA w.2.2 i1 dL_law_958 ?_
  refine lv_aload_n F.1.1 F.1.2.1 dL_law_959 rfl (lv_at hl 0 rfl) ?_
  refine lv_iload_n F.1.1 F.1.2.1 dL_law_960 rfl (lv_at hl 3 rfl) ?_
  refine lv_iconst (v := 2) F.1.1 F.1.2.1 dL_law_961 (by decide) ?_
  refine lv_iadd F.1.1 F.1.2.1 dL_law_962 ?_
  refine va_sld F.1.1 F.1.2.1 X hbl hbA w.2.2 i2 dL_law_963 ?_
  refine lw_call (As := [.int (xs (nI i + 1).toNatClampNeg), .int (xs (nI i + 2).toNatClampNeg)]) (rest := [.int r]) F C2 w (by rw [List.append_assoc]) (ci := 11) rfl e2 cv_X12_replayed kw_1644 2 (by decide +kernel) rfl hl.1 rfl (Nat.le_of_ble_eq_true rfl) dL_law_964 ⟨by omega, by omega⟩ (fun u2 H locs p2 w => ?_)
  refine lv_icmp_eq (tgt := 1112) F.1.1 F.1.2.1 dL_law_967 (by decide) (fun _ => ?_) (fun hne => absurd rfl hne)
  exact next _ _ _ H locs ⟨hat, hru, hle, hsh, hlo, kv, kept, isKept, hnx _ _ p1 p2, hK.up⟩ (w.perm (lz_p3 u1 u2 kw))
theorem lc_book {E : mE} {p : Program} {l : Launch} {e : Env} {s : State} {m : MethodId} {below : List Frame} {meth : Method} {c : Code} {b L : Nat} {xs : Nat → Int32} {A : Nat → Prop} {Q : State → Prop} {cells slots i n hx hm : Nat} {H : Heap} {locs : List Loc} {ls : Array Slot} {w1 w2 kw : va_W} (F : LF E p s m c b A) (X : va_X b L xs s s.heap) (hbl : b < s.heap.size) (hbA : ¬ A b) (i1 : vp_in (nI i + 1) L) (i2 : vp_in (nI i + 2) L) (i3 : vp_in (nI i + 3) L) (hc : n < 512) (hS : LSt E hx hm n w1 w2 kw) (w : mW E A s (w1 ++ (w2 ++ kw)) H locs) (hl : lv_has ls 4 [(0, .ref b), (1, .ref hx), (2, .ref hm), (3, .int (nI i))]) (hf : cells + 90 + 90 ≤ 96002 ∧ slots + 8500 + 8500 ≤ 8814244) (next : ∀ (w1 w2 kw : va_W) (H : Heap) (locs : List Loc), LSt E hx hm (n + 1) w1 w2 kw → mW E A s (w1 ++ (w2 ++ kw)) H locs → W p l e room_1 s m #[Value.ref b] below meth c H locs (cells + 90 + 90) (slots + 8500 + 8500) Q (F0 m 1112 ls [])) : W p l e room_1 s m #[Value.ref b] below meth c H locs cells slots Q (F0 m 1005 ls []) := by
  obtain ⟨hat, hru, hle, hsh, hlo, kv, kept, isKept, hI, hK⟩ := hS
  obtain ⟨fs1, e1⟩ := hI.x0
  obtain ⟨fs2, e2⟩ := hI.m0
  obtain ⟨r, P1, P2, C1, C2, hnx⟩ := lk_book (l := l) hc hI (xs (nI i + 1).toNatClampNeg) (xs (nI i + 2).toNatClampNeg)
  refine lv_aload_n F.1.1 F.1.2.1 dL_law_1005 rfl (lv_at hl 1 rfl) ?_
  refine lv_aload_n F.1.1 F.1.2.1 dL_law_1006 rfl (lv_at hl 0 rfl) ?_
  refine lv_iload_n F.1.1 F.1.2.1 dL_law_1007 rfl (lv_at hl 3 rfl) ?_
  refine lv_iconst (v := 1) F.1.1 F.1.2.1 dL_law_1008 (by decide) ?_
  refine lv_iadd F.1.1 F.1.2.1 dL_law_1009 ?_
  refine va_sld F.1.1 F.1.2.1 X hbl hbA w.2.2 i1 dL_law_1010 ?_
  refine lv_aload_n F.1.1 F.1.2.1 dL_law_1011 rfl (lv_at hl 0 rfl) ?_
  refine lv_iload_n F.1.1 F.1.2.1 dL_law_1012 rfl (lv_at hl 3 rfl) ?_
  refine lv_iconst (v := 2) F.1.1 F.1.2.1 dL_law_1013 (by decide) ?_
  refine lv_iadd F.1.1 F.1.2.1 dL_law_1014 ?_
  refine va_sld F.1.1 F.1.2.1 X hbl hbA w.2.2 i2 dL_law_1015 ?_
  refine lw_call (As := [.int (xs (nI i + 1).toNatClampNeg), .int (xs (nI i + 2).toNatClampNeg)]) (rest := []) F C1 w (List.Perm.refl _) (ci := 10) rfl e1 cv_X11_book kw_1143 2 (by decide +kernel) rfl hl.1 rfl (Nat.le_of_ble_eq_true rfl) dL_law_1016 ⟨by omega, by omega⟩ (fun u1 H locs p1 w => ?_)
  refine lv_aload_n F.1.1 F.1.2.1 dL_law_1019 rfl (lv_at hl 2 rfl) ?_
  refine lv_aload_n F.1.1 F.1.2.1 dL_law_1020 rfl (lv_at hl 0 rfl) ?_
  refine lv_iload_n F.1.1 F.1.2.1 dL_law_1021 rfl (lv_at hl 3 rfl) ?_
  refine lv_iconst (v := 1) F.1.1 F.1.2.1 dL_law_1022 (by decide) ?_
  refine lv_iadd F.1.1 F.1.2.1 dL_law_1023 ?_
  refine va_sld F.1.1 F.1.2.1 X hbl hbA w.2.2 i1 dL_law_1024 ?_
  refine lv_aload_n F.1.1 F.1.2.1 dL_law_1025 rfl (lv_at hl 0 rfl) ?_
  refine lv_iload_n F.1.1 F.1.2.1 dL_law_1026 rfl (lv_at hl 3 rfl) ?_
  refine lv_iconst (v := 2) F.1.1 F.1.2.1 dL_law_1027 (by decide) ?_
  refine lv_iadd F.1.1 F.1.2.1 dL_law_1028 ?_
  refine va_sld F.1.1 F.1.2.1 X hbl hbA w.2.2 i2 dL_law_1029 ?_
  refine lw_call (As := [.int (xs (nI i + 1).toNatClampNeg), .int (xs (nI i + 2).toNatClampNeg)]) (rest := [.long r]) F C2 w (by rw [List.append_assoc]) (ci := 11) rfl e2 cv_X12_book kw_1648 2 (by decide +kernel) rfl hl.1 rfl (Nat.le_of_ble_eq_true rfl) dL_law_1030 ⟨by omega, by omega⟩ (fun u2 H locs p2 w => ?_)
  refine lw_lcmp F.1.1 F.1.2.1 dL_law_1033 ?_
  refine lv_if_eq (tgt := 1112) F.1.1 F.1.2.1 dL_law_1034 (by decide) (fun _ => ?_) (fun hne => absurd rfl hne)
  exact next _ _ _ H locs ⟨hat, hru, hle, hsh, hlo, kv, kept, isKept, hnx _ _ p1 p2, hK.up⟩ (w.perm (lz_p3 u1 u2 kw))
theorem lc_led {E : mE} {p : Program} {l : Launch} {e : Env} {s : State} {m : MethodId} {below : List Frame} {meth : Method} {c : Code} {b L : Nat} {xs : Nat → Int32} {A : Nat → Prop} {Q : State → Prop} {cells slots i n hx hm : Nat} {H : Heap} {locs : List Loc} {ls : Array Slot} {w1 w2 kw : va_W} (F : LF E p s m c b A) (X : va_X b L xs s s.heap) (hbl : b < s.heap.size) (hbA : ¬ A b) (i1 : vp_in (nI i + 1) L) (i2 : vp_in (nI i + 2) L) (i3 : vp_in (nI i + 3) L) (hc : n < 512) (hS : LSt E hx hm n w1 w2 kw) (w : mW E A s (w1 ++ (w2 ++ kw)) H locs) (hl : lv_has ls 4 [(0, .ref b), (1, .ref hx), (2, .ref hm), (3, .int (nI i))]) (hf : cells + 90 + 90 ≤ 96002 ∧ slots + 8500 + 8500 ≤ 8814244) (next : ∀ (w1 w2 kw : va_W) (H : Heap) (locs : List Loc), LSt E hx hm (n + 1) w1 w2 kw → mW E A s (w1 ++ (w2 ++ kw)) H locs → W p l e room_1 s m #[Value.ref b] below meth c H locs (cells + 90 + 90) (slots + 8500 + 8500) Q (F0 m 1112 ls [])) : W p l e room_1 s m #[Value.ref b] below meth c H locs cells slots Q (F0 m 1039 ls []) := by
  obtain ⟨hat, hru, hle, hsh, hlo, kv, kept, isKept, hI, hK⟩ := hS
  obtain ⟨fs1, e1⟩ := hI.x0
  obtain ⟨fs2, e2⟩ := hI.m0
  obtain ⟨r, P1, P2, C1, C2, hnx⟩ := lk_led (l := l) hc hI (xs (nI i + 1).toNatClampNeg)
  refine lv_aload_n F.1.1 F.1.2.1 dL_law_1039 rfl (lv_at hl 1 rfl) ?_
  refine lv_aload_n F.1.1 F.1.2.1 dL_law_1040 rfl (lv_at hl 0 rfl) ?_
  refine lv_iload_n F.1.1 F.1.2.1 dL_law_1041 rfl (lv_at hl 3 rfl) ?_
  refine lv_iconst (v := 1) F.1.1 F.1.2.1 dL_law_1042 (by decide) ?_
  refine lv_iadd F.1.1 F.1.2.1 dL_law_1043 ?_
  refine va_sld F.1.1 F.1.2.1 X hbl hbA w.2.2 i1 dL_law_1044 ?_
  refine lw_call (As := [.int (xs (nI i + 1).toNatClampNeg)]) (rest := []) F C1 w (List.Perm.refl _) (ci := 10) rfl e1 cv_X11_led kw_1149 1 (by decide +kernel) rfl hl.1 rfl (Nat.le_of_ble_eq_true rfl) dL_law_1045 ⟨by omega, by omega⟩ (fun u1 H locs p1 w => ?_)
  refine lv_aload_n F.1.1 F.1.2.1 dL_law_1048 rfl (lv_at hl 2 rfl) ?_
  refine lv_aload_n F.1.1 F.1.2.1 dL_law_1049 rfl (lv_at hl 0 rfl) ?_
  refine lv_iload_n F.1.1 F.1.2.1 dL_law_1050 rfl (lv_at hl 3 rfl) ?_
  refine lv_iconst (v := 1) F.1.1 F.1.2.1 dL_law_1051 (by decide) ?_
  refine lv_iadd F.1.1 F.1.2.1 dL_law_1052 ?_
  refine va_sld F.1.1 F.1.2.1 X hbl hbA w.2.2 i1 dL_law_1053 ?_
  refine lw_call (As := [.int (xs (nI i + 1).toNatClampNeg)]) (rest := [.long r]) F C2 w (by rw [List.append_assoc]) (ci := 11) rfl e2 cv_X12_led kw_1654 1 (by decide +kernel) rfl hl.1 rfl (Nat.le_of_ble_eq_true rfl) dL_law_1054 ⟨by omega, by omega⟩ (fun u2 H locs p2 w => ?_)
  refine lw_lcmp F.1.1 F.1.2.1 dL_law_1057 ?_
  refine lv_if_eq (tgt := 1112) F.1.1 F.1.2.1 dL_law_1058 (by decide) (fun _ => ?_) (fun hne => absurd rfl hne)
  exact next _ _ _ H locs ⟨hat, hru, hle, hsh, hlo, kv, kept, isKept, hnx _ _ p1 p2, hK.up⟩ (w.perm (lz_p3 u1 u2 kw))
theorem lc_image {E : mE} {p : Program} {l : Launch} {e : Env} {s : State} {m : MethodId} {below : List Frame} {meth : Method} {c : Code} {b L : Nat} {xs : Nat → Int32} {A : Nat → Prop} {Q : State → Prop} {cells slots i n hx hm : Nat} {H : Heap} {locs : List Loc} {ls : Array Slot} {w1 w2 kw : va_W} (F : LF E p s m c b A) (X : va_X b L xs s s.heap) (hbl : b < s.heap.size) (hbA : ¬ A b) (i1 : vp_in (nI i + 1) L) (i2 : vp_in (nI i + 2) L) (i3 : vp_in (nI i + 3) L) (hc : n < 512) (hS : LSt E hx hm n w1 w2 kw) (w : mW E A s (w1 ++ (w2 ++ kw)) H locs) (hl : lv_has ls 4 [(0, .ref b), (1, .ref hx), (2, .ref hm), (3, .int (nI i))]) (hf : cells + 90 + 90 ≤ 96002 ∧ slots + 8500 + 8500 ≤ 8814244) (next : ∀ (w1 w2 kw : va_W) (H : Heap) (locs : List Loc), LSt E hx hm (n + 1) w1 w2 kw → mW E A s (w1 ++ (w2 ++ kw)) H locs → W p l e room_1 s m #[Value.ref b] below meth c H locs (cells + 90 + 90) (slots + 8500 + 8500) Q (F0 m 1112 ls [])) : W p l e room_1 s m #[Value.ref b] below meth c H locs cells slots Q (F0 m 1063 ls []) := by
  obtain ⟨hat, hru, hle, hsh, hlo, kv, kept, isKept, hI, hK⟩ := hS
  obtain ⟨fs1, e1⟩ := hI.x0
  obtain ⟨fs2, e2⟩ := hI.m0
  obtain ⟨r, P1, P2, C1, C2, hnx⟩ := lk_image (l := l) hI hK
  refine lv_aload_n F.1.1 F.1.2.1 dL_law_1063 rfl (lv_at hl 1 rfl) ?_
  refine lw_call (As := []) (rest := []) F C1 w (lz_p1 w1 w2 kw) (ci := 10) rfl (lw_e0 e1) cv_X11_image kw_1157 0 (by decide +kernel) rfl hl.1 rfl (Nat.le_of_ble_eq_true rfl) dL_law_1064 ⟨by omega, by omega⟩ (fun u1 H locs p1 w => ?_)
  refine lv_aload_n F.1.1 F.1.2.1 dL_law_1067 rfl (lv_at hl 2 rfl) ?_
  refine lw_call (As := []) (rest := [.int r]) F C2 w (List.Perm.refl _) (ci := 11) rfl e2 cv_X12_image kw_1658 0 (by decide +kernel) rfl hl.1 rfl (Nat.le_of_ble_eq_true rfl) dL_law_1068 ⟨by omega, by omega⟩ (fun u2 H locs p2 w => ?_)
  refine lv_icmp_eq (tgt := 1112) F.1.1 F.1.2.1 dL_law_1071 (by decide) (fun _ => ?_) (fun hne => absurd rfl hne)
  obtain ⟨w1', kw', rfl, hS'⟩ := hnx _ _ p1 p2
  exact next _ _ _ H locs hS' (w.perm (lz_p2 w1' u2 kw'))
theorem lc_back {E : mE} {p : Program} {l : Launch} {e : Env} {s : State} {m : MethodId} {below : List Frame} {meth : Method} {c : Code} {b L : Nat} {xs : Nat → Int32} {A : Nat → Prop} {Q : State → Prop} {cells slots i n hx hm : Nat} {H : Heap} {locs : List Loc} {ls : Array Slot} {w1 w2 kw : va_W} (F : LF E p s m c b A) (X : va_X b L xs s s.heap) (hbl : b < s.heap.size) (hbA : ¬ A b) (i1 : vp_in (nI i + 1) L) (i2 : vp_in (nI i + 2) L) (i3 : vp_in (nI i + 3) L) (hc : n < 512) (hS : LSt E hx hm n w1 w2 kw) (w : mW E A s (w1 ++ (w2 ++ kw)) H locs) (hl : lv_has ls 4 [(0, .ref b), (1, .ref hx), (2, .ref hm), (3, .int (nI i))]) (hf : cells + 90 + 90 ≤ 96002 ∧ slots + 8500 + 8500 ≤ 8814244) (next : ∀ (w1 w2 kw : va_W) (H : Heap) (locs : List Loc), LSt E hx hm (n + 1) w1 w2 kw → mW E A s (w1 ++ (w2 ++ kw)) H locs → W p l e room_1 s m #[Value.ref b] below meth c H locs (cells + 90 + 90) (slots + 8500 + 8500) Q (F0 m 1112 ls [])) : W p l e room_1 s m #[Value.ref b] below meth c H locs cells slots Q (F0 m 1076 ls []) := by
  obtain ⟨hat, hru, hle, hsh, hlo, kv, kept, isKept, hI, hK⟩ := hS
  obtain ⟨fs1, e1⟩ := hI.x0
  obtain ⟨fs2, e2⟩ := hI.m0
  obtain ⟨r, P1, P2, C1, C2, hnx⟩ := lk_back (l := l) hI hK
  refine lv_aload_n F.1.1 F.1.2.1 dL_law_1076 rfl (lv_at hl 1 rfl) ?_
  refine lw_call (As := []) (rest := []) F C1 w (lz_p1 w1 w2 kw) (ci := 10) rfl (lw_e0 e1) cv_X11_back kw_1203 0 (by decide +kernel) rfl hl.1 rfl (Nat.le_of_ble_eq_true rfl) dL_law_1077 ⟨by omega, by omega⟩ (fun u1 H locs p1 w => ?_)
  refine lv_aload_n F.1.1 F.1.2.1 dL_law_1080 rfl (lv_at hl 2 rfl) ?_
  refine lw_call (As := []) (rest := [.int r]) F C2 w (List.Perm.refl _) (ci := 11) rfl e2 cv_X12_back kw_1665 0 (by decide +kernel) rfl hl.1 rfl (Nat.le_of_ble_eq_true rfl) dL_law_1081 ⟨by omega, by omega⟩ (fun u2 H locs p2 w => ?_)
  refine lv_icmp_eq (tgt := 1112) F.1.1 F.1.2.1 dL_law_1084 (by decide) (fun _ => ?_) (fun hne => absurd rfl hne)
  obtain ⟨w1', kw', rfl, hS'⟩ := hnx _ _ p1 p2
  exact next _ _ _ H locs hS' (w.perm (lz_p2 w1' u2 kw'))
theorem lc_count {E : mE} {p : Program} {l : Launch} {e : Env} {s : State} {m : MethodId} {below : List Frame} {meth : Method} {c : Code} {b L : Nat} {xs : Nat → Int32} {A : Nat → Prop} {Q : State → Prop} {cells slots i n hx hm : Nat} {H : Heap} {locs : List Loc} {ls : Array Slot} {w1 w2 kw : va_W} (F : LF E p s m c b A) (X : va_X b L xs s s.heap) (hbl : b < s.heap.size) (hbA : ¬ A b) (i1 : vp_in (nI i + 1) L) (i2 : vp_in (nI i + 2) L) (i3 : vp_in (nI i + 3) L) (hc : n < 512) (hS : LSt E hx hm n w1 w2 kw) (w : mW E A s (w1 ++ (w2 ++ kw)) H locs) (hl : lv_has ls 4 [(0, .ref b), (1, .ref hx), (2, .ref hm), (3, .int (nI i))]) (hf : cells + 90 + 90 ≤ 96002 ∧ slots + 8500 + 8500 ≤ 8814244) (next : ∀ (w1 w2 kw : va_W) (H : Heap) (locs : List Loc), LSt E hx hm (n + 1) w1 w2 kw → mW E A s (w1 ++ (w2 ++ kw)) H locs → W p l e room_1 s m #[Value.ref b] below meth c H locs (cells + 90 + 90) (slots + 8500 + 8500) Q (F0 m 1112 ls [])) : W p l e room_1 s m #[Value.ref b] below meth c H locs cells slots Q (F0 m 1089 ls []) := by
  obtain ⟨hat, hru, hle, hsh, hlo, kv, kept, isKept, hI, hK⟩ := hS
  obtain ⟨fs1, e1⟩ := hI.x0
  obtain ⟨fs2, e2⟩ := hI.m0
  obtain ⟨r, P1, P2, C1, C2, hnx⟩ := lk_count (l := l) hc hI (xs (nI i + 1).toNatClampNeg)
  refine lv_aload_n F.1.1 F.1.2.1 dL_law_1089 rfl (lv_at hl 1 rfl) ?_
  refine lv_aload_n F.1.1 F.1.2.1 dL_law_1090 rfl (lv_at hl 0 rfl) ?_
  refine lv_iload_n F.1.1 F.1.2.1 dL_law_1091 rfl (lv_at hl 3 rfl) ?_
  refine lv_iconst (v := 1) F.1.1 F.1.2.1 dL_law_1092 (by decide) ?_
  refine lv_iadd F.1.1 F.1.2.1 dL_law_1093 ?_
  refine va_sld F.1.1 F.1.2.1 X hbl hbA w.2.2 i1 dL_law_1094 ?_
  refine lw_call (As := [.int (xs (nI i + 1).toNatClampNeg)]) (rest := []) F C1 w (List.Perm.refl _) (ci := 10) rfl e1 cv_X11_count kw_1207 1 (by decide +kernel) rfl hl.1 rfl (Nat.le_of_ble_eq_true rfl) dL_law_1095 ⟨by omega, by omega⟩ (fun u1 H locs p1 w => ?_)
  refine lv_aload_n F.1.1 F.1.2.1 dL_law_1098 rfl (lv_at hl 2 rfl) ?_
  refine lv_aload_n F.1.1 F.1.2.1 dL_law_1099 rfl (lv_at hl 0 rfl) ?_
  refine lv_iload_n F.1.1 F.1.2.1 dL_law_1100 rfl (lv_at hl 3 rfl) ?_
  refine lv_iconst (v := 1) F.1.1 F.1.2.1 dL_law_1101 (by decide) ?_
  refine lv_iadd F.1.1 F.1.2.1 dL_law_1102 ?_
  refine va_sld F.1.1 F.1.2.1 X hbl hbA w.2.2 i1 dL_law_1103 ?_
  refine lw_call (As := [.int (xs (nI i + 1).toNatClampNeg)]) (rest := [.int r]) F C2 w (by rw [List.append_assoc]) (ci := 11) rfl e2 cv_X12_count kw_1669 1 (by decide +kernel) rfl hl.1 rfl (Nat.le_of_ble_eq_true rfl) dL_law_1104 ⟨by omega, by omega⟩ (fun u2 H locs p2 w => ?_)
  refine lv_icmp_eq (tgt := 1112) F.1.1 F.1.2.1 dL_law_1107 (by decide) (fun _ => ?_) (fun hne => absurd rfl hne)
  exact next _ _ _ H locs ⟨hat, hru, hle, hsh, hlo, kv, kept, isKept, hnx _ _ p1 p2, hK.up⟩ (w.perm (lz_p3 u1 u2 kw))
theorem lc_text {E : mE} {p : Program} {l : Launch} {e : Env} {s : State} {m : MethodId} {below : List Frame} {meth : Method} {c : Code} {b L : Nat} {xs : Nat → Int32} {A : Nat → Prop} {Q : State → Prop} {cells slots i n hx hm : Nat} {H : Heap} {locs : List Loc} {ls : Array Slot} {w1 w2 kw : va_W} (TX : TEXTLAW E l) (F : LF E p s m c b A) (X : va_X b L xs s s.heap) (hbl : b < s.heap.size) (hbA : ¬ A b) (i1 : vp_in (nI i + 1) L) (i2 : vp_in (nI i + 2) L) (i3 : vp_in (nI i + 3) L) (hc : n < 512) (hS : LSt E hx hm n w1 w2 kw) (w : mW E A s (w1 ++ (w2 ++ kw)) H locs) (hl : lv_has ls 4 [(0, .ref b), (1, .ref hx), (2, .ref hm), (3, .int (nI i))]) (hf : cells + 90 + 90 ≤ 96002 ∧ slots + 8500 + 8500 ≤ 8814244) (next : ∀ (w1 w2 kw : va_W) (H : Heap) (locs : List Loc), LSt E hx hm (n + 1) w1 w2 kw → mW E A s (w1 ++ (w2 ++ kw)) H locs → W p l e room_1 s m #[Value.ref b] below meth c H locs (cells + 90 + 90) (slots + 8500 + 8500) Q (F0 m 1112 ls [])) : W p l e room_1 s m #[Value.ref b] below meth c H locs cells slots Q (F0 m 972 ls []) := by
  obtain ⟨hat, hru, hle, hsh, hlo, kv, kept, isKept, hI, hK⟩ := hS
  obtain ⟨fs1, e1⟩ := hI.x0
  obtain ⟨fs2, e2⟩ := hI.m0
  obtain ⟨r, P1, P2, C1, C2, hnx⟩ := TX hx hm hat hru hle hsh hlo kv kept isKept n hc w1 w2 hI (xs (nI i + 1).toNatClampNeg) (xs (nI i + 2).toNatClampNeg)
  refine lv_aload_n F.1.1 F.1.2.1 dL_law_972 rfl (lv_at hl 1 rfl) ?_
  refine lv_aload_n F.1.1 F.1.2.1 dL_law_973 rfl (lv_at hl 0 rfl) ?_
  refine lv_iload_n F.1.1 F.1.2.1 dL_law_974 rfl (lv_at hl 3 rfl) ?_
  refine lv_iconst (v := 1) F.1.1 F.1.2.1 dL_law_975 (by decide) ?_
  refine lv_iadd F.1.1 F.1.2.1 dL_law_976 ?_
  refine va_sld F.1.1 F.1.2.1 X hbl hbA w.2.2 i1 dL_law_977 ?_
  refine lv_aload_n F.1.1 F.1.2.1 dL_law_978 rfl (lv_at hl 0 rfl) ?_
  refine lv_iload_n F.1.1 F.1.2.1 dL_law_979 rfl (lv_at hl 3 rfl) ?_
  refine lv_iconst (v := 2) F.1.1 F.1.2.1 dL_law_980 (by decide) ?_
  refine lv_iadd F.1.1 F.1.2.1 dL_law_981 ?_
  refine va_sld F.1.1 F.1.2.1 X hbl hbA w.2.2 i2 dL_law_982 ?_
  refine lw_call (As := [.int (xs (nI i + 1).toNatClampNeg), .int (xs (nI i + 2).toNatClampNeg)]) (rest := []) F C1 w (List.Perm.refl _) (ci := 10) rfl e1 cv_X11_text kw_916 2 (by decide +kernel) rfl hl.1 rfl (Nat.le_of_ble_eq_true rfl) dL_law_983 ⟨by omega, by omega⟩ (fun u1 H locs p1 w => ?_)
  refine lv_aload_n F.1.1 F.1.2.1 dL_law_986 rfl (lv_at hl 2 rfl) ?_
  refine lv_aload_n F.1.1 F.1.2.1 dL_law_987 rfl (lv_at hl 0 rfl) ?_
  refine lv_iload_n F.1.1 F.1.2.1 dL_law_988 rfl (lv_at hl 3 rfl) ?_
  refine lv_iconst (v := 1) F.1.1 F.1.2.1 dL_law_989 (by decide) ?_
  refine lv_iadd F.1.1 F.1.2.1 dL_law_990 ?_
  refine va_sld F.1.1 F.1.2.1 X hbl hbA w.2.2 i1 dL_law_991 ?_
  refine lv_aload_n F.1.1 F.1.2.1 dL_law_992 rfl (lv_at hl 0 rfl) ?_
  refine lv_iload_n F.1.1 F.1.2.1 dL_law_993 rfl (lv_at hl 3 rfl) ?_
  refine lv_iconst (v := 2) F.1.1 F.1.2.1 dL_law_994 (by decide) ?_
  refine lv_iadd F.1.1 F.1.2.1 dL_law_995 ?_
  refine va_sld F.1.1 F.1.2.1 X hbl hbA w.2.2 i2 dL_law_996 ?_
  refine lw_call (As := [.int (xs (nI i + 1).toNatClampNeg), .int (xs (nI i + 2).toNatClampNeg)]) (rest := [.int r]) F C2 w (by rw [List.append_assoc]) (ci := 11) rfl e2 cv_X12_text kw_1591 2 (by decide +kernel) rfl hl.1 rfl (Nat.le_of_ble_eq_true rfl) dL_law_997 ⟨by omega, by omega⟩ (fun u2 H locs p2 w => ?_)
  refine lv_icmp_eq (tgt := 1112) F.1.1 F.1.2.1 dL_law_1000 (by decide) (fun _ => ?_) (fun hne => absurd rfl hne)
  exact next _ _ _ H locs ⟨hat, hru, hle, hsh, hlo, kv, kept, isKept, hnx _ _ p1 p2, hK.up⟩ (w.perm (lz_p3 u1 u2 kw))
