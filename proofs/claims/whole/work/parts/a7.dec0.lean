/-! the law, instruction by instruction -/
theorem dL_law_0 : decode code 0 = .ok (.new 8, 3) := by decide +kernel
theorem dL_law_3 : decode code 3 = .ok (.dup, 1) := by decide +kernel
theorem dL_law_4 : decode code 4 = .ok (.invokespecial 94, 3) := by decide +kernel
theorem dL_law_7 : decode code 7 = .ok (.astore_n 1, 1) := by decide +kernel
theorem dL_law_8 : decode code 8 = .ok (.new 95, 3) := by decide +kernel
theorem dL_law_11 : decode code 11 = .ok (.dup, 1) := by decide +kernel
theorem dL_law_12 : decode code 12 = .ok (.invokespecial 97, 3) := by decide +kernel
theorem dL_law_15 : decode code 15 = .ok (.astore_n 2, 1) := by decide +kernel
theorem dL_law_16 : decode code 16 = .ok (.iconst 1, 1) := by decide +kernel
theorem dL_law_17 : decode code 17 = .ok (.newarray .long, 2) := by decide +kernel
theorem dL_law_19 : decode code 19 = .ok (.astore_n 3, 1) := by decide +kernel
theorem dL_law_20 : decode code 20 = .ok (.iconst 0, 1) := by decide +kernel
theorem dL_law_21 : decode code 21 = .ok (.istore 4, 2) := by decide +kernel
theorem dL_law_23 : decode code 23 = .ok (.iload 4, 2) := by decide +kernel
theorem dL_law_25 : decode code 25 = .ok (.aload_n 0, 1) := by decide +kernel
theorem dL_law_26 : decode code 26 = .ok (.arraylength, 1) := by decide +kernel
theorem dL_law_27 : decode code 27 = .ok (.bipush 6, 2) := by decide +kernel
theorem dL_law_29 : decode code 29 = .ok (.isub, 1) := by decide +kernel
theorem dL_law_30 : decode code 30 = .ok (.if_icmp .gt 2151, 3) := by decide +kernel
theorem dL_law_33 : decode code 33 = .ok (.aload_n 0, 1) := by decide +kernel
theorem dL_law_34 : decode code 34 = .ok (.iload 4, 2) := by decide +kernel
theorem dL_law_36 : decode code 36 = .ok (.iaload, 1) := by decide +kernel
theorem dL_law_37 : decode code 37 = .ok (.bipush 31, 2) := by decide +kernel
theorem dL_law_39 : decode code 39 = .ok (.iand, 1) := by decide +kernel
theorem dL_law_40 : decode code 40 = .ok (.tableswitch 2135 0 30 #[140, 213, 269, 282, 362, 430, 498, 578, 646, 726, 794, 874, 930, 998, 1011, 1024, 1080, 1148, 1228, 1296, 1388, 1480, 1560, 1652, 1732, 1800, 1868, 1948, 2016, 2096, 2110], 140) := by decide +kernel
theorem dL_law_180 : decode code 180 = .ok (.aload_n 1, 1) := by decide +kernel
theorem dL_law_181 : decode code 181 = .ok (.aload_n 0, 1) := by decide +kernel
theorem dL_law_182 : decode code 182 = .ok (.iload 4, 2) := by decide +kernel
theorem dL_law_184 : decode code 184 = .ok (.iconst 1, 1) := by decide +kernel
theorem dL_law_185 : decode code 185 = .ok (.iadd, 1) := by decide +kernel
theorem dL_law_186 : decode code 186 = .ok (.iaload, 1) := by decide +kernel
theorem dL_law_187 : decode code 187 = .ok (.aload_n 0, 1) := by decide +kernel
theorem dL_law_188 : decode code 188 = .ok (.iload 4, 2) := by decide +kernel
theorem dL_law_190 : decode code 190 = .ok (.iconst 2, 1) := by decide +kernel
theorem dL_law_191 : decode code 191 = .ok (.iadd, 1) := by decide +kernel
theorem dL_law_192 : decode code 192 = .ok (.iaload, 1) := by decide +kernel
theorem dL_law_193 : decode code 193 = .ok (.aload_n 0, 1) := by decide +kernel
theorem dL_law_194 : decode code 194 = .ok (.iload 4, 2) := by decide +kernel
theorem dL_law_196 : decode code 196 = .ok (.iconst 3, 1) := by decide +kernel
theorem dL_law_197 : decode code 197 = .ok (.iadd, 1) := by decide +kernel
theorem dL_law_198 : decode code 198 = .ok (.iaload, 1) := by decide +kernel
theorem dL_law_199 : decode code 199 = .ok (.aload_n 0, 1) := by decide +kernel
theorem dL_law_200 : decode code 200 = .ok (.iload 4, 2) := by decide +kernel
theorem dL_law_202 : decode code 202 = .ok (.iconst 4, 1) := by decide +kernel
theorem dL_law_203 : decode code 203 = .ok (.iadd, 1) := by decide +kernel
theorem dL_law_204 : decode code 204 = .ok (.iaload, 1) := by decide +kernel
theorem dL_law_205 : decode code 205 = .ok (.aload_n 0, 1) := by decide +kernel
theorem dL_law_206 : decode code 206 = .ok (.iload 4, 2) := by decide +kernel
theorem dL_law_208 : decode code 208 = .ok (.iconst 5, 1) := by decide +kernel
theorem dL_law_209 : decode code 209 = .ok (.iadd, 1) := by decide +kernel
theorem dL_law_210 : decode code 210 = .ok (.iaload, 1) := by decide +kernel
theorem dL_law_211 : decode code 211 = .ok (.invokevirtual 98, 3) := by decide +kernel
theorem dL_law_214 : decode code 214 = .ok (.aload_n 2, 1) := by decide +kernel
theorem dL_law_215 : decode code 215 = .ok (.aload_n 0, 1) := by decide +kernel
theorem dL_law_216 : decode code 216 = .ok (.iload 4, 2) := by decide +kernel
theorem dL_law_218 : decode code 218 = .ok (.iconst 1, 1) := by decide +kernel
theorem dL_law_219 : decode code 219 = .ok (.iadd, 1) := by decide +kernel
theorem dL_law_220 : decode code 220 = .ok (.iaload, 1) := by decide +kernel
theorem dL_law_221 : decode code 221 = .ok (.aload_n 0, 1) := by decide +kernel
theorem dL_law_222 : decode code 222 = .ok (.iload 4, 2) := by decide +kernel
theorem dL_law_224 : decode code 224 = .ok (.iconst 2, 1) := by decide +kernel
theorem dL_law_225 : decode code 225 = .ok (.iadd, 1) := by decide +kernel
theorem dL_law_226 : decode code 226 = .ok (.iaload, 1) := by decide +kernel
theorem dL_law_227 : decode code 227 = .ok (.aload_n 0, 1) := by decide +kernel
theorem dL_law_228 : decode code 228 = .ok (.iload 4, 2) := by decide +kernel
theorem dL_law_230 : decode code 230 = .ok (.iconst 3, 1) := by decide +kernel
theorem dL_law_231 : decode code 231 = .ok (.iadd, 1) := by decide +kernel
theorem dL_law_232 : decode code 232 = .ok (.iaload, 1) := by decide +kernel
theorem dL_law_233 : decode code 233 = .ok (.aload_n 0, 1) := by decide +kernel
theorem dL_law_234 : decode code 234 = .ok (.iload 4, 2) := by decide +kernel
theorem dL_law_236 : decode code 236 = .ok (.iconst 4, 1) := by decide +kernel
theorem dL_law_237 : decode code 237 = .ok (.iadd, 1) := by decide +kernel
theorem dL_law_238 : decode code 238 = .ok (.iaload, 1) := by decide +kernel
theorem dL_law_239 : decode code 239 = .ok (.aload_n 0, 1) := by decide +kernel
theorem dL_law_240 : decode code 240 = .ok (.iload 4, 2) := by decide +kernel
theorem dL_law_242 : decode code 242 = .ok (.iconst 5, 1) := by decide +kernel
theorem dL_law_243 : decode code 243 = .ok (.iadd, 1) := by decide +kernel
theorem dL_law_244 : decode code 244 = .ok (.iaload, 1) := by decide +kernel
theorem dL_law_245 : decode code 245 = .ok (.invokevirtual 102, 3) := by decide +kernel
theorem dL_law_248 : decode code 248 = .ok (.if_icmp .eq 1927, 3) := by decide +kernel
theorem dL_law_251 : decode code 251 = .ok (.iconst 0, 1) := by decide +kernel
theorem dL_law_252 : decode code 252 = .ok (.ireturn, 1) := by decide +kernel
theorem dL_law_253 : decode code 253 = .ok (.aload_n 1, 1) := by decide +kernel
theorem dL_law_254 : decode code 254 = .ok (.aload_n 0, 1) := by decide +kernel
theorem dL_law_255 : decode code 255 = .ok (.iload 4, 2) := by decide +kernel
theorem dL_law_257 : decode code 257 = .ok (.iconst 1, 1) := by decide +kernel
theorem dL_law_258 : decode code 258 = .ok (.iadd, 1) := by decide +kernel
theorem dL_law_259 : decode code 259 = .ok (.iaload, 1) := by decide +kernel
theorem dL_law_260 : decode code 260 = .ok (.aload_n 3, 1) := by decide +kernel
theorem dL_law_261 : decode code 261 = .ok (.invokestatic 103, 3) := by decide +kernel
theorem dL_law_264 : decode code 264 = .ok (.istore 5, 2) := by decide +kernel
theorem dL_law_266 : decode code 266 = .ok (.aload_n 2, 1) := by decide +kernel
theorem dL_law_267 : decode code 267 = .ok (.aload_n 0, 1) := by decide +kernel
theorem dL_law_268 : decode code 268 = .ok (.iload 4, 2) := by decide +kernel
theorem dL_law_270 : decode code 270 = .ok (.iconst 1, 1) := by decide +kernel
theorem dL_law_271 : decode code 271 = .ok (.iadd, 1) := by decide +kernel
theorem dL_law_272 : decode code 272 = .ok (.iaload, 1) := by decide +kernel
theorem dL_law_273 : decode code 273 = .ok (.invokevirtual 108, 3) := by decide +kernel
theorem dL_law_276 : decode code 276 = .ok (.istore 6, 2) := by decide +kernel
theorem dL_law_278 : decode code 278 = .ok (.aload_n 2, 1) := by decide +kernel
theorem dL_law_279 : decode code 279 = .ok (.invokevirtual 109, 3) := by decide +kernel
theorem dL_law_282 : decode code 282 = .ok (.iload 5, 2) := by decide +kernel
theorem dL_law_284 : decode code 284 = .ok (.if_icmp .eq 5, 3) := by decide +kernel
theorem dL_law_287 : decode code 287 = .ok (.iconst 0, 1) := by decide +kernel
theorem dL_law_288 : decode code 288 = .ok (.ireturn, 1) := by decide +kernel
theorem dL_law_289 : decode code 289 = .ok (.iload 5, 2) := by decide +kernel
theorem dL_law_291 : decode code 291 = .ok (.ifCond .ne 15, 3) := by decide +kernel
theorem dL_law_294 : decode code 294 = .ok (.aload_n 3, 1) := by decide +kernel
theorem dL_law_295 : decode code 295 = .ok (.iconst 0, 1) := by decide +kernel
theorem dL_law_296 : decode code 296 = .ok (.laload, 1) := by decide +kernel
theorem dL_law_297 : decode code 297 = .ok (.iload 6, 2) := by decide +kernel
theorem dL_law_299 : decode code 299 = .ok (.i2l, 1) := by decide +kernel
theorem dL_law_300 : decode code 300 = .ok (.lcmp, 1) := by decide +kernel
theorem dL_law_301 : decode code 301 = .ok (.ifCond .eq 5, 3) := by decide +kernel
theorem dL_law_304 : decode code 304 = .ok (.iconst 0, 1) := by decide +kernel
theorem dL_law_305 : decode code 305 = .ok (.ireturn, 1) := by decide +kernel
theorem dL_law_306 : decode code 306 = .ok (.goto 1869, 3) := by decide +kernel
theorem dL_law_309 : decode code 309 = .ok (.aload_n 1, 1) := by decide +kernel
theorem dL_law_310 : decode code 310 = .ok (.invokevirtual 113, 3) := by decide +kernel
theorem dL_law_313 : decode code 313 = .ok (.aload_n 2, 1) := by decide +kernel
theorem dL_law_314 : decode code 314 = .ok (.invokevirtual 116, 3) := by decide +kernel
theorem dL_law_317 : decode code 317 = .ok (.if_icmp .eq 1858, 3) := by decide +kernel
theorem dL_law_320 : decode code 320 = .ok (.iconst 0, 1) := by decide +kernel
theorem dL_law_321 : decode code 321 = .ok (.ireturn, 1) := by decide +kernel
theorem dL_law_322 : decode code 322 = .ok (.aload_n 1, 1) := by decide +kernel
theorem dL_law_323 : decode code 323 = .ok (.aload_n 0, 1) := by decide +kernel
theorem dL_law_324 : decode code 324 = .ok (.iload 4, 2) := by decide +kernel
theorem dL_law_326 : decode code 326 = .ok (.iconst 1, 1) := by decide +kernel
theorem dL_law_327 : decode code 327 = .ok (.iadd, 1) := by decide +kernel
theorem dL_law_328 : decode code 328 = .ok (.iaload, 1) := by decide +kernel
theorem dL_law_329 : decode code 329 = .ok (.aload_n 0, 1) := by decide +kernel
theorem dL_law_330 : decode code 330 = .ok (.iload 4, 2) := by decide +kernel
theorem dL_law_332 : decode code 332 = .ok (.iconst 2, 1) := by decide +kernel
theorem dL_law_333 : decode code 333 = .ok (.iadd, 1) := by decide +kernel
theorem dL_law_334 : decode code 334 = .ok (.iaload, 1) := by decide +kernel
theorem dL_law_335 : decode code 335 = .ok (.aload_n 0, 1) := by decide +kernel
theorem dL_law_336 : decode code 336 = .ok (.iload 4, 2) := by decide +kernel
theorem dL_law_338 : decode code 338 = .ok (.iconst 3, 1) := by decide +kernel
theorem dL_law_339 : decode code 339 = .ok (.iadd, 1) := by decide +kernel
theorem dL_law_340 : decode code 340 = .ok (.iaload, 1) := by decide +kernel
theorem dL_law_341 : decode code 341 = .ok (.aload_n 3, 1) := by decide +kernel
theorem dL_law_342 : decode code 342 = .ok (.invokestatic 117, 3) := by decide +kernel
theorem dL_law_345 : decode code 345 = .ok (.istore 5, 2) := by decide +kernel
theorem dL_law_347 : decode code 347 = .ok (.aload_n 2, 1) := by decide +kernel
theorem dL_law_348 : decode code 348 = .ok (.aload_n 0, 1) := by decide +kernel
theorem dL_law_349 : decode code 349 = .ok (.iload 4, 2) := by decide +kernel
theorem dL_law_351 : decode code 351 = .ok (.iconst 1, 1) := by decide +kernel
theorem dL_law_352 : decode code 352 = .ok (.iadd, 1) := by decide +kernel
theorem dL_law_353 : decode code 353 = .ok (.iaload, 1) := by decide +kernel
theorem dL_law_354 : decode code 354 = .ok (.aload_n 0, 1) := by decide +kernel
theorem dL_law_355 : decode code 355 = .ok (.iload 4, 2) := by decide +kernel
theorem dL_law_357 : decode code 357 = .ok (.iconst 2, 1) := by decide +kernel
theorem dL_law_358 : decode code 358 = .ok (.iadd, 1) := by decide +kernel
theorem dL_law_359 : decode code 359 = .ok (.iaload, 1) := by decide +kernel
theorem dL_law_360 : decode code 360 = .ok (.aload_n 0, 1) := by decide +kernel
theorem dL_law_361 : decode code 361 = .ok (.iload 4, 2) := by decide +kernel
theorem dL_law_363 : decode code 363 = .ok (.iconst 3, 1) := by decide +kernel
theorem dL_law_364 : decode code 364 = .ok (.iadd, 1) := by decide +kernel
theorem dL_law_365 : decode code 365 = .ok (.iaload, 1) := by decide +kernel
theorem dL_law_366 : decode code 366 = .ok (.invokevirtual 120, 3) := by decide +kernel
theorem dL_law_369 : decode code 369 = .ok (.istore 6, 2) := by decide +kernel
theorem dL_law_371 : decode code 371 = .ok (.aload_n 2, 1) := by decide +kernel
theorem dL_law_372 : decode code 372 = .ok (.invokevirtual 109, 3) := by decide +kernel
theorem dL_law_375 : decode code 375 = .ok (.iload 5, 2) := by decide +kernel
theorem dL_law_377 : decode code 377 = .ok (.if_icmp .eq 5, 3) := by decide +kernel
theorem dL_law_380 : decode code 380 = .ok (.iconst 0, 1) := by decide +kernel
theorem dL_law_381 : decode code 381 = .ok (.ireturn, 1) := by decide +kernel
theorem dL_law_382 : decode code 382 = .ok (.iload 5, 2) := by decide +kernel
theorem dL_law_384 : decode code 384 = .ok (.ifCond .ne 15, 3) := by decide +kernel
theorem dL_law_387 : decode code 387 = .ok (.aload_n 3, 1) := by decide +kernel
theorem dL_law_388 : decode code 388 = .ok (.iconst 0, 1) := by decide +kernel
theorem dL_law_389 : decode code 389 = .ok (.laload, 1) := by decide +kernel
theorem dL_law_390 : decode code 390 = .ok (.iload 6, 2) := by decide +kernel
theorem dL_law_392 : decode code 392 = .ok (.i2l, 1) := by decide +kernel
theorem dL_law_393 : decode code 393 = .ok (.lcmp, 1) := by decide +kernel
theorem dL_law_394 : decode code 394 = .ok (.ifCond .eq 5, 3) := by decide +kernel
theorem dL_law_397 : decode code 397 = .ok (.iconst 0, 1) := by decide +kernel
theorem dL_law_398 : decode code 398 = .ok (.ireturn, 1) := by decide +kernel
theorem dL_law_399 : decode code 399 = .ok (.goto 1776, 3) := by decide +kernel
theorem dL_law_402 : decode code 402 = .ok (.aload_n 1, 1) := by decide +kernel
theorem dL_law_403 : decode code 403 = .ok (.aload_n 0, 1) := by decide +kernel
theorem dL_law_404 : decode code 404 = .ok (.iload 4, 2) := by decide +kernel
theorem dL_law_406 : decode code 406 = .ok (.iconst 1, 1) := by decide +kernel
theorem dL_law_407 : decode code 407 = .ok (.iadd, 1) := by decide +kernel
theorem dL_law_408 : decode code 408 = .ok (.iaload, 1) := by decide +kernel
theorem dL_law_409 : decode code 409 = .ok (.aload_n 0, 1) := by decide +kernel
theorem dL_law_410 : decode code 410 = .ok (.iload 4, 2) := by decide +kernel
theorem dL_law_412 : decode code 412 = .ok (.iconst 2, 1) := by decide +kernel
theorem dL_law_413 : decode code 413 = .ok (.iadd, 1) := by decide +kernel
theorem dL_law_414 : decode code 414 = .ok (.iaload, 1) := by decide +kernel
theorem dL_law_415 : decode code 415 = .ok (.aload_n 3, 1) := by decide +kernel
theorem dL_law_416 : decode code 416 = .ok (.invokestatic 121, 3) := by decide +kernel
theorem dL_law_419 : decode code 419 = .ok (.istore 5, 2) := by decide +kernel
theorem dL_law_421 : decode code 421 = .ok (.aload_n 2, 1) := by decide +kernel
theorem dL_law_422 : decode code 422 = .ok (.aload_n 0, 1) := by decide +kernel
theorem dL_law_423 : decode code 423 = .ok (.iload 4, 2) := by decide +kernel
theorem dL_law_425 : decode code 425 = .ok (.iconst 1, 1) := by decide +kernel
theorem dL_law_426 : decode code 426 = .ok (.iadd, 1) := by decide +kernel
theorem dL_law_427 : decode code 427 = .ok (.iaload, 1) := by decide +kernel
theorem dL_law_428 : decode code 428 = .ok (.aload_n 0, 1) := by decide +kernel
theorem dL_law_429 : decode code 429 = .ok (.iload 4, 2) := by decide +kernel
theorem dL_law_431 : decode code 431 = .ok (.iconst 2, 1) := by decide +kernel
theorem dL_law_432 : decode code 432 = .ok (.iadd, 1) := by decide +kernel
theorem dL_law_433 : decode code 433 = .ok (.iaload, 1) := by decide +kernel
theorem dL_law_434 : decode code 434 = .ok (.invokevirtual 124, 3) := by decide +kernel
theorem dL_law_437 : decode code 437 = .ok (.istore 6, 2) := by decide +kernel
theorem dL_law_439 : decode code 439 = .ok (.aload_n 2, 1) := by decide +kernel
theorem dL_law_440 : decode code 440 = .ok (.invokevirtual 109, 3) := by decide +kernel
theorem dL_law_443 : decode code 443 = .ok (.iload 5, 2) := by decide +kernel
theorem dL_law_445 : decode code 445 = .ok (.if_icmp .eq 5, 3) := by decide +kernel
theorem dL_law_448 : decode code 448 = .ok (.iconst 0, 1) := by decide +kernel
theorem dL_law_449 : decode code 449 = .ok (.ireturn, 1) := by decide +kernel
theorem dL_law_450 : decode code 450 = .ok (.iload 5, 2) := by decide +kernel
theorem dL_law_452 : decode code 452 = .ok (.ifCond .ne 15, 3) := by decide +kernel
theorem dL_law_455 : decode code 455 = .ok (.aload_n 3, 1) := by decide +kernel
theorem dL_law_456 : decode code 456 = .ok (.iconst 0, 1) := by decide +kernel
theorem dL_law_457 : decode code 457 = .ok (.laload, 1) := by decide +kernel
theorem dL_law_458 : decode code 458 = .ok (.iload 6, 2) := by decide +kernel
theorem dL_law_460 : decode code 460 = .ok (.i2l, 1) := by decide +kernel
theorem dL_law_461 : decode code 461 = .ok (.lcmp, 1) := by decide +kernel
theorem dL_law_462 : decode code 462 = .ok (.ifCond .eq 5, 3) := by decide +kernel
theorem dL_law_465 : decode code 465 = .ok (.iconst 0, 1) := by decide +kernel
theorem dL_law_466 : decode code 466 = .ok (.ireturn, 1) := by decide +kernel
theorem dL_law_467 : decode code 467 = .ok (.goto 1708, 3) := by decide +kernel
theorem dL_law_470 : decode code 470 = .ok (.aload_n 1, 1) := by decide +kernel
theorem dL_law_471 : decode code 471 = .ok (.aload_n 0, 1) := by decide +kernel
theorem dL_law_472 : decode code 472 = .ok (.iload 4, 2) := by decide +kernel
theorem dL_law_474 : decode code 474 = .ok (.iconst 1, 1) := by decide +kernel
theorem dL_law_475 : decode code 475 = .ok (.iadd, 1) := by decide +kernel
theorem dL_law_476 : decode code 476 = .ok (.iaload, 1) := by decide +kernel
theorem dL_law_477 : decode code 477 = .ok (.aload_n 0, 1) := by decide +kernel
theorem dL_law_478 : decode code 478 = .ok (.iload 4, 2) := by decide +kernel
theorem dL_law_480 : decode code 480 = .ok (.iconst 2, 1) := by decide +kernel
theorem dL_law_481 : decode code 481 = .ok (.iadd, 1) := by decide +kernel
theorem dL_law_482 : decode code 482 = .ok (.iaload, 1) := by decide +kernel
theorem dL_law_483 : decode code 483 = .ok (.aload_n 3, 1) := by decide +kernel
theorem dL_law_484 : decode code 484 = .ok (.invokestatic 125, 3) := by decide +kernel
theorem dL_law_487 : decode code 487 = .ok (.istore 5, 2) := by decide +kernel
theorem dL_law_489 : decode code 489 = .ok (.aload_n 2, 1) := by decide +kernel
theorem dL_law_490 : decode code 490 = .ok (.aload_n 0, 1) := by decide +kernel
theorem dL_law_491 : decode code 491 = .ok (.iload 4, 2) := by decide +kernel
theorem dL_law_493 : decode code 493 = .ok (.iconst 1, 1) := by decide +kernel
theorem dL_law_494 : decode code 494 = .ok (.iadd, 1) := by decide +kernel
theorem dL_law_495 : decode code 495 = .ok (.iaload, 1) := by decide +kernel
theorem dL_law_496 : decode code 496 = .ok (.aload_n 0, 1) := by decide +kernel
theorem dL_law_497 : decode code 497 = .ok (.iload 4, 2) := by decide +kernel
theorem dL_law_499 : decode code 499 = .ok (.iconst 2, 1) := by decide +kernel
theorem dL_law_500 : decode code 500 = .ok (.iadd, 1) := by decide +kernel
theorem dL_law_501 : decode code 501 = .ok (.iaload, 1) := by decide +kernel
theorem dL_law_502 : decode code 502 = .ok (.invokevirtual 127, 3) := by decide +kernel
theorem dL_law_505 : decode code 505 = .ok (.istore 6, 2) := by decide +kernel
theorem dL_law_507 : decode code 507 = .ok (.aload_n 2, 1) := by decide +kernel
theorem dL_law_508 : decode code 508 = .ok (.invokevirtual 109, 3) := by decide +kernel
theorem dL_law_511 : decode code 511 = .ok (.iload 5, 2) := by decide +kernel
theorem dL_law_513 : decode code 513 = .ok (.if_icmp .eq 5, 3) := by decide +kernel
theorem dL_law_516 : decode code 516 = .ok (.iconst 0, 1) := by decide +kernel
theorem dL_law_517 : decode code 517 = .ok (.ireturn, 1) := by decide +kernel
theorem dL_law_518 : decode code 518 = .ok (.iload 5, 2) := by decide +kernel
theorem dL_law_520 : decode code 520 = .ok (.ifCond .ne 15, 3) := by decide +kernel
theorem dL_law_523 : decode code 523 = .ok (.aload_n 3, 1) := by decide +kernel
theorem dL_law_524 : decode code 524 = .ok (.iconst 0, 1) := by decide +kernel
theorem dL_law_525 : decode code 525 = .ok (.laload, 1) := by decide +kernel
theorem dL_law_526 : decode code 526 = .ok (.iload 6, 2) := by decide +kernel
theorem dL_law_528 : decode code 528 = .ok (.i2l, 1) := by decide +kernel
theorem dL_law_529 : decode code 529 = .ok (.lcmp, 1) := by decide +kernel
theorem dL_law_530 : decode code 530 = .ok (.ifCond .eq 5, 3) := by decide +kernel
theorem dL_law_533 : decode code 533 = .ok (.iconst 0, 1) := by decide +kernel
theorem dL_law_534 : decode code 534 = .ok (.ireturn, 1) := by decide +kernel
theorem dL_law_535 : decode code 535 = .ok (.goto 1640, 3) := by decide +kernel
theorem dL_law_538 : decode code 538 = .ok (.aload_n 1, 1) := by decide +kernel
theorem dL_law_539 : decode code 539 = .ok (.aload_n 0, 1) := by decide +kernel
theorem dL_law_540 : decode code 540 = .ok (.iload 4, 2) := by decide +kernel
theorem dL_law_542 : decode code 542 = .ok (.iconst 1, 1) := by decide +kernel
theorem dL_law_543 : decode code 543 = .ok (.iadd, 1) := by decide +kernel
theorem dL_law_544 : decode code 544 = .ok (.iaload, 1) := by decide +kernel
theorem dL_law_545 : decode code 545 = .ok (.aload_n 0, 1) := by decide +kernel
theorem dL_law_546 : decode code 546 = .ok (.iload 4, 2) := by decide +kernel
theorem dL_law_548 : decode code 548 = .ok (.iconst 2, 1) := by decide +kernel
theorem dL_law_549 : decode code 549 = .ok (.iadd, 1) := by decide +kernel
theorem dL_law_550 : decode code 550 = .ok (.iaload, 1) := by decide +kernel
theorem dL_law_551 : decode code 551 = .ok (.aload_n 0, 1) := by decide +kernel
theorem dL_law_552 : decode code 552 = .ok (.iload 4, 2) := by decide +kernel
theorem dL_law_554 : decode code 554 = .ok (.iconst 3, 1) := by decide +kernel
theorem dL_law_555 : decode code 555 = .ok (.iadd, 1) := by decide +kernel
theorem dL_law_556 : decode code 556 = .ok (.iaload, 1) := by decide +kernel
theorem dL_law_557 : decode code 557 = .ok (.aload_n 3, 1) := by decide +kernel
theorem dL_law_558 : decode code 558 = .ok (.invokestatic 128, 3) := by decide +kernel
theorem dL_law_561 : decode code 561 = .ok (.istore 5, 2) := by decide +kernel
theorem dL_law_563 : decode code 563 = .ok (.aload_n 2, 1) := by decide +kernel
theorem dL_law_564 : decode code 564 = .ok (.aload_n 0, 1) := by decide +kernel
theorem dL_law_565 : decode code 565 = .ok (.iload 4, 2) := by decide +kernel
theorem dL_law_567 : decode code 567 = .ok (.iconst 1, 1) := by decide +kernel
theorem dL_law_568 : decode code 568 = .ok (.iadd, 1) := by decide +kernel
theorem dL_law_569 : decode code 569 = .ok (.iaload, 1) := by decide +kernel
theorem dL_law_570 : decode code 570 = .ok (.aload_n 0, 1) := by decide +kernel
theorem dL_law_571 : decode code 571 = .ok (.iload 4, 2) := by decide +kernel
theorem dL_law_573 : decode code 573 = .ok (.iconst 2, 1) := by decide +kernel
theorem dL_law_574 : decode code 574 = .ok (.iadd, 1) := by decide +kernel
theorem dL_law_575 : decode code 575 = .ok (.iaload, 1) := by decide +kernel
theorem dL_law_576 : decode code 576 = .ok (.aload_n 0, 1) := by decide +kernel
theorem dL_law_577 : decode code 577 = .ok (.iload 4, 2) := by decide +kernel
theorem dL_law_579 : decode code 579 = .ok (.iconst 3, 1) := by decide +kernel
theorem dL_law_580 : decode code 580 = .ok (.iadd, 1) := by decide +kernel
theorem dL_law_581 : decode code 581 = .ok (.iaload, 1) := by decide +kernel
theorem dL_law_582 : decode code 582 = .ok (.invokevirtual 130, 3) := by decide +kernel
theorem dL_law_585 : decode code 585 = .ok (.istore 6, 2) := by decide +kernel
theorem dL_law_587 : decode code 587 = .ok (.aload_n 2, 1) := by decide +kernel
theorem dL_law_588 : decode code 588 = .ok (.invokevirtual 109, 3) := by decide +kernel
theorem dL_law_591 : decode code 591 = .ok (.iload 5, 2) := by decide +kernel
theorem dL_law_593 : decode code 593 = .ok (.if_icmp .eq 5, 3) := by decide +kernel
theorem dL_law_596 : decode code 596 = .ok (.iconst 0, 1) := by decide +kernel
theorem dL_law_597 : decode code 597 = .ok (.ireturn, 1) := by decide +kernel
theorem dL_law_598 : decode code 598 = .ok (.iload 5, 2) := by decide +kernel
theorem dL_law_600 : decode code 600 = .ok (.ifCond .ne 15, 3) := by decide +kernel
theorem dL_law_603 : decode code 603 = .ok (.aload_n 3, 1) := by decide +kernel
theorem dL_law_604 : decode code 604 = .ok (.iconst 0, 1) := by decide +kernel
theorem dL_law_605 : decode code 605 = .ok (.laload, 1) := by decide +kernel
theorem dL_law_606 : decode code 606 = .ok (.iload 6, 2) := by decide +kernel
theorem dL_law_608 : decode code 608 = .ok (.i2l, 1) := by decide +kernel
theorem dL_law_609 : decode code 609 = .ok (.lcmp, 1) := by decide +kernel
theorem dL_law_610 : decode code 610 = .ok (.ifCond .eq 5, 3) := by decide +kernel
theorem dL_law_613 : decode code 613 = .ok (.iconst 0, 1) := by decide +kernel
theorem dL_law_614 : decode code 614 = .ok (.ireturn, 1) := by decide +kernel
theorem dL_law_615 : decode code 615 = .ok (.goto 1560, 3) := by decide +kernel
theorem dL_law_618 : decode code 618 = .ok (.aload_n 1, 1) := by decide +kernel
theorem dL_law_619 : decode code 619 = .ok (.aload_n 0, 1) := by decide +kernel
theorem dL_law_620 : decode code 620 = .ok (.iload 4, 2) := by decide +kernel
theorem dL_law_622 : decode code 622 = .ok (.iconst 1, 1) := by decide +kernel
theorem dL_law_623 : decode code 623 = .ok (.iadd, 1) := by decide +kernel
theorem dL_law_624 : decode code 624 = .ok (.iaload, 1) := by decide +kernel
theorem dL_law_625 : decode code 625 = .ok (.aload_n 0, 1) := by decide +kernel
theorem dL_law_626 : decode code 626 = .ok (.iload 4, 2) := by decide +kernel
theorem dL_law_628 : decode code 628 = .ok (.iconst 2, 1) := by decide +kernel
theorem dL_law_629 : decode code 629 = .ok (.iadd, 1) := by decide +kernel
theorem dL_law_630 : decode code 630 = .ok (.iaload, 1) := by decide +kernel
theorem dL_law_631 : decode code 631 = .ok (.aload_n 3, 1) := by decide +kernel
theorem dL_law_632 : decode code 632 = .ok (.invokestatic 131, 3) := by decide +kernel
theorem dL_law_635 : decode code 635 = .ok (.istore 5, 2) := by decide +kernel
theorem dL_law_637 : decode code 637 = .ok (.aload_n 2, 1) := by decide +kernel
theorem dL_law_638 : decode code 638 = .ok (.aload_n 0, 1) := by decide +kernel
theorem dL_law_639 : decode code 639 = .ok (.iload 4, 2) := by decide +kernel
theorem dL_law_641 : decode code 641 = .ok (.iconst 1, 1) := by decide +kernel
theorem dL_law_642 : decode code 642 = .ok (.iadd, 1) := by decide +kernel
theorem dL_law_643 : decode code 643 = .ok (.iaload, 1) := by decide +kernel
theorem dL_law_644 : decode code 644 = .ok (.aload_n 0, 1) := by decide +kernel
