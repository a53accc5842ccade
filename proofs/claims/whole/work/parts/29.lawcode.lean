theorem d_law_0 : decode code 0 = .ok (.new 7, 3) := by decide +kernel
theorem d_law_3 : decode code 3 = .ok (.dup, 1) := by decide +kernel
theorem d_law_4 : decode code 4 = .ok (.invokespecial 9, 3) := by decide +kernel
theorem d_law_7 : decode code 7 = .ok (.astore_n 1, 1) := by decide +kernel
theorem d_law_8 : decode code 8 = .ok (.new 10, 3) := by decide +kernel
theorem d_law_11 : decode code 11 = .ok (.dup, 1) := by decide +kernel
theorem d_law_12 : decode code 12 = .ok (.invokespecial 12, 3) := by decide +kernel
theorem d_law_15 : decode code 15 = .ok (.astore_n 2, 1) := by decide +kernel
theorem d_law_16 : decode code 16 = .ok (.iconst 0, 1) := by decide +kernel
theorem d_law_17 : decode code 17 = .ok (.istore_n 3, 1) := by decide +kernel
theorem d_law_18 : decode code 18 = .ok (.iload_n 3, 1) := by decide +kernel
theorem d_law_19 : decode code 19 = .ok (.aload_n 0, 1) := by decide +kernel
theorem d_law_20 : decode code 20 = .ok (.arraylength, 1) := by decide +kernel
theorem d_law_21 : decode code 21 = .ok (.bipush 6, 2) := by decide +kernel
theorem d_law_23 : decode code 23 = .ok (.isub, 1) := by decide +kernel
theorem d_law_24 : decode code 24 = .ok (.if_icmp .gt 1351, 3) := by decide +kernel
theorem d_law_27 : decode code 27 = .ok (.aload_n 0, 1) := by decide +kernel
theorem d_law_28 : decode code 28 = .ok (.iload_n 3, 1) := by decide +kernel
theorem d_law_29 : decode code 29 = .ok (.iaload, 1) := by decide +kernel
theorem d_law_30 : decode code 30 = .ok (.bipush 63, 2) := by decide +kernel
theorem d_law_32 : decode code 32 = .ok (.iand, 1) := by decide +kernel
theorem d_law_33 : decode code 33 = .ok (.tableswitch 1336 0 36 #[163, 196, 219, 242, 265, 298, 321, 354, 397, 430, 453, 476, 509, 552, 585, 608, 631, 654, 677, 710, 753, 796, 829, 872, 885, 898, 921, 944, 998, 1041, 1084, 1107, 1160, 1203, 1266, 1299, 1322], 163) := by decide +kernel
theorem d_law_196 : decode code 196 = .ok (.aload_n 1, 1) := by decide +kernel
theorem d_law_197 : decode code 197 = .ok (.aload_n 0, 1) := by decide +kernel
theorem d_law_198 : decode code 198 = .ok (.iload_n 3, 1) := by decide +kernel
theorem d_law_199 : decode code 199 = .ok (.iconst 1, 1) := by decide +kernel
theorem d_law_200 : decode code 200 = .ok (.iadd, 1) := by decide +kernel
theorem d_law_201 : decode code 201 = .ok (.iaload, 1) := by decide +kernel
theorem d_law_202 : decode code 202 = .ok (.aload_n 0, 1) := by decide +kernel
theorem d_law_203 : decode code 203 = .ok (.iload_n 3, 1) := by decide +kernel
theorem d_law_204 : decode code 204 = .ok (.iconst 2, 1) := by decide +kernel
theorem d_law_205 : decode code 205 = .ok (.iadd, 1) := by decide +kernel
theorem d_law_206 : decode code 206 = .ok (.iaload, 1) := by decide +kernel
theorem d_law_207 : decode code 207 = .ok (.invokevirtual 13, 3) := by decide +kernel
theorem d_law_210 : decode code 210 = .ok (.aload_n 2, 1) := by decide +kernel
theorem d_law_211 : decode code 211 = .ok (.aload_n 0, 1) := by decide +kernel
theorem d_law_212 : decode code 212 = .ok (.iload_n 3, 1) := by decide +kernel
theorem d_law_213 : decode code 213 = .ok (.iconst 1, 1) := by decide +kernel
theorem d_law_214 : decode code 214 = .ok (.iadd, 1) := by decide +kernel
theorem d_law_215 : decode code 215 = .ok (.iaload, 1) := by decide +kernel
theorem d_law_216 : decode code 216 = .ok (.aload_n 0, 1) := by decide +kernel
theorem d_law_217 : decode code 217 = .ok (.iload_n 3, 1) := by decide +kernel
theorem d_law_218 : decode code 218 = .ok (.iconst 2, 1) := by decide +kernel
theorem d_law_219 : decode code 219 = .ok (.iadd, 1) := by decide +kernel
theorem d_law_220 : decode code 220 = .ok (.iaload, 1) := by decide +kernel
theorem d_law_221 : decode code 221 = .ok (.invokevirtual 17, 3) := by decide +kernel
theorem d_law_224 : decode code 224 = .ok (.if_icmp .eq 1145, 3) := by decide +kernel
theorem d_law_227 : decode code 227 = .ok (.iconst 0, 1) := by decide +kernel
theorem d_law_228 : decode code 228 = .ok (.ireturn, 1) := by decide +kernel
theorem d_law_229 : decode code 229 = .ok (.aload_n 1, 1) := by decide +kernel
theorem d_law_230 : decode code 230 = .ok (.aload_n 0, 1) := by decide +kernel
theorem d_law_231 : decode code 231 = .ok (.iload_n 3, 1) := by decide +kernel
theorem d_law_232 : decode code 232 = .ok (.iconst 1, 1) := by decide +kernel
theorem d_law_233 : decode code 233 = .ok (.iadd, 1) := by decide +kernel
theorem d_law_234 : decode code 234 = .ok (.iaload, 1) := by decide +kernel
theorem d_law_235 : decode code 235 = .ok (.invokevirtual 18, 3) := by decide +kernel
theorem d_law_238 : decode code 238 = .ok (.aload_n 2, 1) := by decide +kernel
theorem d_law_239 : decode code 239 = .ok (.aload_n 0, 1) := by decide +kernel
theorem d_law_240 : decode code 240 = .ok (.iload_n 3, 1) := by decide +kernel
theorem d_law_241 : decode code 241 = .ok (.iconst 1, 1) := by decide +kernel
theorem d_law_242 : decode code 242 = .ok (.iadd, 1) := by decide +kernel
theorem d_law_243 : decode code 243 = .ok (.iaload, 1) := by decide +kernel
theorem d_law_244 : decode code 244 = .ok (.invokevirtual 22, 3) := by decide +kernel
theorem d_law_247 : decode code 247 = .ok (.if_icmp .eq 1122, 3) := by decide +kernel
theorem d_law_250 : decode code 250 = .ok (.iconst 0, 1) := by decide +kernel
theorem d_law_251 : decode code 251 = .ok (.ireturn, 1) := by decide +kernel
theorem d_law_252 : decode code 252 = .ok (.aload_n 1, 1) := by decide +kernel
theorem d_law_253 : decode code 253 = .ok (.aload_n 0, 1) := by decide +kernel
theorem d_law_254 : decode code 254 = .ok (.iload_n 3, 1) := by decide +kernel
theorem d_law_255 : decode code 255 = .ok (.iconst 1, 1) := by decide +kernel
theorem d_law_256 : decode code 256 = .ok (.iadd, 1) := by decide +kernel
theorem d_law_257 : decode code 257 = .ok (.iaload, 1) := by decide +kernel
theorem d_law_258 : decode code 258 = .ok (.invokevirtual 23, 3) := by decide +kernel
theorem d_law_261 : decode code 261 = .ok (.aload_n 2, 1) := by decide +kernel
theorem d_law_262 : decode code 262 = .ok (.aload_n 0, 1) := by decide +kernel
theorem d_law_263 : decode code 263 = .ok (.iload_n 3, 1) := by decide +kernel
theorem d_law_264 : decode code 264 = .ok (.iconst 1, 1) := by decide +kernel
theorem d_law_265 : decode code 265 = .ok (.iadd, 1) := by decide +kernel
theorem d_law_266 : decode code 266 = .ok (.iaload, 1) := by decide +kernel
theorem d_law_267 : decode code 267 = .ok (.invokevirtual 26, 3) := by decide +kernel
theorem d_law_270 : decode code 270 = .ok (.if_icmp .eq 1099, 3) := by decide +kernel
theorem d_law_273 : decode code 273 = .ok (.iconst 0, 1) := by decide +kernel
theorem d_law_274 : decode code 274 = .ok (.ireturn, 1) := by decide +kernel
theorem d_law_275 : decode code 275 = .ok (.aload_n 1, 1) := by decide +kernel
theorem d_law_276 : decode code 276 = .ok (.aload_n 0, 1) := by decide +kernel
theorem d_law_277 : decode code 277 = .ok (.iload_n 3, 1) := by decide +kernel
theorem d_law_278 : decode code 278 = .ok (.iconst 1, 1) := by decide +kernel
theorem d_law_279 : decode code 279 = .ok (.iadd, 1) := by decide +kernel
theorem d_law_280 : decode code 280 = .ok (.iaload, 1) := by decide +kernel
theorem d_law_281 : decode code 281 = .ok (.invokevirtual 27, 3) := by decide +kernel
theorem d_law_284 : decode code 284 = .ok (.aload_n 2, 1) := by decide +kernel
theorem d_law_285 : decode code 285 = .ok (.aload_n 0, 1) := by decide +kernel
theorem d_law_286 : decode code 286 = .ok (.iload_n 3, 1) := by decide +kernel
theorem d_law_287 : decode code 287 = .ok (.iconst 1, 1) := by decide +kernel
theorem d_law_288 : decode code 288 = .ok (.iadd, 1) := by decide +kernel
theorem d_law_289 : decode code 289 = .ok (.iaload, 1) := by decide +kernel
theorem d_law_290 : decode code 290 = .ok (.invokevirtual 30, 3) := by decide +kernel
theorem d_law_293 : decode code 293 = .ok (.if_icmp .eq 1076, 3) := by decide +kernel
theorem d_law_296 : decode code 296 = .ok (.iconst 0, 1) := by decide +kernel
theorem d_law_297 : decode code 297 = .ok (.ireturn, 1) := by decide +kernel
theorem d_law_298 : decode code 298 = .ok (.aload_n 1, 1) := by decide +kernel
theorem d_law_299 : decode code 299 = .ok (.aload_n 0, 1) := by decide +kernel
theorem d_law_300 : decode code 300 = .ok (.iload_n 3, 1) := by decide +kernel
theorem d_law_301 : decode code 301 = .ok (.iconst 1, 1) := by decide +kernel
theorem d_law_302 : decode code 302 = .ok (.iadd, 1) := by decide +kernel
theorem d_law_303 : decode code 303 = .ok (.iaload, 1) := by decide +kernel
theorem d_law_304 : decode code 304 = .ok (.aload_n 0, 1) := by decide +kernel
theorem d_law_305 : decode code 305 = .ok (.iload_n 3, 1) := by decide +kernel
theorem d_law_306 : decode code 306 = .ok (.iconst 2, 1) := by decide +kernel
theorem d_law_307 : decode code 307 = .ok (.iadd, 1) := by decide +kernel
theorem d_law_308 : decode code 308 = .ok (.iaload, 1) := by decide +kernel
theorem d_law_309 : decode code 309 = .ok (.invokevirtual 31, 3) := by decide +kernel
theorem d_law_312 : decode code 312 = .ok (.aload_n 2, 1) := by decide +kernel
theorem d_law_313 : decode code 313 = .ok (.aload_n 0, 1) := by decide +kernel
theorem d_law_314 : decode code 314 = .ok (.iload_n 3, 1) := by decide +kernel
theorem d_law_315 : decode code 315 = .ok (.iconst 1, 1) := by decide +kernel
theorem d_law_316 : decode code 316 = .ok (.iadd, 1) := by decide +kernel
theorem d_law_317 : decode code 317 = .ok (.iaload, 1) := by decide +kernel
theorem d_law_318 : decode code 318 = .ok (.aload_n 0, 1) := by decide +kernel
theorem d_law_319 : decode code 319 = .ok (.iload_n 3, 1) := by decide +kernel
theorem d_law_320 : decode code 320 = .ok (.iconst 2, 1) := by decide +kernel
theorem d_law_321 : decode code 321 = .ok (.iadd, 1) := by decide +kernel
theorem d_law_322 : decode code 322 = .ok (.iaload, 1) := by decide +kernel
theorem d_law_323 : decode code 323 = .ok (.invokevirtual 34, 3) := by decide +kernel
theorem d_law_326 : decode code 326 = .ok (.if_icmp .eq 1043, 3) := by decide +kernel
theorem d_law_329 : decode code 329 = .ok (.iconst 0, 1) := by decide +kernel
theorem d_law_330 : decode code 330 = .ok (.ireturn, 1) := by decide +kernel
theorem d_law_331 : decode code 331 = .ok (.aload_n 1, 1) := by decide +kernel
theorem d_law_332 : decode code 332 = .ok (.aload_n 0, 1) := by decide +kernel
theorem d_law_333 : decode code 333 = .ok (.iload_n 3, 1) := by decide +kernel
theorem d_law_334 : decode code 334 = .ok (.iconst 1, 1) := by decide +kernel
theorem d_law_335 : decode code 335 = .ok (.iadd, 1) := by decide +kernel
theorem d_law_336 : decode code 336 = .ok (.iaload, 1) := by decide +kernel
theorem d_law_337 : decode code 337 = .ok (.invokevirtual 35, 3) := by decide +kernel
theorem d_law_340 : decode code 340 = .ok (.aload_n 2, 1) := by decide +kernel
theorem d_law_341 : decode code 341 = .ok (.aload_n 0, 1) := by decide +kernel
theorem d_law_342 : decode code 342 = .ok (.iload_n 3, 1) := by decide +kernel
theorem d_law_343 : decode code 343 = .ok (.iconst 1, 1) := by decide +kernel
theorem d_law_344 : decode code 344 = .ok (.iadd, 1) := by decide +kernel
theorem d_law_345 : decode code 345 = .ok (.iaload, 1) := by decide +kernel
theorem d_law_346 : decode code 346 = .ok (.invokevirtual 38, 3) := by decide +kernel
theorem d_law_349 : decode code 349 = .ok (.if_icmp .eq 1020, 3) := by decide +kernel
theorem d_law_352 : decode code 352 = .ok (.iconst 0, 1) := by decide +kernel
theorem d_law_353 : decode code 353 = .ok (.ireturn, 1) := by decide +kernel
theorem d_law_354 : decode code 354 = .ok (.aload_n 1, 1) := by decide +kernel
theorem d_law_355 : decode code 355 = .ok (.aload_n 0, 1) := by decide +kernel
theorem d_law_356 : decode code 356 = .ok (.iload_n 3, 1) := by decide +kernel
theorem d_law_357 : decode code 357 = .ok (.iconst 1, 1) := by decide +kernel
theorem d_law_358 : decode code 358 = .ok (.iadd, 1) := by decide +kernel
theorem d_law_359 : decode code 359 = .ok (.iaload, 1) := by decide +kernel
theorem d_law_360 : decode code 360 = .ok (.aload_n 0, 1) := by decide +kernel
theorem d_law_361 : decode code 361 = .ok (.iload_n 3, 1) := by decide +kernel
theorem d_law_362 : decode code 362 = .ok (.iconst 2, 1) := by decide +kernel
theorem d_law_363 : decode code 363 = .ok (.iadd, 1) := by decide +kernel
theorem d_law_364 : decode code 364 = .ok (.iaload, 1) := by decide +kernel
theorem d_law_365 : decode code 365 = .ok (.invokevirtual 39, 3) := by decide +kernel
theorem d_law_368 : decode code 368 = .ok (.aload_n 2, 1) := by decide +kernel
theorem d_law_369 : decode code 369 = .ok (.aload_n 0, 1) := by decide +kernel
theorem d_law_370 : decode code 370 = .ok (.iload_n 3, 1) := by decide +kernel
theorem d_law_371 : decode code 371 = .ok (.iconst 1, 1) := by decide +kernel
theorem d_law_372 : decode code 372 = .ok (.iadd, 1) := by decide +kernel
theorem d_law_373 : decode code 373 = .ok (.iaload, 1) := by decide +kernel
theorem d_law_374 : decode code 374 = .ok (.aload_n 0, 1) := by decide +kernel
theorem d_law_375 : decode code 375 = .ok (.iload_n 3, 1) := by decide +kernel
theorem d_law_376 : decode code 376 = .ok (.iconst 2, 1) := by decide +kernel
theorem d_law_377 : decode code 377 = .ok (.iadd, 1) := by decide +kernel
theorem d_law_378 : decode code 378 = .ok (.iaload, 1) := by decide +kernel
theorem d_law_379 : decode code 379 = .ok (.invokevirtual 42, 3) := by decide +kernel
theorem d_law_382 : decode code 382 = .ok (.if_icmp .eq 987, 3) := by decide +kernel
theorem d_law_385 : decode code 385 = .ok (.iconst 0, 1) := by decide +kernel
theorem d_law_386 : decode code 386 = .ok (.ireturn, 1) := by decide +kernel
theorem d_law_387 : decode code 387 = .ok (.aload_n 1, 1) := by decide +kernel
theorem d_law_388 : decode code 388 = .ok (.aload_n 0, 1) := by decide +kernel
theorem d_law_389 : decode code 389 = .ok (.iload_n 3, 1) := by decide +kernel
theorem d_law_390 : decode code 390 = .ok (.iconst 1, 1) := by decide +kernel
theorem d_law_391 : decode code 391 = .ok (.iadd, 1) := by decide +kernel
theorem d_law_392 : decode code 392 = .ok (.iaload, 1) := by decide +kernel
theorem d_law_393 : decode code 393 = .ok (.aload_n 0, 1) := by decide +kernel
theorem d_law_394 : decode code 394 = .ok (.iload_n 3, 1) := by decide +kernel
theorem d_law_395 : decode code 395 = .ok (.iconst 2, 1) := by decide +kernel
theorem d_law_396 : decode code 396 = .ok (.iadd, 1) := by decide +kernel
theorem d_law_397 : decode code 397 = .ok (.iaload, 1) := by decide +kernel
theorem d_law_398 : decode code 398 = .ok (.aload_n 0, 1) := by decide +kernel
theorem d_law_399 : decode code 399 = .ok (.iload_n 3, 1) := by decide +kernel
theorem d_law_400 : decode code 400 = .ok (.iconst 3, 1) := by decide +kernel
theorem d_law_401 : decode code 401 = .ok (.iadd, 1) := by decide +kernel
theorem d_law_402 : decode code 402 = .ok (.iaload, 1) := by decide +kernel
theorem d_law_403 : decode code 403 = .ok (.invokevirtual 43, 3) := by decide +kernel
theorem d_law_406 : decode code 406 = .ok (.aload_n 2, 1) := by decide +kernel
theorem d_law_407 : decode code 407 = .ok (.aload_n 0, 1) := by decide +kernel
theorem d_law_408 : decode code 408 = .ok (.iload_n 3, 1) := by decide +kernel
theorem d_law_409 : decode code 409 = .ok (.iconst 1, 1) := by decide +kernel
theorem d_law_410 : decode code 410 = .ok (.iadd, 1) := by decide +kernel
theorem d_law_411 : decode code 411 = .ok (.iaload, 1) := by decide +kernel
theorem d_law_412 : decode code 412 = .ok (.aload_n 0, 1) := by decide +kernel
theorem d_law_413 : decode code 413 = .ok (.iload_n 3, 1) := by decide +kernel
theorem d_law_414 : decode code 414 = .ok (.iconst 2, 1) := by decide +kernel
theorem d_law_415 : decode code 415 = .ok (.iadd, 1) := by decide +kernel
theorem d_law_416 : decode code 416 = .ok (.iaload, 1) := by decide +kernel
theorem d_law_417 : decode code 417 = .ok (.aload_n 0, 1) := by decide +kernel
theorem d_law_418 : decode code 418 = .ok (.iload_n 3, 1) := by decide +kernel
theorem d_law_419 : decode code 419 = .ok (.iconst 3, 1) := by decide +kernel
theorem d_law_420 : decode code 420 = .ok (.iadd, 1) := by decide +kernel
theorem d_law_421 : decode code 421 = .ok (.iaload, 1) := by decide +kernel
theorem d_law_422 : decode code 422 = .ok (.invokevirtual 47, 3) := by decide +kernel
theorem d_law_425 : decode code 425 = .ok (.if_icmp .eq 944, 3) := by decide +kernel
theorem d_law_428 : decode code 428 = .ok (.iconst 0, 1) := by decide +kernel
theorem d_law_429 : decode code 429 = .ok (.ireturn, 1) := by decide +kernel
theorem d_law_430 : decode code 430 = .ok (.aload_n 1, 1) := by decide +kernel
theorem d_law_431 : decode code 431 = .ok (.aload_n 0, 1) := by decide +kernel
theorem d_law_432 : decode code 432 = .ok (.iload_n 3, 1) := by decide +kernel
theorem d_law_433 : decode code 433 = .ok (.iconst 1, 1) := by decide +kernel
theorem d_law_434 : decode code 434 = .ok (.iadd, 1) := by decide +kernel
theorem d_law_435 : decode code 435 = .ok (.iaload, 1) := by decide +kernel
theorem d_law_436 : decode code 436 = .ok (.aload_n 0, 1) := by decide +kernel
theorem d_law_437 : decode code 437 = .ok (.iload_n 3, 1) := by decide +kernel
theorem d_law_438 : decode code 438 = .ok (.iconst 2, 1) := by decide +kernel
theorem d_law_439 : decode code 439 = .ok (.iadd, 1) := by decide +kernel
theorem d_law_440 : decode code 440 = .ok (.iaload, 1) := by decide +kernel
theorem d_law_441 : decode code 441 = .ok (.invokevirtual 48, 3) := by decide +kernel
theorem d_law_444 : decode code 444 = .ok (.aload_n 2, 1) := by decide +kernel
theorem d_law_445 : decode code 445 = .ok (.aload_n 0, 1) := by decide +kernel
theorem d_law_446 : decode code 446 = .ok (.iload_n 3, 1) := by decide +kernel
theorem d_law_447 : decode code 447 = .ok (.iconst 1, 1) := by decide +kernel
theorem d_law_448 : decode code 448 = .ok (.iadd, 1) := by decide +kernel
theorem d_law_449 : decode code 449 = .ok (.iaload, 1) := by decide +kernel
theorem d_law_450 : decode code 450 = .ok (.aload_n 0, 1) := by decide +kernel
theorem d_law_451 : decode code 451 = .ok (.iload_n 3, 1) := by decide +kernel
theorem d_law_452 : decode code 452 = .ok (.iconst 2, 1) := by decide +kernel
theorem d_law_453 : decode code 453 = .ok (.iadd, 1) := by decide +kernel
theorem d_law_454 : decode code 454 = .ok (.iaload, 1) := by decide +kernel
theorem d_law_455 : decode code 455 = .ok (.invokevirtual 51, 3) := by decide +kernel
theorem d_law_458 : decode code 458 = .ok (.if_icmp .eq 911, 3) := by decide +kernel
theorem d_law_461 : decode code 461 = .ok (.iconst 0, 1) := by decide +kernel
theorem d_law_462 : decode code 462 = .ok (.ireturn, 1) := by decide +kernel
theorem d_law_463 : decode code 463 = .ok (.aload_n 1, 1) := by decide +kernel
theorem d_law_464 : decode code 464 = .ok (.aload_n 0, 1) := by decide +kernel
theorem d_law_465 : decode code 465 = .ok (.iload_n 3, 1) := by decide +kernel
theorem d_law_466 : decode code 466 = .ok (.iconst 1, 1) := by decide +kernel
theorem d_law_467 : decode code 467 = .ok (.iadd, 1) := by decide +kernel
theorem d_law_468 : decode code 468 = .ok (.iaload, 1) := by decide +kernel
theorem d_law_469 : decode code 469 = .ok (.invokevirtual 52, 3) := by decide +kernel
theorem d_law_472 : decode code 472 = .ok (.aload_n 2, 1) := by decide +kernel
theorem d_law_473 : decode code 473 = .ok (.aload_n 0, 1) := by decide +kernel
theorem d_law_474 : decode code 474 = .ok (.iload_n 3, 1) := by decide +kernel
theorem d_law_475 : decode code 475 = .ok (.iconst 1, 1) := by decide +kernel
theorem d_law_476 : decode code 476 = .ok (.iadd, 1) := by decide +kernel
theorem d_law_477 : decode code 477 = .ok (.iaload, 1) := by decide +kernel
theorem d_law_478 : decode code 478 = .ok (.invokevirtual 55, 3) := by decide +kernel
theorem d_law_481 : decode code 481 = .ok (.if_icmp .eq 888, 3) := by decide +kernel
theorem d_law_484 : decode code 484 = .ok (.iconst 0, 1) := by decide +kernel
theorem d_law_485 : decode code 485 = .ok (.ireturn, 1) := by decide +kernel
theorem d_law_486 : decode code 486 = .ok (.aload_n 1, 1) := by decide +kernel
theorem d_law_487 : decode code 487 = .ok (.aload_n 0, 1) := by decide +kernel
theorem d_law_488 : decode code 488 = .ok (.iload_n 3, 1) := by decide +kernel
theorem d_law_489 : decode code 489 = .ok (.iconst 1, 1) := by decide +kernel
theorem d_law_490 : decode code 490 = .ok (.iadd, 1) := by decide +kernel
theorem d_law_491 : decode code 491 = .ok (.iaload, 1) := by decide +kernel
theorem d_law_492 : decode code 492 = .ok (.invokevirtual 56, 3) := by decide +kernel
theorem d_law_495 : decode code 495 = .ok (.aload_n 2, 1) := by decide +kernel
theorem d_law_496 : decode code 496 = .ok (.aload_n 0, 1) := by decide +kernel
theorem d_law_497 : decode code 497 = .ok (.iload_n 3, 1) := by decide +kernel
theorem d_law_498 : decode code 498 = .ok (.iconst 1, 1) := by decide +kernel
theorem d_law_499 : decode code 499 = .ok (.iadd, 1) := by decide +kernel
theorem d_law_500 : decode code 500 = .ok (.iaload, 1) := by decide +kernel
theorem d_law_501 : decode code 501 = .ok (.invokevirtual 59, 3) := by decide +kernel
theorem d_law_504 : decode code 504 = .ok (.if_icmp .eq 865, 3) := by decide +kernel
theorem d_law_507 : decode code 507 = .ok (.iconst 0, 1) := by decide +kernel
theorem d_law_508 : decode code 508 = .ok (.ireturn, 1) := by decide +kernel
theorem d_law_509 : decode code 509 = .ok (.aload_n 1, 1) := by decide +kernel
theorem d_law_510 : decode code 510 = .ok (.aload_n 0, 1) := by decide +kernel
theorem d_law_511 : decode code 511 = .ok (.iload_n 3, 1) := by decide +kernel
theorem d_law_512 : decode code 512 = .ok (.iconst 1, 1) := by decide +kernel
theorem d_law_513 : decode code 513 = .ok (.iadd, 1) := by decide +kernel
theorem d_law_514 : decode code 514 = .ok (.iaload, 1) := by decide +kernel
theorem d_law_515 : decode code 515 = .ok (.aload_n 0, 1) := by decide +kernel
theorem d_law_516 : decode code 516 = .ok (.iload_n 3, 1) := by decide +kernel
theorem d_law_517 : decode code 517 = .ok (.iconst 2, 1) := by decide +kernel
theorem d_law_518 : decode code 518 = .ok (.iadd, 1) := by decide +kernel
theorem d_law_519 : decode code 519 = .ok (.iaload, 1) := by decide +kernel
theorem d_law_520 : decode code 520 = .ok (.invokevirtual 60, 3) := by decide +kernel
theorem d_law_523 : decode code 523 = .ok (.aload_n 2, 1) := by decide +kernel
theorem d_law_524 : decode code 524 = .ok (.aload_n 0, 1) := by decide +kernel
theorem d_law_525 : decode code 525 = .ok (.iload_n 3, 1) := by decide +kernel
theorem d_law_526 : decode code 526 = .ok (.iconst 1, 1) := by decide +kernel
theorem d_law_527 : decode code 527 = .ok (.iadd, 1) := by decide +kernel
theorem d_law_528 : decode code 528 = .ok (.iaload, 1) := by decide +kernel
theorem d_law_529 : decode code 529 = .ok (.aload_n 0, 1) := by decide +kernel
theorem d_law_530 : decode code 530 = .ok (.iload_n 3, 1) := by decide +kernel
theorem d_law_531 : decode code 531 = .ok (.iconst 2, 1) := by decide +kernel
theorem d_law_532 : decode code 532 = .ok (.iadd, 1) := by decide +kernel
theorem d_law_533 : decode code 533 = .ok (.iaload, 1) := by decide +kernel
theorem d_law_534 : decode code 534 = .ok (.invokevirtual 63, 3) := by decide +kernel
theorem d_law_537 : decode code 537 = .ok (.if_icmp .eq 832, 3) := by decide +kernel
theorem d_law_540 : decode code 540 = .ok (.iconst 0, 1) := by decide +kernel
theorem d_law_541 : decode code 541 = .ok (.ireturn, 1) := by decide +kernel
theorem d_law_542 : decode code 542 = .ok (.aload_n 1, 1) := by decide +kernel
theorem d_law_543 : decode code 543 = .ok (.aload_n 0, 1) := by decide +kernel
theorem d_law_544 : decode code 544 = .ok (.iload_n 3, 1) := by decide +kernel
theorem d_law_545 : decode code 545 = .ok (.iconst 1, 1) := by decide +kernel
theorem d_law_546 : decode code 546 = .ok (.iadd, 1) := by decide +kernel
theorem d_law_547 : decode code 547 = .ok (.iaload, 1) := by decide +kernel
theorem d_law_548 : decode code 548 = .ok (.aload_n 0, 1) := by decide +kernel
theorem d_law_549 : decode code 549 = .ok (.iload_n 3, 1) := by decide +kernel
theorem d_law_550 : decode code 550 = .ok (.iconst 2, 1) := by decide +kernel
theorem d_law_551 : decode code 551 = .ok (.iadd, 1) := by decide +kernel
theorem d_law_552 : decode code 552 = .ok (.iaload, 1) := by decide +kernel
theorem d_law_553 : decode code 553 = .ok (.aload_n 0, 1) := by decide +kernel
theorem d_law_554 : decode code 554 = .ok (.iload_n 3, 1) := by decide +kernel
theorem d_law_555 : decode code 555 = .ok (.iconst 3, 1) := by decide +kernel
theorem d_law_556 : decode code 556 = .ok (.iadd, 1) := by decide +kernel
theorem d_law_557 : decode code 557 = .ok (.iaload, 1) := by decide +kernel
theorem d_law_558 : decode code 558 = .ok (.invokevirtual 64, 3) := by decide +kernel
theorem d_law_561 : decode code 561 = .ok (.aload_n 2, 1) := by decide +kernel
theorem d_law_562 : decode code 562 = .ok (.aload_n 0, 1) := by decide +kernel
theorem d_law_563 : decode code 563 = .ok (.iload_n 3, 1) := by decide +kernel
theorem d_law_564 : decode code 564 = .ok (.iconst 1, 1) := by decide +kernel
theorem d_law_565 : decode code 565 = .ok (.iadd, 1) := by decide +kernel
theorem d_law_566 : decode code 566 = .ok (.iaload, 1) := by decide +kernel
theorem d_law_567 : decode code 567 = .ok (.aload_n 0, 1) := by decide +kernel
theorem d_law_568 : decode code 568 = .ok (.iload_n 3, 1) := by decide +kernel
theorem d_law_569 : decode code 569 = .ok (.iconst 2, 1) := by decide +kernel
theorem d_law_570 : decode code 570 = .ok (.iadd, 1) := by decide +kernel
theorem d_law_571 : decode code 571 = .ok (.iaload, 1) := by decide +kernel
theorem d_law_572 : decode code 572 = .ok (.aload_n 0, 1) := by decide +kernel
theorem d_law_573 : decode code 573 = .ok (.iload_n 3, 1) := by decide +kernel
theorem d_law_574 : decode code 574 = .ok (.iconst 3, 1) := by decide +kernel
theorem d_law_575 : decode code 575 = .ok (.iadd, 1) := by decide +kernel
theorem d_law_576 : decode code 576 = .ok (.iaload, 1) := by decide +kernel
theorem d_law_577 : decode code 577 = .ok (.invokevirtual 67, 3) := by decide +kernel
theorem d_law_580 : decode code 580 = .ok (.if_icmp .eq 789, 3) := by decide +kernel
theorem d_law_583 : decode code 583 = .ok (.iconst 0, 1) := by decide +kernel
theorem d_law_584 : decode code 584 = .ok (.ireturn, 1) := by decide +kernel
theorem d_law_585 : decode code 585 = .ok (.aload_n 1, 1) := by decide +kernel
theorem d_law_586 : decode code 586 = .ok (.aload_n 0, 1) := by decide +kernel
theorem d_law_587 : decode code 587 = .ok (.iload_n 3, 1) := by decide +kernel
theorem d_law_588 : decode code 588 = .ok (.iconst 1, 1) := by decide +kernel
theorem d_law_589 : decode code 589 = .ok (.iadd, 1) := by decide +kernel
theorem d_law_590 : decode code 590 = .ok (.iaload, 1) := by decide +kernel
theorem d_law_591 : decode code 591 = .ok (.aload_n 0, 1) := by decide +kernel
theorem d_law_592 : decode code 592 = .ok (.iload_n 3, 1) := by decide +kernel
theorem d_law_593 : decode code 593 = .ok (.iconst 2, 1) := by decide +kernel
theorem d_law_594 : decode code 594 = .ok (.iadd, 1) := by decide +kernel
theorem d_law_595 : decode code 595 = .ok (.iaload, 1) := by decide +kernel
theorem d_law_596 : decode code 596 = .ok (.invokevirtual 68, 3) := by decide +kernel
theorem d_law_599 : decode code 599 = .ok (.aload_n 2, 1) := by decide +kernel
theorem d_law_600 : decode code 600 = .ok (.aload_n 0, 1) := by decide +kernel
theorem d_law_601 : decode code 601 = .ok (.iload_n 3, 1) := by decide +kernel
theorem d_law_602 : decode code 602 = .ok (.iconst 1, 1) := by decide +kernel
theorem d_law_603 : decode code 603 = .ok (.iadd, 1) := by decide +kernel
theorem d_law_604 : decode code 604 = .ok (.iaload, 1) := by decide +kernel
theorem d_law_605 : decode code 605 = .ok (.aload_n 0, 1) := by decide +kernel
theorem d_law_606 : decode code 606 = .ok (.iload_n 3, 1) := by decide +kernel
theorem d_law_607 : decode code 607 = .ok (.iconst 2, 1) := by decide +kernel
theorem d_law_608 : decode code 608 = .ok (.iadd, 1) := by decide +kernel
theorem d_law_609 : decode code 609 = .ok (.iaload, 1) := by decide +kernel
theorem d_law_610 : decode code 610 = .ok (.invokevirtual 71, 3) := by decide +kernel
theorem d_law_613 : decode code 613 = .ok (.if_icmp .eq 756, 3) := by decide +kernel
theorem d_law_616 : decode code 616 = .ok (.iconst 0, 1) := by decide +kernel
theorem d_law_617 : decode code 617 = .ok (.ireturn, 1) := by decide +kernel
theorem d_law_618 : decode code 618 = .ok (.aload_n 1, 1) := by decide +kernel
theorem d_law_619 : decode code 619 = .ok (.aload_n 0, 1) := by decide +kernel
theorem d_law_620 : decode code 620 = .ok (.iload_n 3, 1) := by decide +kernel
theorem d_law_621 : decode code 621 = .ok (.iconst 1, 1) := by decide +kernel
theorem d_law_622 : decode code 622 = .ok (.iadd, 1) := by decide +kernel
theorem d_law_623 : decode code 623 = .ok (.iaload, 1) := by decide +kernel
theorem d_law_624 : decode code 624 = .ok (.invokevirtual 72, 3) := by decide +kernel
theorem d_law_627 : decode code 627 = .ok (.aload_n 2, 1) := by decide +kernel
theorem d_law_628 : decode code 628 = .ok (.aload_n 0, 1) := by decide +kernel
theorem d_law_629 : decode code 629 = .ok (.iload_n 3, 1) := by decide +kernel
theorem d_law_630 : decode code 630 = .ok (.iconst 1, 1) := by decide +kernel
theorem d_law_631 : decode code 631 = .ok (.iadd, 1) := by decide +kernel
theorem d_law_632 : decode code 632 = .ok (.iaload, 1) := by decide +kernel
theorem d_law_633 : decode code 633 = .ok (.invokevirtual 75, 3) := by decide +kernel
theorem d_law_636 : decode code 636 = .ok (.if_icmp .eq 733, 3) := by decide +kernel
theorem d_law_639 : decode code 639 = .ok (.iconst 0, 1) := by decide +kernel
theorem d_law_640 : decode code 640 = .ok (.ireturn, 1) := by decide +kernel
theorem d_law_641 : decode code 641 = .ok (.aload_n 1, 1) := by decide +kernel
theorem d_law_642 : decode code 642 = .ok (.aload_n 0, 1) := by decide +kernel
theorem d_law_643 : decode code 643 = .ok (.iload_n 3, 1) := by decide +kernel
theorem d_law_644 : decode code 644 = .ok (.iconst 1, 1) := by decide +kernel
theorem d_law_645 : decode code 645 = .ok (.iadd, 1) := by decide +kernel
theorem d_law_646 : decode code 646 = .ok (.iaload, 1) := by decide +kernel
theorem d_law_647 : decode code 647 = .ok (.invokevirtual 76, 3) := by decide +kernel
theorem d_law_650 : decode code 650 = .ok (.aload_n 2, 1) := by decide +kernel
theorem d_law_651 : decode code 651 = .ok (.aload_n 0, 1) := by decide +kernel
theorem d_law_652 : decode code 652 = .ok (.iload_n 3, 1) := by decide +kernel
theorem d_law_653 : decode code 653 = .ok (.iconst 1, 1) := by decide +kernel
theorem d_law_654 : decode code 654 = .ok (.iadd, 1) := by decide +kernel
theorem d_law_655 : decode code 655 = .ok (.iaload, 1) := by decide +kernel
theorem d_law_656 : decode code 656 = .ok (.invokevirtual 79, 3) := by decide +kernel
theorem d_law_659 : decode code 659 = .ok (.if_icmp .eq 710, 3) := by decide +kernel
theorem d_law_662 : decode code 662 = .ok (.iconst 0, 1) := by decide +kernel
theorem d_law_663 : decode code 663 = .ok (.ireturn, 1) := by decide +kernel
theorem d_law_664 : decode code 664 = .ok (.aload_n 1, 1) := by decide +kernel
theorem d_law_665 : decode code 665 = .ok (.aload_n 0, 1) := by decide +kernel
theorem d_law_666 : decode code 666 = .ok (.iload_n 3, 1) := by decide +kernel
theorem d_law_667 : decode code 667 = .ok (.iconst 1, 1) := by decide +kernel
theorem d_law_668 : decode code 668 = .ok (.iadd, 1) := by decide +kernel
theorem d_law_669 : decode code 669 = .ok (.iaload, 1) := by decide +kernel
theorem d_law_670 : decode code 670 = .ok (.invokevirtual 80, 3) := by decide +kernel
theorem d_law_673 : decode code 673 = .ok (.aload_n 2, 1) := by decide +kernel
theorem d_law_674 : decode code 674 = .ok (.aload_n 0, 1) := by decide +kernel
theorem d_law_675 : decode code 675 = .ok (.iload_n 3, 1) := by decide +kernel
theorem d_law_676 : decode code 676 = .ok (.iconst 1, 1) := by decide +kernel
theorem d_law_677 : decode code 677 = .ok (.iadd, 1) := by decide +kernel
theorem d_law_678 : decode code 678 = .ok (.iaload, 1) := by decide +kernel
theorem d_law_679 : decode code 679 = .ok (.invokevirtual 83, 3) := by decide +kernel
theorem d_law_682 : decode code 682 = .ok (.if_icmp .eq 687, 3) := by decide +kernel
theorem d_law_685 : decode code 685 = .ok (.iconst 0, 1) := by decide +kernel
theorem d_law_686 : decode code 686 = .ok (.ireturn, 1) := by decide +kernel
theorem d_law_687 : decode code 687 = .ok (.aload_n 1, 1) := by decide +kernel
theorem d_law_688 : decode code 688 = .ok (.aload_n 0, 1) := by decide +kernel
theorem d_law_689 : decode code 689 = .ok (.iload_n 3, 1) := by decide +kernel
theorem d_law_690 : decode code 690 = .ok (.iconst 1, 1) := by decide +kernel
theorem d_law_691 : decode code 691 = .ok (.iadd, 1) := by decide +kernel
theorem d_law_692 : decode code 692 = .ok (.iaload, 1) := by decide +kernel
theorem d_law_693 : decode code 693 = .ok (.invokevirtual 84, 3) := by decide +kernel
theorem d_law_696 : decode code 696 = .ok (.aload_n 2, 1) := by decide +kernel
theorem d_law_697 : decode code 697 = .ok (.aload_n 0, 1) := by decide +kernel
theorem d_law_698 : decode code 698 = .ok (.iload_n 3, 1) := by decide +kernel
theorem d_law_699 : decode code 699 = .ok (.iconst 1, 1) := by decide +kernel
theorem d_law_700 : decode code 700 = .ok (.iadd, 1) := by decide +kernel
theorem d_law_701 : decode code 701 = .ok (.iaload, 1) := by decide +kernel
theorem d_law_702 : decode code 702 = .ok (.invokevirtual 87, 3) := by decide +kernel
theorem d_law_705 : decode code 705 = .ok (.if_icmp .eq 664, 3) := by decide +kernel
theorem d_law_708 : decode code 708 = .ok (.iconst 0, 1) := by decide +kernel
theorem d_law_709 : decode code 709 = .ok (.ireturn, 1) := by decide +kernel
theorem d_law_710 : decode code 710 = .ok (.aload_n 1, 1) := by decide +kernel
theorem d_law_711 : decode code 711 = .ok (.aload_n 0, 1) := by decide +kernel
theorem d_law_712 : decode code 712 = .ok (.iload_n 3, 1) := by decide +kernel
theorem d_law_713 : decode code 713 = .ok (.iconst 1, 1) := by decide +kernel
theorem d_law_714 : decode code 714 = .ok (.iadd, 1) := by decide +kernel
theorem d_law_715 : decode code 715 = .ok (.iaload, 1) := by decide +kernel
theorem d_law_716 : decode code 716 = .ok (.aload_n 0, 1) := by decide +kernel
theorem d_law_717 : decode code 717 = .ok (.iload_n 3, 1) := by decide +kernel
theorem d_law_718 : decode code 718 = .ok (.iconst 2, 1) := by decide +kernel
theorem d_law_719 : decode code 719 = .ok (.iadd, 1) := by decide +kernel
theorem d_law_720 : decode code 720 = .ok (.iaload, 1) := by decide +kernel
theorem d_law_721 : decode code 721 = .ok (.invokevirtual 88, 3) := by decide +kernel
theorem d_law_724 : decode code 724 = .ok (.aload_n 2, 1) := by decide +kernel
theorem d_law_725 : decode code 725 = .ok (.aload_n 0, 1) := by decide +kernel
theorem d_law_726 : decode code 726 = .ok (.iload_n 3, 1) := by decide +kernel
theorem d_law_727 : decode code 727 = .ok (.iconst 1, 1) := by decide +kernel
theorem d_law_728 : decode code 728 = .ok (.iadd, 1) := by decide +kernel
theorem d_law_729 : decode code 729 = .ok (.iaload, 1) := by decide +kernel
theorem d_law_730 : decode code 730 = .ok (.aload_n 0, 1) := by decide +kernel
theorem d_law_731 : decode code 731 = .ok (.iload_n 3, 1) := by decide +kernel
theorem d_law_732 : decode code 732 = .ok (.iconst 2, 1) := by decide +kernel
theorem d_law_733 : decode code 733 = .ok (.iadd, 1) := by decide +kernel
theorem d_law_734 : decode code 734 = .ok (.iaload, 1) := by decide +kernel
theorem d_law_735 : decode code 735 = .ok (.invokevirtual 91, 3) := by decide +kernel
theorem d_law_738 : decode code 738 = .ok (.if_icmp .eq 631, 3) := by decide +kernel
theorem d_law_741 : decode code 741 = .ok (.iconst 0, 1) := by decide +kernel
theorem d_law_742 : decode code 742 = .ok (.ireturn, 1) := by decide +kernel
theorem d_law_743 : decode code 743 = .ok (.aload_n 1, 1) := by decide +kernel
theorem d_law_744 : decode code 744 = .ok (.aload_n 0, 1) := by decide +kernel
theorem d_law_745 : decode code 745 = .ok (.iload_n 3, 1) := by decide +kernel
theorem d_law_746 : decode code 746 = .ok (.iconst 1, 1) := by decide +kernel
theorem d_law_747 : decode code 747 = .ok (.iadd, 1) := by decide +kernel
theorem d_law_748 : decode code 748 = .ok (.iaload, 1) := by decide +kernel
theorem d_law_749 : decode code 749 = .ok (.aload_n 0, 1) := by decide +kernel
theorem d_law_750 : decode code 750 = .ok (.iload_n 3, 1) := by decide +kernel
theorem d_law_751 : decode code 751 = .ok (.iconst 2, 1) := by decide +kernel
theorem d_law_752 : decode code 752 = .ok (.iadd, 1) := by decide +kernel
theorem d_law_753 : decode code 753 = .ok (.iaload, 1) := by decide +kernel
theorem d_law_754 : decode code 754 = .ok (.aload_n 0, 1) := by decide +kernel
theorem d_law_755 : decode code 755 = .ok (.iload_n 3, 1) := by decide +kernel
theorem d_law_756 : decode code 756 = .ok (.iconst 3, 1) := by decide +kernel
theorem d_law_757 : decode code 757 = .ok (.iadd, 1) := by decide +kernel
theorem d_law_758 : decode code 758 = .ok (.iaload, 1) := by decide +kernel
theorem d_law_759 : decode code 759 = .ok (.invokevirtual 92, 3) := by decide +kernel
theorem d_law_762 : decode code 762 = .ok (.aload_n 2, 1) := by decide +kernel
theorem d_law_763 : decode code 763 = .ok (.aload_n 0, 1) := by decide +kernel
theorem d_law_764 : decode code 764 = .ok (.iload_n 3, 1) := by decide +kernel
theorem d_law_765 : decode code 765 = .ok (.iconst 1, 1) := by decide +kernel
theorem d_law_766 : decode code 766 = .ok (.iadd, 1) := by decide +kernel
theorem d_law_767 : decode code 767 = .ok (.iaload, 1) := by decide +kernel
theorem d_law_768 : decode code 768 = .ok (.aload_n 0, 1) := by decide +kernel
theorem d_law_769 : decode code 769 = .ok (.iload_n 3, 1) := by decide +kernel
theorem d_law_770 : decode code 770 = .ok (.iconst 2, 1) := by decide +kernel
theorem d_law_771 : decode code 771 = .ok (.iadd, 1) := by decide +kernel
theorem d_law_772 : decode code 772 = .ok (.iaload, 1) := by decide +kernel
theorem d_law_773 : decode code 773 = .ok (.aload_n 0, 1) := by decide +kernel
theorem d_law_774 : decode code 774 = .ok (.iload_n 3, 1) := by decide +kernel
theorem d_law_775 : decode code 775 = .ok (.iconst 3, 1) := by decide +kernel
theorem d_law_776 : decode code 776 = .ok (.iadd, 1) := by decide +kernel
theorem d_law_777 : decode code 777 = .ok (.iaload, 1) := by decide +kernel
theorem d_law_778 : decode code 778 = .ok (.invokevirtual 95, 3) := by decide +kernel
theorem d_law_781 : decode code 781 = .ok (.if_icmp .eq 588, 3) := by decide +kernel
theorem d_law_784 : decode code 784 = .ok (.iconst 0, 1) := by decide +kernel
theorem d_law_785 : decode code 785 = .ok (.ireturn, 1) := by decide +kernel
theorem d_law_786 : decode code 786 = .ok (.aload_n 1, 1) := by decide +kernel
theorem d_law_787 : decode code 787 = .ok (.aload_n 0, 1) := by decide +kernel
theorem d_law_788 : decode code 788 = .ok (.iload_n 3, 1) := by decide +kernel
theorem d_law_789 : decode code 789 = .ok (.iconst 1, 1) := by decide +kernel
theorem d_law_790 : decode code 790 = .ok (.iadd, 1) := by decide +kernel
theorem d_law_791 : decode code 791 = .ok (.iaload, 1) := by decide +kernel
theorem d_law_792 : decode code 792 = .ok (.aload_n 0, 1) := by decide +kernel
theorem d_law_793 : decode code 793 = .ok (.iload_n 3, 1) := by decide +kernel
theorem d_law_794 : decode code 794 = .ok (.iconst 2, 1) := by decide +kernel
theorem d_law_795 : decode code 795 = .ok (.iadd, 1) := by decide +kernel
theorem d_law_796 : decode code 796 = .ok (.iaload, 1) := by decide +kernel
theorem d_law_797 : decode code 797 = .ok (.aload_n 0, 1) := by decide +kernel
theorem d_law_798 : decode code 798 = .ok (.iload_n 3, 1) := by decide +kernel
theorem d_law_799 : decode code 799 = .ok (.iconst 3, 1) := by decide +kernel
theorem d_law_800 : decode code 800 = .ok (.iadd, 1) := by decide +kernel
theorem d_law_801 : decode code 801 = .ok (.iaload, 1) := by decide +kernel
theorem d_law_802 : decode code 802 = .ok (.invokevirtual 96, 3) := by decide +kernel
theorem d_law_805 : decode code 805 = .ok (.aload_n 2, 1) := by decide +kernel
theorem d_law_806 : decode code 806 = .ok (.aload_n 0, 1) := by decide +kernel
theorem d_law_807 : decode code 807 = .ok (.iload_n 3, 1) := by decide +kernel
theorem d_law_808 : decode code 808 = .ok (.iconst 1, 1) := by decide +kernel
theorem d_law_809 : decode code 809 = .ok (.iadd, 1) := by decide +kernel
theorem d_law_810 : decode code 810 = .ok (.iaload, 1) := by decide +kernel
theorem d_law_811 : decode code 811 = .ok (.aload_n 0, 1) := by decide +kernel
theorem d_law_812 : decode code 812 = .ok (.iload_n 3, 1) := by decide +kernel
theorem d_law_813 : decode code 813 = .ok (.iconst 2, 1) := by decide +kernel
theorem d_law_814 : decode code 814 = .ok (.iadd, 1) := by decide +kernel
theorem d_law_815 : decode code 815 = .ok (.iaload, 1) := by decide +kernel
theorem d_law_816 : decode code 816 = .ok (.aload_n 0, 1) := by decide +kernel
theorem d_law_817 : decode code 817 = .ok (.iload_n 3, 1) := by decide +kernel
theorem d_law_818 : decode code 818 = .ok (.iconst 3, 1) := by decide +kernel
theorem d_law_819 : decode code 819 = .ok (.iadd, 1) := by decide +kernel
theorem d_law_820 : decode code 820 = .ok (.iaload, 1) := by decide +kernel
theorem d_law_821 : decode code 821 = .ok (.invokevirtual 99, 3) := by decide +kernel
theorem d_law_824 : decode code 824 = .ok (.if_icmp .eq 545, 3) := by decide +kernel
theorem d_law_827 : decode code 827 = .ok (.iconst 0, 1) := by decide +kernel
theorem d_law_828 : decode code 828 = .ok (.ireturn, 1) := by decide +kernel
theorem d_law_829 : decode code 829 = .ok (.aload_n 1, 1) := by decide +kernel
theorem d_law_830 : decode code 830 = .ok (.aload_n 0, 1) := by decide +kernel
theorem d_law_831 : decode code 831 = .ok (.iload_n 3, 1) := by decide +kernel
theorem d_law_832 : decode code 832 = .ok (.iconst 1, 1) := by decide +kernel
theorem d_law_833 : decode code 833 = .ok (.iadd, 1) := by decide +kernel
theorem d_law_834 : decode code 834 = .ok (.iaload, 1) := by decide +kernel
theorem d_law_835 : decode code 835 = .ok (.aload_n 0, 1) := by decide +kernel
theorem d_law_836 : decode code 836 = .ok (.iload_n 3, 1) := by decide +kernel
theorem d_law_837 : decode code 837 = .ok (.iconst 2, 1) := by decide +kernel
theorem d_law_838 : decode code 838 = .ok (.iadd, 1) := by decide +kernel
theorem d_law_839 : decode code 839 = .ok (.iaload, 1) := by decide +kernel
theorem d_law_840 : decode code 840 = .ok (.invokevirtual 100, 3) := by decide +kernel
theorem d_law_843 : decode code 843 = .ok (.aload_n 2, 1) := by decide +kernel
theorem d_law_844 : decode code 844 = .ok (.aload_n 0, 1) := by decide +kernel
theorem d_law_845 : decode code 845 = .ok (.iload_n 3, 1) := by decide +kernel
theorem d_law_846 : decode code 846 = .ok (.iconst 1, 1) := by decide +kernel
theorem d_law_847 : decode code 847 = .ok (.iadd, 1) := by decide +kernel
theorem d_law_848 : decode code 848 = .ok (.iaload, 1) := by decide +kernel
theorem d_law_849 : decode code 849 = .ok (.aload_n 0, 1) := by decide +kernel
theorem d_law_850 : decode code 850 = .ok (.iload_n 3, 1) := by decide +kernel
theorem d_law_851 : decode code 851 = .ok (.iconst 2, 1) := by decide +kernel
theorem d_law_852 : decode code 852 = .ok (.iadd, 1) := by decide +kernel
theorem d_law_853 : decode code 853 = .ok (.iaload, 1) := by decide +kernel
theorem d_law_854 : decode code 854 = .ok (.invokevirtual 103, 3) := by decide +kernel
theorem d_law_857 : decode code 857 = .ok (.if_icmp .eq 512, 3) := by decide +kernel
theorem d_law_860 : decode code 860 = .ok (.iconst 0, 1) := by decide +kernel
theorem d_law_861 : decode code 861 = .ok (.ireturn, 1) := by decide +kernel
theorem d_law_862 : decode code 862 = .ok (.aload_n 1, 1) := by decide +kernel
theorem d_law_863 : decode code 863 = .ok (.aload_n 0, 1) := by decide +kernel
theorem d_law_864 : decode code 864 = .ok (.iload_n 3, 1) := by decide +kernel
theorem d_law_865 : decode code 865 = .ok (.iconst 1, 1) := by decide +kernel
theorem d_law_866 : decode code 866 = .ok (.iadd, 1) := by decide +kernel
theorem d_law_867 : decode code 867 = .ok (.iaload, 1) := by decide +kernel
theorem d_law_868 : decode code 868 = .ok (.aload_n 0, 1) := by decide +kernel
theorem d_law_869 : decode code 869 = .ok (.iload_n 3, 1) := by decide +kernel
theorem d_law_870 : decode code 870 = .ok (.iconst 2, 1) := by decide +kernel
theorem d_law_871 : decode code 871 = .ok (.iadd, 1) := by decide +kernel
theorem d_law_872 : decode code 872 = .ok (.iaload, 1) := by decide +kernel
theorem d_law_873 : decode code 873 = .ok (.aload_n 0, 1) := by decide +kernel
theorem d_law_874 : decode code 874 = .ok (.iload_n 3, 1) := by decide +kernel
theorem d_law_875 : decode code 875 = .ok (.iconst 3, 1) := by decide +kernel
theorem d_law_876 : decode code 876 = .ok (.iadd, 1) := by decide +kernel
theorem d_law_877 : decode code 877 = .ok (.iaload, 1) := by decide +kernel
theorem d_law_878 : decode code 878 = .ok (.invokevirtual 104, 3) := by decide +kernel
theorem d_law_881 : decode code 881 = .ok (.aload_n 2, 1) := by decide +kernel
theorem d_law_882 : decode code 882 = .ok (.aload_n 0, 1) := by decide +kernel
theorem d_law_883 : decode code 883 = .ok (.iload_n 3, 1) := by decide +kernel
theorem d_law_884 : decode code 884 = .ok (.iconst 1, 1) := by decide +kernel
theorem d_law_885 : decode code 885 = .ok (.iadd, 1) := by decide +kernel
theorem d_law_886 : decode code 886 = .ok (.iaload, 1) := by decide +kernel
theorem d_law_887 : decode code 887 = .ok (.aload_n 0, 1) := by decide +kernel
theorem d_law_888 : decode code 888 = .ok (.iload_n 3, 1) := by decide +kernel
theorem d_law_889 : decode code 889 = .ok (.iconst 2, 1) := by decide +kernel
theorem d_law_890 : decode code 890 = .ok (.iadd, 1) := by decide +kernel
theorem d_law_891 : decode code 891 = .ok (.iaload, 1) := by decide +kernel
theorem d_law_892 : decode code 892 = .ok (.aload_n 0, 1) := by decide +kernel
theorem d_law_893 : decode code 893 = .ok (.iload_n 3, 1) := by decide +kernel
theorem d_law_894 : decode code 894 = .ok (.iconst 3, 1) := by decide +kernel
theorem d_law_895 : decode code 895 = .ok (.iadd, 1) := by decide +kernel
theorem d_law_896 : decode code 896 = .ok (.iaload, 1) := by decide +kernel
theorem d_law_897 : decode code 897 = .ok (.invokevirtual 107, 3) := by decide +kernel
theorem d_law_900 : decode code 900 = .ok (.if_icmp .eq 469, 3) := by decide +kernel
theorem d_law_903 : decode code 903 = .ok (.iconst 0, 1) := by decide +kernel
theorem d_law_904 : decode code 904 = .ok (.ireturn, 1) := by decide +kernel
theorem d_law_905 : decode code 905 = .ok (.aload_n 1, 1) := by decide +kernel
theorem d_law_906 : decode code 906 = .ok (.invokevirtual 108, 3) := by decide +kernel
theorem d_law_909 : decode code 909 = .ok (.aload_n 2, 1) := by decide +kernel
theorem d_law_910 : decode code 910 = .ok (.invokevirtual 112, 3) := by decide +kernel
theorem d_law_913 : decode code 913 = .ok (.if_icmp .eq 456, 3) := by decide +kernel
theorem d_law_916 : decode code 916 = .ok (.iconst 0, 1) := by decide +kernel
theorem d_law_917 : decode code 917 = .ok (.ireturn, 1) := by decide +kernel
theorem d_law_918 : decode code 918 = .ok (.aload_n 1, 1) := by decide +kernel
theorem d_law_919 : decode code 919 = .ok (.invokevirtual 113, 3) := by decide +kernel
theorem d_law_922 : decode code 922 = .ok (.aload_n 2, 1) := by decide +kernel
theorem d_law_923 : decode code 923 = .ok (.invokevirtual 116, 3) := by decide +kernel
theorem d_law_926 : decode code 926 = .ok (.if_icmp .eq 443, 3) := by decide +kernel
theorem d_law_929 : decode code 929 = .ok (.iconst 0, 1) := by decide +kernel
theorem d_law_930 : decode code 930 = .ok (.ireturn, 1) := by decide +kernel
theorem d_law_931 : decode code 931 = .ok (.aload_n 1, 1) := by decide +kernel
theorem d_law_932 : decode code 932 = .ok (.aload_n 0, 1) := by decide +kernel
theorem d_law_933 : decode code 933 = .ok (.iload_n 3, 1) := by decide +kernel
theorem d_law_934 : decode code 934 = .ok (.iconst 1, 1) := by decide +kernel
theorem d_law_935 : decode code 935 = .ok (.iadd, 1) := by decide +kernel
theorem d_law_936 : decode code 936 = .ok (.iaload, 1) := by decide +kernel
theorem d_law_937 : decode code 937 = .ok (.invokevirtual 117, 3) := by decide +kernel
theorem d_law_940 : decode code 940 = .ok (.aload_n 2, 1) := by decide +kernel
theorem d_law_941 : decode code 941 = .ok (.aload_n 0, 1) := by decide +kernel
theorem d_law_942 : decode code 942 = .ok (.iload_n 3, 1) := by decide +kernel
theorem d_law_943 : decode code 943 = .ok (.iconst 1, 1) := by decide +kernel
theorem d_law_944 : decode code 944 = .ok (.iadd, 1) := by decide +kernel
theorem d_law_945 : decode code 945 = .ok (.iaload, 1) := by decide +kernel
theorem d_law_946 : decode code 946 = .ok (.invokevirtual 120, 3) := by decide +kernel
theorem d_law_949 : decode code 949 = .ok (.if_icmp .eq 420, 3) := by decide +kernel
theorem d_law_952 : decode code 952 = .ok (.iconst 0, 1) := by decide +kernel
theorem d_law_953 : decode code 953 = .ok (.ireturn, 1) := by decide +kernel
theorem d_law_954 : decode code 954 = .ok (.aload_n 1, 1) := by decide +kernel
theorem d_law_955 : decode code 955 = .ok (.aload_n 0, 1) := by decide +kernel
theorem d_law_956 : decode code 956 = .ok (.iload_n 3, 1) := by decide +kernel
theorem d_law_957 : decode code 957 = .ok (.iconst 1, 1) := by decide +kernel
theorem d_law_958 : decode code 958 = .ok (.iadd, 1) := by decide +kernel
theorem d_law_959 : decode code 959 = .ok (.iaload, 1) := by decide +kernel
theorem d_law_960 : decode code 960 = .ok (.invokevirtual 121, 3) := by decide +kernel
theorem d_law_963 : decode code 963 = .ok (.aload_n 2, 1) := by decide +kernel
theorem d_law_964 : decode code 964 = .ok (.aload_n 0, 1) := by decide +kernel
theorem d_law_965 : decode code 965 = .ok (.iload_n 3, 1) := by decide +kernel
theorem d_law_966 : decode code 966 = .ok (.iconst 1, 1) := by decide +kernel
theorem d_law_967 : decode code 967 = .ok (.iadd, 1) := by decide +kernel
theorem d_law_968 : decode code 968 = .ok (.iaload, 1) := by decide +kernel
theorem d_law_969 : decode code 969 = .ok (.invokevirtual 124, 3) := by decide +kernel
theorem d_law_972 : decode code 972 = .ok (.if_icmp .eq 397, 3) := by decide +kernel
theorem d_law_975 : decode code 975 = .ok (.iconst 0, 1) := by decide +kernel
theorem d_law_976 : decode code 976 = .ok (.ireturn, 1) := by decide +kernel
theorem d_law_977 : decode code 977 = .ok (.aload_n 1, 1) := by decide +kernel
theorem d_law_978 : decode code 978 = .ok (.aload_n 0, 1) := by decide +kernel
theorem d_law_979 : decode code 979 = .ok (.iload_n 3, 1) := by decide +kernel
theorem d_law_980 : decode code 980 = .ok (.iconst 1, 1) := by decide +kernel
theorem d_law_981 : decode code 981 = .ok (.iadd, 1) := by decide +kernel
theorem d_law_982 : decode code 982 = .ok (.iaload, 1) := by decide +kernel
theorem d_law_983 : decode code 983 = .ok (.aload_n 0, 1) := by decide +kernel
theorem d_law_984 : decode code 984 = .ok (.iload_n 3, 1) := by decide +kernel
theorem d_law_985 : decode code 985 = .ok (.iconst 2, 1) := by decide +kernel
theorem d_law_986 : decode code 986 = .ok (.iadd, 1) := by decide +kernel
theorem d_law_987 : decode code 987 = .ok (.iaload, 1) := by decide +kernel
theorem d_law_988 : decode code 988 = .ok (.aload_n 0, 1) := by decide +kernel
theorem d_law_989 : decode code 989 = .ok (.iload_n 3, 1) := by decide +kernel
theorem d_law_990 : decode code 990 = .ok (.iconst 3, 1) := by decide +kernel
theorem d_law_991 : decode code 991 = .ok (.iadd, 1) := by decide +kernel
theorem d_law_992 : decode code 992 = .ok (.iaload, 1) := by decide +kernel
theorem d_law_993 : decode code 993 = .ok (.aload_n 0, 1) := by decide +kernel
theorem d_law_994 : decode code 994 = .ok (.iload_n 3, 1) := by decide +kernel
theorem d_law_995 : decode code 995 = .ok (.iconst 4, 1) := by decide +kernel
theorem d_law_996 : decode code 996 = .ok (.iadd, 1) := by decide +kernel
theorem d_law_997 : decode code 997 = .ok (.iaload, 1) := by decide +kernel
theorem d_law_998 : decode code 998 = .ok (.invokevirtual 125, 3) := by decide +kernel
theorem d_law_1001 : decode code 1001 = .ok (.aload_n 2, 1) := by decide +kernel
theorem d_law_1002 : decode code 1002 = .ok (.aload_n 0, 1) := by decide +kernel
theorem d_law_1003 : decode code 1003 = .ok (.iload_n 3, 1) := by decide +kernel
theorem d_law_1004 : decode code 1004 = .ok (.iconst 1, 1) := by decide +kernel
theorem d_law_1005 : decode code 1005 = .ok (.iadd, 1) := by decide +kernel
theorem d_law_1006 : decode code 1006 = .ok (.iaload, 1) := by decide +kernel
theorem d_law_1007 : decode code 1007 = .ok (.aload_n 0, 1) := by decide +kernel
theorem d_law_1008 : decode code 1008 = .ok (.iload_n 3, 1) := by decide +kernel
theorem d_law_1009 : decode code 1009 = .ok (.iconst 2, 1) := by decide +kernel
theorem d_law_1010 : decode code 1010 = .ok (.iadd, 1) := by decide +kernel
theorem d_law_1011 : decode code 1011 = .ok (.iaload, 1) := by decide +kernel
theorem d_law_1012 : decode code 1012 = .ok (.aload_n 0, 1) := by decide +kernel
theorem d_law_1013 : decode code 1013 = .ok (.iload_n 3, 1) := by decide +kernel
theorem d_law_1014 : decode code 1014 = .ok (.iconst 3, 1) := by decide +kernel
theorem d_law_1015 : decode code 1015 = .ok (.iadd, 1) := by decide +kernel
theorem d_law_1016 : decode code 1016 = .ok (.iaload, 1) := by decide +kernel
theorem d_law_1017 : decode code 1017 = .ok (.aload_n 0, 1) := by decide +kernel
theorem d_law_1018 : decode code 1018 = .ok (.iload_n 3, 1) := by decide +kernel
theorem d_law_1019 : decode code 1019 = .ok (.iconst 4, 1) := by decide +kernel
theorem d_law_1020 : decode code 1020 = .ok (.iadd, 1) := by decide +kernel
theorem d_law_1021 : decode code 1021 = .ok (.iaload, 1) := by decide +kernel
theorem d_law_1022 : decode code 1022 = .ok (.invokevirtual 129, 3) := by decide +kernel
theorem d_law_1025 : decode code 1025 = .ok (.lcmp, 1) := by decide +kernel
theorem d_law_1026 : decode code 1026 = .ok (.ifCond .eq 343, 3) := by decide +kernel
theorem d_law_1029 : decode code 1029 = .ok (.iconst 0, 1) := by decide +kernel
theorem d_law_1030 : decode code 1030 = .ok (.ireturn, 1) := by decide +kernel
theorem d_law_1031 : decode code 1031 = .ok (.aload_n 1, 1) := by decide +kernel
theorem d_law_1032 : decode code 1032 = .ok (.aload_n 0, 1) := by decide +kernel
theorem d_law_1033 : decode code 1033 = .ok (.iload_n 3, 1) := by decide +kernel
theorem d_law_1034 : decode code 1034 = .ok (.iconst 1, 1) := by decide +kernel
theorem d_law_1035 : decode code 1035 = .ok (.iadd, 1) := by decide +kernel
theorem d_law_1036 : decode code 1036 = .ok (.iaload, 1) := by decide +kernel
theorem d_law_1037 : decode code 1037 = .ok (.aload_n 0, 1) := by decide +kernel
theorem d_law_1038 : decode code 1038 = .ok (.iload_n 3, 1) := by decide +kernel
theorem d_law_1039 : decode code 1039 = .ok (.iconst 2, 1) := by decide +kernel
theorem d_law_1040 : decode code 1040 = .ok (.iadd, 1) := by decide +kernel
theorem d_law_1041 : decode code 1041 = .ok (.iaload, 1) := by decide +kernel
theorem d_law_1042 : decode code 1042 = .ok (.aload_n 0, 1) := by decide +kernel
theorem d_law_1043 : decode code 1043 = .ok (.iload_n 3, 1) := by decide +kernel
theorem d_law_1044 : decode code 1044 = .ok (.iconst 3, 1) := by decide +kernel
theorem d_law_1045 : decode code 1045 = .ok (.iadd, 1) := by decide +kernel
theorem d_law_1046 : decode code 1046 = .ok (.iaload, 1) := by decide +kernel
theorem d_law_1047 : decode code 1047 = .ok (.invokevirtual 130, 3) := by decide +kernel
theorem d_law_1050 : decode code 1050 = .ok (.aload_n 2, 1) := by decide +kernel
theorem d_law_1051 : decode code 1051 = .ok (.aload_n 0, 1) := by decide +kernel
theorem d_law_1052 : decode code 1052 = .ok (.iload_n 3, 1) := by decide +kernel
theorem d_law_1053 : decode code 1053 = .ok (.iconst 1, 1) := by decide +kernel
theorem d_law_1054 : decode code 1054 = .ok (.iadd, 1) := by decide +kernel
theorem d_law_1055 : decode code 1055 = .ok (.iaload, 1) := by decide +kernel
theorem d_law_1056 : decode code 1056 = .ok (.aload_n 0, 1) := by decide +kernel
theorem d_law_1057 : decode code 1057 = .ok (.iload_n 3, 1) := by decide +kernel
theorem d_law_1058 : decode code 1058 = .ok (.iconst 2, 1) := by decide +kernel
theorem d_law_1059 : decode code 1059 = .ok (.iadd, 1) := by decide +kernel
theorem d_law_1060 : decode code 1060 = .ok (.iaload, 1) := by decide +kernel
theorem d_law_1061 : decode code 1061 = .ok (.aload_n 0, 1) := by decide +kernel
theorem d_law_1062 : decode code 1062 = .ok (.iload_n 3, 1) := by decide +kernel
theorem d_law_1063 : decode code 1063 = .ok (.iconst 3, 1) := by decide +kernel
theorem d_law_1064 : decode code 1064 = .ok (.iadd, 1) := by decide +kernel
theorem d_law_1065 : decode code 1065 = .ok (.iaload, 1) := by decide +kernel
theorem d_law_1066 : decode code 1066 = .ok (.invokevirtual 133, 3) := by decide +kernel
theorem d_law_1069 : decode code 1069 = .ok (.if_icmp .eq 300, 3) := by decide +kernel
theorem d_law_1072 : decode code 1072 = .ok (.iconst 0, 1) := by decide +kernel
theorem d_law_1073 : decode code 1073 = .ok (.ireturn, 1) := by decide +kernel
theorem d_law_1074 : decode code 1074 = .ok (.aload_n 1, 1) := by decide +kernel
theorem d_law_1075 : decode code 1075 = .ok (.aload_n 0, 1) := by decide +kernel
theorem d_law_1076 : decode code 1076 = .ok (.iload_n 3, 1) := by decide +kernel
theorem d_law_1077 : decode code 1077 = .ok (.iconst 1, 1) := by decide +kernel
theorem d_law_1078 : decode code 1078 = .ok (.iadd, 1) := by decide +kernel
theorem d_law_1079 : decode code 1079 = .ok (.iaload, 1) := by decide +kernel
theorem d_law_1080 : decode code 1080 = .ok (.aload_n 0, 1) := by decide +kernel
theorem d_law_1081 : decode code 1081 = .ok (.iload_n 3, 1) := by decide +kernel
theorem d_law_1082 : decode code 1082 = .ok (.iconst 2, 1) := by decide +kernel
theorem d_law_1083 : decode code 1083 = .ok (.iadd, 1) := by decide +kernel
theorem d_law_1084 : decode code 1084 = .ok (.iaload, 1) := by decide +kernel
theorem d_law_1085 : decode code 1085 = .ok (.aload_n 0, 1) := by decide +kernel
theorem d_law_1086 : decode code 1086 = .ok (.iload_n 3, 1) := by decide +kernel
theorem d_law_1087 : decode code 1087 = .ok (.iconst 3, 1) := by decide +kernel
theorem d_law_1088 : decode code 1088 = .ok (.iadd, 1) := by decide +kernel
theorem d_law_1089 : decode code 1089 = .ok (.iaload, 1) := by decide +kernel
theorem d_law_1090 : decode code 1090 = .ok (.invokevirtual 134, 3) := by decide +kernel
theorem d_law_1093 : decode code 1093 = .ok (.aload_n 2, 1) := by decide +kernel
theorem d_law_1094 : decode code 1094 = .ok (.aload_n 0, 1) := by decide +kernel
theorem d_law_1095 : decode code 1095 = .ok (.iload_n 3, 1) := by decide +kernel
theorem d_law_1096 : decode code 1096 = .ok (.iconst 1, 1) := by decide +kernel
theorem d_law_1097 : decode code 1097 = .ok (.iadd, 1) := by decide +kernel
theorem d_law_1098 : decode code 1098 = .ok (.iaload, 1) := by decide +kernel
theorem d_law_1099 : decode code 1099 = .ok (.aload_n 0, 1) := by decide +kernel
theorem d_law_1100 : decode code 1100 = .ok (.iload_n 3, 1) := by decide +kernel
theorem d_law_1101 : decode code 1101 = .ok (.iconst 2, 1) := by decide +kernel
theorem d_law_1102 : decode code 1102 = .ok (.iadd, 1) := by decide +kernel
theorem d_law_1103 : decode code 1103 = .ok (.iaload, 1) := by decide +kernel
theorem d_law_1104 : decode code 1104 = .ok (.aload_n 0, 1) := by decide +kernel
theorem d_law_1105 : decode code 1105 = .ok (.iload_n 3, 1) := by decide +kernel
theorem d_law_1106 : decode code 1106 = .ok (.iconst 3, 1) := by decide +kernel
theorem d_law_1107 : decode code 1107 = .ok (.iadd, 1) := by decide +kernel
theorem d_law_1108 : decode code 1108 = .ok (.iaload, 1) := by decide +kernel
theorem d_law_1109 : decode code 1109 = .ok (.invokevirtual 137, 3) := by decide +kernel
theorem d_law_1112 : decode code 1112 = .ok (.if_icmp .eq 257, 3) := by decide +kernel
theorem d_law_1115 : decode code 1115 = .ok (.iconst 0, 1) := by decide +kernel
theorem d_law_1116 : decode code 1116 = .ok (.ireturn, 1) := by decide +kernel
theorem d_law_1117 : decode code 1117 = .ok (.aload_n 1, 1) := by decide +kernel
theorem d_law_1118 : decode code 1118 = .ok (.aload_n 0, 1) := by decide +kernel
theorem d_law_1119 : decode code 1119 = .ok (.iload_n 3, 1) := by decide +kernel
theorem d_law_1120 : decode code 1120 = .ok (.iconst 1, 1) := by decide +kernel
theorem d_law_1121 : decode code 1121 = .ok (.iadd, 1) := by decide +kernel
theorem d_law_1122 : decode code 1122 = .ok (.iaload, 1) := by decide +kernel
theorem d_law_1123 : decode code 1123 = .ok (.invokevirtual 138, 3) := by decide +kernel
theorem d_law_1126 : decode code 1126 = .ok (.aload_n 2, 1) := by decide +kernel
theorem d_law_1127 : decode code 1127 = .ok (.aload_n 0, 1) := by decide +kernel
theorem d_law_1128 : decode code 1128 = .ok (.iload_n 3, 1) := by decide +kernel
theorem d_law_1129 : decode code 1129 = .ok (.iconst 1, 1) := by decide +kernel
theorem d_law_1130 : decode code 1130 = .ok (.iadd, 1) := by decide +kernel
theorem d_law_1131 : decode code 1131 = .ok (.iaload, 1) := by decide +kernel
theorem d_law_1132 : decode code 1132 = .ok (.invokevirtual 141, 3) := by decide +kernel
theorem d_law_1135 : decode code 1135 = .ok (.if_icmp .eq 234, 3) := by decide +kernel
theorem d_law_1138 : decode code 1138 = .ok (.iconst 0, 1) := by decide +kernel
theorem d_law_1139 : decode code 1139 = .ok (.ireturn, 1) := by decide +kernel
theorem d_law_1140 : decode code 1140 = .ok (.aload_n 1, 1) := by decide +kernel
theorem d_law_1141 : decode code 1141 = .ok (.aload_n 0, 1) := by decide +kernel
theorem d_law_1142 : decode code 1142 = .ok (.iload_n 3, 1) := by decide +kernel
theorem d_law_1143 : decode code 1143 = .ok (.iconst 1, 1) := by decide +kernel
theorem d_law_1144 : decode code 1144 = .ok (.iadd, 1) := by decide +kernel
theorem d_law_1145 : decode code 1145 = .ok (.iaload, 1) := by decide +kernel
theorem d_law_1146 : decode code 1146 = .ok (.aload_n 0, 1) := by decide +kernel
theorem d_law_1147 : decode code 1147 = .ok (.iload_n 3, 1) := by decide +kernel
theorem d_law_1148 : decode code 1148 = .ok (.iconst 2, 1) := by decide +kernel
theorem d_law_1149 : decode code 1149 = .ok (.iadd, 1) := by decide +kernel
theorem d_law_1150 : decode code 1150 = .ok (.iaload, 1) := by decide +kernel
theorem d_law_1151 : decode code 1151 = .ok (.aload_n 0, 1) := by decide +kernel
theorem d_law_1152 : decode code 1152 = .ok (.iload_n 3, 1) := by decide +kernel
theorem d_law_1153 : decode code 1153 = .ok (.iconst 3, 1) := by decide +kernel
theorem d_law_1154 : decode code 1154 = .ok (.iadd, 1) := by decide +kernel
theorem d_law_1155 : decode code 1155 = .ok (.iaload, 1) := by decide +kernel
theorem d_law_1156 : decode code 1156 = .ok (.aload_n 0, 1) := by decide +kernel
theorem d_law_1157 : decode code 1157 = .ok (.iload_n 3, 1) := by decide +kernel
theorem d_law_1158 : decode code 1158 = .ok (.iconst 4, 1) := by decide +kernel
theorem d_law_1159 : decode code 1159 = .ok (.iadd, 1) := by decide +kernel
theorem d_law_1160 : decode code 1160 = .ok (.iaload, 1) := by decide +kernel
theorem d_law_1161 : decode code 1161 = .ok (.invokevirtual 142, 3) := by decide +kernel
theorem d_law_1164 : decode code 1164 = .ok (.aload_n 2, 1) := by decide +kernel
theorem d_law_1165 : decode code 1165 = .ok (.aload_n 0, 1) := by decide +kernel
theorem d_law_1166 : decode code 1166 = .ok (.iload_n 3, 1) := by decide +kernel
theorem d_law_1167 : decode code 1167 = .ok (.iconst 1, 1) := by decide +kernel
theorem d_law_1168 : decode code 1168 = .ok (.iadd, 1) := by decide +kernel
theorem d_law_1169 : decode code 1169 = .ok (.iaload, 1) := by decide +kernel
theorem d_law_1170 : decode code 1170 = .ok (.aload_n 0, 1) := by decide +kernel
theorem d_law_1171 : decode code 1171 = .ok (.iload_n 3, 1) := by decide +kernel
theorem d_law_1172 : decode code 1172 = .ok (.iconst 2, 1) := by decide +kernel
theorem d_law_1173 : decode code 1173 = .ok (.iadd, 1) := by decide +kernel
theorem d_law_1174 : decode code 1174 = .ok (.iaload, 1) := by decide +kernel
theorem d_law_1175 : decode code 1175 = .ok (.aload_n 0, 1) := by decide +kernel
theorem d_law_1176 : decode code 1176 = .ok (.iload_n 3, 1) := by decide +kernel
theorem d_law_1177 : decode code 1177 = .ok (.iconst 3, 1) := by decide +kernel
theorem d_law_1178 : decode code 1178 = .ok (.iadd, 1) := by decide +kernel
theorem d_law_1179 : decode code 1179 = .ok (.iaload, 1) := by decide +kernel
theorem d_law_1180 : decode code 1180 = .ok (.aload_n 0, 1) := by decide +kernel
theorem d_law_1181 : decode code 1181 = .ok (.iload_n 3, 1) := by decide +kernel
theorem d_law_1182 : decode code 1182 = .ok (.iconst 4, 1) := by decide +kernel
theorem d_law_1183 : decode code 1183 = .ok (.iadd, 1) := by decide +kernel
theorem d_law_1184 : decode code 1184 = .ok (.iaload, 1) := by decide +kernel
theorem d_law_1185 : decode code 1185 = .ok (.invokevirtual 146, 3) := by decide +kernel
theorem d_law_1188 : decode code 1188 = .ok (.if_icmp .eq 181, 3) := by decide +kernel
theorem d_law_1191 : decode code 1191 = .ok (.iconst 0, 1) := by decide +kernel
theorem d_law_1192 : decode code 1192 = .ok (.ireturn, 1) := by decide +kernel
theorem d_law_1193 : decode code 1193 = .ok (.aload_n 1, 1) := by decide +kernel
theorem d_law_1194 : decode code 1194 = .ok (.aload_n 0, 1) := by decide +kernel
theorem d_law_1195 : decode code 1195 = .ok (.iload_n 3, 1) := by decide +kernel
theorem d_law_1196 : decode code 1196 = .ok (.iconst 1, 1) := by decide +kernel
theorem d_law_1197 : decode code 1197 = .ok (.iadd, 1) := by decide +kernel
theorem d_law_1198 : decode code 1198 = .ok (.iaload, 1) := by decide +kernel
theorem d_law_1199 : decode code 1199 = .ok (.aload_n 0, 1) := by decide +kernel
theorem d_law_1200 : decode code 1200 = .ok (.iload_n 3, 1) := by decide +kernel
theorem d_law_1201 : decode code 1201 = .ok (.iconst 2, 1) := by decide +kernel
theorem d_law_1202 : decode code 1202 = .ok (.iadd, 1) := by decide +kernel
theorem d_law_1203 : decode code 1203 = .ok (.iaload, 1) := by decide +kernel
theorem d_law_1204 : decode code 1204 = .ok (.aload_n 0, 1) := by decide +kernel
theorem d_law_1205 : decode code 1205 = .ok (.iload_n 3, 1) := by decide +kernel
theorem d_law_1206 : decode code 1206 = .ok (.iconst 3, 1) := by decide +kernel
theorem d_law_1207 : decode code 1207 = .ok (.iadd, 1) := by decide +kernel
theorem d_law_1208 : decode code 1208 = .ok (.iaload, 1) := by decide +kernel
theorem d_law_1209 : decode code 1209 = .ok (.invokevirtual 147, 3) := by decide +kernel
theorem d_law_1212 : decode code 1212 = .ok (.aload_n 2, 1) := by decide +kernel
theorem d_law_1213 : decode code 1213 = .ok (.aload_n 0, 1) := by decide +kernel
theorem d_law_1214 : decode code 1214 = .ok (.iload_n 3, 1) := by decide +kernel
theorem d_law_1215 : decode code 1215 = .ok (.iconst 1, 1) := by decide +kernel
theorem d_law_1216 : decode code 1216 = .ok (.iadd, 1) := by decide +kernel
theorem d_law_1217 : decode code 1217 = .ok (.iaload, 1) := by decide +kernel
theorem d_law_1218 : decode code 1218 = .ok (.aload_n 0, 1) := by decide +kernel
theorem d_law_1219 : decode code 1219 = .ok (.iload_n 3, 1) := by decide +kernel
theorem d_law_1220 : decode code 1220 = .ok (.iconst 2, 1) := by decide +kernel
theorem d_law_1221 : decode code 1221 = .ok (.iadd, 1) := by decide +kernel
theorem d_law_1222 : decode code 1222 = .ok (.iaload, 1) := by decide +kernel
theorem d_law_1223 : decode code 1223 = .ok (.aload_n 0, 1) := by decide +kernel
theorem d_law_1224 : decode code 1224 = .ok (.iload_n 3, 1) := by decide +kernel
theorem d_law_1225 : decode code 1225 = .ok (.iconst 3, 1) := by decide +kernel
theorem d_law_1226 : decode code 1226 = .ok (.iadd, 1) := by decide +kernel
theorem d_law_1227 : decode code 1227 = .ok (.iaload, 1) := by decide +kernel
theorem d_law_1228 : decode code 1228 = .ok (.invokevirtual 150, 3) := by decide +kernel
theorem d_law_1231 : decode code 1231 = .ok (.if_icmp .eq 138, 3) := by decide +kernel
theorem d_law_1234 : decode code 1234 = .ok (.iconst 0, 1) := by decide +kernel
theorem d_law_1235 : decode code 1235 = .ok (.ireturn, 1) := by decide +kernel
theorem d_law_1236 : decode code 1236 = .ok (.aload_n 1, 1) := by decide +kernel
theorem d_law_1237 : decode code 1237 = .ok (.aload_n 0, 1) := by decide +kernel
theorem d_law_1238 : decode code 1238 = .ok (.iload_n 3, 1) := by decide +kernel
theorem d_law_1239 : decode code 1239 = .ok (.iconst 1, 1) := by decide +kernel
theorem d_law_1240 : decode code 1240 = .ok (.iadd, 1) := by decide +kernel
theorem d_law_1241 : decode code 1241 = .ok (.iaload, 1) := by decide +kernel
theorem d_law_1242 : decode code 1242 = .ok (.aload_n 0, 1) := by decide +kernel
theorem d_law_1243 : decode code 1243 = .ok (.iload_n 3, 1) := by decide +kernel
theorem d_law_1244 : decode code 1244 = .ok (.iconst 2, 1) := by decide +kernel
theorem d_law_1245 : decode code 1245 = .ok (.iadd, 1) := by decide +kernel
theorem d_law_1246 : decode code 1246 = .ok (.iaload, 1) := by decide +kernel
theorem d_law_1247 : decode code 1247 = .ok (.aload_n 0, 1) := by decide +kernel
theorem d_law_1248 : decode code 1248 = .ok (.iload_n 3, 1) := by decide +kernel
theorem d_law_1249 : decode code 1249 = .ok (.iconst 3, 1) := by decide +kernel
theorem d_law_1250 : decode code 1250 = .ok (.iadd, 1) := by decide +kernel
theorem d_law_1251 : decode code 1251 = .ok (.iaload, 1) := by decide +kernel
theorem d_law_1252 : decode code 1252 = .ok (.aload_n 0, 1) := by decide +kernel
theorem d_law_1253 : decode code 1253 = .ok (.iload_n 3, 1) := by decide +kernel
theorem d_law_1254 : decode code 1254 = .ok (.iconst 4, 1) := by decide +kernel
theorem d_law_1255 : decode code 1255 = .ok (.iadd, 1) := by decide +kernel
theorem d_law_1256 : decode code 1256 = .ok (.iaload, 1) := by decide +kernel
theorem d_law_1257 : decode code 1257 = .ok (.aload_n 0, 1) := by decide +kernel
theorem d_law_1258 : decode code 1258 = .ok (.iload_n 3, 1) := by decide +kernel
theorem d_law_1259 : decode code 1259 = .ok (.iconst 5, 1) := by decide +kernel
theorem d_law_1260 : decode code 1260 = .ok (.iadd, 1) := by decide +kernel
theorem d_law_1261 : decode code 1261 = .ok (.iaload, 1) := by decide +kernel
theorem d_law_1262 : decode code 1262 = .ok (.invokevirtual 151, 3) := by decide +kernel
theorem d_law_1265 : decode code 1265 = .ok (.aload_n 2, 1) := by decide +kernel
theorem d_law_1266 : decode code 1266 = .ok (.aload_n 0, 1) := by decide +kernel
theorem d_law_1267 : decode code 1267 = .ok (.iload_n 3, 1) := by decide +kernel
theorem d_law_1268 : decode code 1268 = .ok (.iconst 1, 1) := by decide +kernel
theorem d_law_1269 : decode code 1269 = .ok (.iadd, 1) := by decide +kernel
theorem d_law_1270 : decode code 1270 = .ok (.iaload, 1) := by decide +kernel
theorem d_law_1271 : decode code 1271 = .ok (.aload_n 0, 1) := by decide +kernel
theorem d_law_1272 : decode code 1272 = .ok (.iload_n 3, 1) := by decide +kernel
theorem d_law_1273 : decode code 1273 = .ok (.iconst 2, 1) := by decide +kernel
theorem d_law_1274 : decode code 1274 = .ok (.iadd, 1) := by decide +kernel
theorem d_law_1275 : decode code 1275 = .ok (.iaload, 1) := by decide +kernel
theorem d_law_1276 : decode code 1276 = .ok (.aload_n 0, 1) := by decide +kernel
theorem d_law_1277 : decode code 1277 = .ok (.iload_n 3, 1) := by decide +kernel
theorem d_law_1278 : decode code 1278 = .ok (.iconst 3, 1) := by decide +kernel
theorem d_law_1279 : decode code 1279 = .ok (.iadd, 1) := by decide +kernel
theorem d_law_1280 : decode code 1280 = .ok (.iaload, 1) := by decide +kernel
theorem d_law_1281 : decode code 1281 = .ok (.aload_n 0, 1) := by decide +kernel
theorem d_law_1282 : decode code 1282 = .ok (.iload_n 3, 1) := by decide +kernel
theorem d_law_1283 : decode code 1283 = .ok (.iconst 4, 1) := by decide +kernel
theorem d_law_1284 : decode code 1284 = .ok (.iadd, 1) := by decide +kernel
theorem d_law_1285 : decode code 1285 = .ok (.iaload, 1) := by decide +kernel
theorem d_law_1286 : decode code 1286 = .ok (.aload_n 0, 1) := by decide +kernel
theorem d_law_1287 : decode code 1287 = .ok (.iload_n 3, 1) := by decide +kernel
theorem d_law_1288 : decode code 1288 = .ok (.iconst 5, 1) := by decide +kernel
theorem d_law_1289 : decode code 1289 = .ok (.iadd, 1) := by decide +kernel
theorem d_law_1290 : decode code 1290 = .ok (.iaload, 1) := by decide +kernel
theorem d_law_1291 : decode code 1291 = .ok (.invokevirtual 155, 3) := by decide +kernel
theorem d_law_1294 : decode code 1294 = .ok (.if_icmp .eq 75, 3) := by decide +kernel
theorem d_law_1297 : decode code 1297 = .ok (.iconst 0, 1) := by decide +kernel
theorem d_law_1298 : decode code 1298 = .ok (.ireturn, 1) := by decide +kernel
theorem d_law_1299 : decode code 1299 = .ok (.aload_n 1, 1) := by decide +kernel
theorem d_law_1300 : decode code 1300 = .ok (.aload_n 0, 1) := by decide +kernel
theorem d_law_1301 : decode code 1301 = .ok (.iload_n 3, 1) := by decide +kernel
theorem d_law_1302 : decode code 1302 = .ok (.iconst 1, 1) := by decide +kernel
theorem d_law_1303 : decode code 1303 = .ok (.iadd, 1) := by decide +kernel
theorem d_law_1304 : decode code 1304 = .ok (.iaload, 1) := by decide +kernel
theorem d_law_1305 : decode code 1305 = .ok (.aload_n 0, 1) := by decide +kernel
theorem d_law_1306 : decode code 1306 = .ok (.iload_n 3, 1) := by decide +kernel
theorem d_law_1307 : decode code 1307 = .ok (.iconst 2, 1) := by decide +kernel
theorem d_law_1308 : decode code 1308 = .ok (.iadd, 1) := by decide +kernel
theorem d_law_1309 : decode code 1309 = .ok (.iaload, 1) := by decide +kernel
theorem d_law_1310 : decode code 1310 = .ok (.invokevirtual 156, 3) := by decide +kernel
theorem d_law_1313 : decode code 1313 = .ok (.aload_n 2, 1) := by decide +kernel
theorem d_law_1314 : decode code 1314 = .ok (.aload_n 0, 1) := by decide +kernel
theorem d_law_1315 : decode code 1315 = .ok (.iload_n 3, 1) := by decide +kernel
theorem d_law_1316 : decode code 1316 = .ok (.iconst 1, 1) := by decide +kernel
theorem d_law_1317 : decode code 1317 = .ok (.iadd, 1) := by decide +kernel
theorem d_law_1318 : decode code 1318 = .ok (.iaload, 1) := by decide +kernel
theorem d_law_1319 : decode code 1319 = .ok (.aload_n 0, 1) := by decide +kernel
theorem d_law_1320 : decode code 1320 = .ok (.iload_n 3, 1) := by decide +kernel
theorem d_law_1321 : decode code 1321 = .ok (.iconst 2, 1) := by decide +kernel
theorem d_law_1322 : decode code 1322 = .ok (.iadd, 1) := by decide +kernel
theorem d_law_1323 : decode code 1323 = .ok (.iaload, 1) := by decide +kernel
theorem d_law_1324 : decode code 1324 = .ok (.invokevirtual 159, 3) := by decide +kernel
theorem d_law_1327 : decode code 1327 = .ok (.if_icmp .eq 42, 3) := by decide +kernel
theorem d_law_1330 : decode code 1330 = .ok (.iconst 0, 1) := by decide +kernel
theorem d_law_1331 : decode code 1331 = .ok (.ireturn, 1) := by decide +kernel
theorem d_law_1332 : decode code 1332 = .ok (.aload_n 1, 1) := by decide +kernel
theorem d_law_1333 : decode code 1333 = .ok (.aload_n 0, 1) := by decide +kernel
theorem d_law_1334 : decode code 1334 = .ok (.iload_n 3, 1) := by decide +kernel
theorem d_law_1335 : decode code 1335 = .ok (.iconst 1, 1) := by decide +kernel
theorem d_law_1336 : decode code 1336 = .ok (.iadd, 1) := by decide +kernel
theorem d_law_1337 : decode code 1337 = .ok (.iaload, 1) := by decide +kernel
theorem d_law_1338 : decode code 1338 = .ok (.invokevirtual 160, 3) := by decide +kernel
theorem d_law_1341 : decode code 1341 = .ok (.aload_n 2, 1) := by decide +kernel
theorem d_law_1342 : decode code 1342 = .ok (.aload_n 0, 1) := by decide +kernel
theorem d_law_1343 : decode code 1343 = .ok (.iload_n 3, 1) := by decide +kernel
theorem d_law_1344 : decode code 1344 = .ok (.iconst 1, 1) := by decide +kernel
theorem d_law_1345 : decode code 1345 = .ok (.iadd, 1) := by decide +kernel
theorem d_law_1346 : decode code 1346 = .ok (.iaload, 1) := by decide +kernel
theorem d_law_1347 : decode code 1347 = .ok (.invokevirtual 163, 3) := by decide +kernel
theorem d_law_1350 : decode code 1350 = .ok (.if_icmp .eq 19, 3) := by decide +kernel
theorem d_law_1353 : decode code 1353 = .ok (.iconst 0, 1) := by decide +kernel
theorem d_law_1354 : decode code 1354 = .ok (.ireturn, 1) := by decide +kernel
theorem d_law_1355 : decode code 1355 = .ok (.aload_n 1, 1) := by decide +kernel
theorem d_law_1356 : decode code 1356 = .ok (.invokevirtual 164, 3) := by decide +kernel
theorem d_law_1359 : decode code 1359 = .ok (.aload_n 2, 1) := by decide +kernel
theorem d_law_1360 : decode code 1360 = .ok (.invokevirtual 168, 3) := by decide +kernel
theorem d_law_1363 : decode code 1363 = .ok (.lcmp, 1) := by decide +kernel
theorem d_law_1364 : decode code 1364 = .ok (.ifCond .eq 5, 3) := by decide +kernel
theorem d_law_1367 : decode code 1367 = .ok (.iconst 0, 1) := by decide +kernel
theorem d_law_1368 : decode code 1368 = .ok (.ireturn, 1) := by decide +kernel
theorem d_law_1369 : decode code 1369 = .ok (.iinc 3 6, 3) := by decide +kernel
theorem d_law_1372 : decode code 1372 = .ok (.goto (-1354), 3) := by decide +kernel
theorem d_law_1375 : decode code 1375 = .ok (.iconst 1, 1) := by decide +kernel
theorem d_law_1376 : decode code 1376 = .ok (.ireturn, 1) := by decide +kernel
