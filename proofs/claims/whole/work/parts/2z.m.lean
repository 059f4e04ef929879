theorem dL_law_0 : decode cL_law 0 = .ok (.new 7, 3) := by decide +kernel
theorem dL_law_3 : decode cL_law 3 = .ok (.dup, 1) := by decide +kernel
theorem dL_law_4 : decode cL_law 4 = .ok (.invokespecial 9, 3) := by decide +kernel
theorem dL_law_7 : decode cL_law 7 = .ok (.astore_n 1, 1) := by decide +kernel
theorem dL_law_8 : decode cL_law 8 = .ok (.new 10, 3) := by decide +kernel
theorem dL_law_11 : decode cL_law 11 = .ok (.dup, 1) := by decide +kernel
theorem dL_law_12 : decode cL_law 12 = .ok (.invokespecial 12, 3) := by decide +kernel
theorem dL_law_15 : decode cL_law 15 = .ok (.astore_n 2, 1) := by decide +kernel
theorem dL_law_16 : decode cL_law 16 = .ok (.iconst 0, 1) := by decide +kernel
theorem dL_law_17 : decode cL_law 17 = .ok (.istore_n 3, 1) := by decide +kernel
theorem dL_law_18 : decode cL_law 18 = .ok (.iload_n 3, 1) := by decide +kernel
theorem dL_law_19 : decode cL_law 19 = .ok (.aload_n 0, 1) := by decide +kernel
theorem dL_law_20 : decode cL_law 20 = .ok (.arraylength, 1) := by decide +kernel
theorem dL_law_21 : decode cL_law 21 = .ok (.bipush 8, 2) := by decide +kernel
theorem dL_law_23 : decode cL_law 23 = .ok (.isub, 1) := by decide +kernel
theorem dL_law_24 : decode cL_law 24 = .ok (.if_icmp .gt 1882, 3) := by decide +kernel
theorem dL_law_27 : decode cL_law 27 = .ok (.aload_n 0, 1) := by decide +kernel
theorem dL_law_28 : decode cL_law 28 = .ok (.iload_n 3, 1) := by decide +kernel
theorem dL_law_29 : decode cL_law 29 = .ok (.iaload, 1) := by decide +kernel
theorem dL_law_30 : decode cL_law 30 = .ok (.bipush 63, 2) := by decide +kernel
theorem dL_law_32 : decode cL_law 32 = .ok (.iand, 1) := by decide +kernel
theorem dL_law_33 : decode cL_law 33 = .ok (.tableswitch 1867 0 43 #[191, 224, 267, 300, 353, 376, 429, 492, 515, 528, 551, 620, 653, 692, 741, 754, 787, 820, 853, 887, 921, 944, 957, 981, 994, 1017, 1040, 1063, 1132, 1223, 1282, 1373, 1386, 1429, 1452, 1486, 1509, 1600, 1703, 1726, 1769, 1782, 1805, 1844], 191) := by decide +kernel
theorem dL_law_224 : decode cL_law 224 = .ok (.aload_n 1, 1) := by decide +kernel
theorem dL_law_225 : decode cL_law 225 = .ok (.aload_n 0, 1) := by decide +kernel
theorem dL_law_226 : decode cL_law 226 = .ok (.iload_n 3, 1) := by decide +kernel
theorem dL_law_227 : decode cL_law 227 = .ok (.iconst 1, 1) := by decide +kernel
theorem dL_law_228 : decode cL_law 228 = .ok (.iadd, 1) := by decide +kernel
theorem dL_law_229 : decode cL_law 229 = .ok (.iaload, 1) := by decide +kernel
theorem dL_law_230 : decode cL_law 230 = .ok (.aload_n 0, 1) := by decide +kernel
theorem dL_law_231 : decode cL_law 231 = .ok (.iload_n 3, 1) := by decide +kernel
theorem dL_law_232 : decode cL_law 232 = .ok (.iconst 2, 1) := by decide +kernel
theorem dL_law_233 : decode cL_law 233 = .ok (.iadd, 1) := by decide +kernel
theorem dL_law_234 : decode cL_law 234 = .ok (.iaload, 1) := by decide +kernel
theorem dL_law_235 : decode cL_law 235 = .ok (.invokevirtual 13, 3) := by decide +kernel
theorem dL_law_238 : decode cL_law 238 = .ok (.aload_n 2, 1) := by decide +kernel
theorem dL_law_239 : decode cL_law 239 = .ok (.aload_n 0, 1) := by decide +kernel
theorem dL_law_240 : decode cL_law 240 = .ok (.iload_n 3, 1) := by decide +kernel
theorem dL_law_241 : decode cL_law 241 = .ok (.iconst 1, 1) := by decide +kernel
theorem dL_law_242 : decode cL_law 242 = .ok (.iadd, 1) := by decide +kernel
theorem dL_law_243 : decode cL_law 243 = .ok (.iaload, 1) := by decide +kernel
theorem dL_law_244 : decode cL_law 244 = .ok (.aload_n 0, 1) := by decide +kernel
theorem dL_law_245 : decode cL_law 245 = .ok (.iload_n 3, 1) := by decide +kernel
theorem dL_law_246 : decode cL_law 246 = .ok (.iconst 2, 1) := by decide +kernel
theorem dL_law_247 : decode cL_law 247 = .ok (.iadd, 1) := by decide +kernel
theorem dL_law_248 : decode cL_law 248 = .ok (.iaload, 1) := by decide +kernel
theorem dL_law_249 : decode cL_law 249 = .ok (.invokevirtual 17, 3) := by decide +kernel
theorem dL_law_252 : decode cL_law 252 = .ok (.if_icmp .eq 1648, 3) := by decide +kernel
theorem dL_law_255 : decode cL_law 255 = .ok (.iconst 0, 1) := by decide +kernel
theorem dL_law_256 : decode cL_law 256 = .ok (.ireturn, 1) := by decide +kernel
theorem dL_law_257 : decode cL_law 257 = .ok (.aload_n 1, 1) := by decide +kernel
theorem dL_law_258 : decode cL_law 258 = .ok (.aload_n 0, 1) := by decide +kernel
theorem dL_law_259 : decode cL_law 259 = .ok (.iload_n 3, 1) := by decide +kernel
theorem dL_law_260 : decode cL_law 260 = .ok (.iconst 1, 1) := by decide +kernel
theorem dL_law_261 : decode cL_law 261 = .ok (.iadd, 1) := by decide +kernel
theorem dL_law_262 : decode cL_law 262 = .ok (.iaload, 1) := by decide +kernel
theorem dL_law_263 : decode cL_law 263 = .ok (.aload_n 0, 1) := by decide +kernel
theorem dL_law_264 : decode cL_law 264 = .ok (.iload_n 3, 1) := by decide +kernel
theorem dL_law_265 : decode cL_law 265 = .ok (.iconst 2, 1) := by decide +kernel
theorem dL_law_266 : decode cL_law 266 = .ok (.iadd, 1) := by decide +kernel
theorem dL_law_267 : decode cL_law 267 = .ok (.iaload, 1) := by decide +kernel
theorem dL_law_268 : decode cL_law 268 = .ok (.aload_n 0, 1) := by decide +kernel
theorem dL_law_269 : decode cL_law 269 = .ok (.iload_n 3, 1) := by decide +kernel
theorem dL_law_270 : decode cL_law 270 = .ok (.iconst 3, 1) := by decide +kernel
theorem dL_law_271 : decode cL_law 271 = .ok (.iadd, 1) := by decide +kernel
theorem dL_law_272 : decode cL_law 272 = .ok (.iaload, 1) := by decide +kernel
theorem dL_law_273 : decode cL_law 273 = .ok (.invokevirtual 18, 3) := by decide +kernel
theorem dL_law_276 : decode cL_law 276 = .ok (.aload_n 2, 1) := by decide +kernel
theorem dL_law_277 : decode cL_law 277 = .ok (.aload_n 0, 1) := by decide +kernel
theorem dL_law_278 : decode cL_law 278 = .ok (.iload_n 3, 1) := by decide +kernel
theorem dL_law_279 : decode cL_law 279 = .ok (.iconst 1, 1) := by decide +kernel
theorem dL_law_280 : decode cL_law 280 = .ok (.iadd, 1) := by decide +kernel
theorem dL_law_281 : decode cL_law 281 = .ok (.iaload, 1) := by decide +kernel
theorem dL_law_282 : decode cL_law 282 = .ok (.aload_n 0, 1) := by decide +kernel
theorem dL_law_283 : decode cL_law 283 = .ok (.iload_n 3, 1) := by decide +kernel
theorem dL_law_284 : decode cL_law 284 = .ok (.iconst 2, 1) := by decide +kernel
theorem dL_law_285 : decode cL_law 285 = .ok (.iadd, 1) := by decide +kernel
theorem dL_law_286 : decode cL_law 286 = .ok (.iaload, 1) := by decide +kernel
theorem dL_law_287 : decode cL_law 287 = .ok (.aload_n 0, 1) := by decide +kernel
theorem dL_law_288 : decode cL_law 288 = .ok (.iload_n 3, 1) := by decide +kernel
theorem dL_law_289 : decode cL_law 289 = .ok (.iconst 3, 1) := by decide +kernel
theorem dL_law_290 : decode cL_law 290 = .ok (.iadd, 1) := by decide +kernel
theorem dL_law_291 : decode cL_law 291 = .ok (.iaload, 1) := by decide +kernel
theorem dL_law_292 : decode cL_law 292 = .ok (.invokevirtual 22, 3) := by decide +kernel
theorem dL_law_295 : decode cL_law 295 = .ok (.if_icmp .eq 1605, 3) := by decide +kernel
theorem dL_law_298 : decode cL_law 298 = .ok (.iconst 0, 1) := by decide +kernel
theorem dL_law_299 : decode cL_law 299 = .ok (.ireturn, 1) := by decide +kernel
theorem dL_law_300 : decode cL_law 300 = .ok (.aload_n 1, 1) := by decide +kernel
theorem dL_law_301 : decode cL_law 301 = .ok (.aload_n 0, 1) := by decide +kernel
theorem dL_law_302 : decode cL_law 302 = .ok (.iload_n 3, 1) := by decide +kernel
theorem dL_law_303 : decode cL_law 303 = .ok (.iconst 1, 1) := by decide +kernel
theorem dL_law_304 : decode cL_law 304 = .ok (.iadd, 1) := by decide +kernel
theorem dL_law_305 : decode cL_law 305 = .ok (.iaload, 1) := by decide +kernel
theorem dL_law_306 : decode cL_law 306 = .ok (.aload_n 0, 1) := by decide +kernel
theorem dL_law_307 : decode cL_law 307 = .ok (.iload_n 3, 1) := by decide +kernel
theorem dL_law_308 : decode cL_law 308 = .ok (.iconst 2, 1) := by decide +kernel
theorem dL_law_309 : decode cL_law 309 = .ok (.iadd, 1) := by decide +kernel
theorem dL_law_310 : decode cL_law 310 = .ok (.iaload, 1) := by decide +kernel
theorem dL_law_311 : decode cL_law 311 = .ok (.invokevirtual 23, 3) := by decide +kernel
theorem dL_law_314 : decode cL_law 314 = .ok (.aload_n 2, 1) := by decide +kernel
theorem dL_law_315 : decode cL_law 315 = .ok (.aload_n 0, 1) := by decide +kernel
theorem dL_law_316 : decode cL_law 316 = .ok (.iload_n 3, 1) := by decide +kernel
theorem dL_law_317 : decode cL_law 317 = .ok (.iconst 1, 1) := by decide +kernel
theorem dL_law_318 : decode cL_law 318 = .ok (.iadd, 1) := by decide +kernel
theorem dL_law_319 : decode cL_law 319 = .ok (.iaload, 1) := by decide +kernel
theorem dL_law_320 : decode cL_law 320 = .ok (.aload_n 0, 1) := by decide +kernel
theorem dL_law_321 : decode cL_law 321 = .ok (.iload_n 3, 1) := by decide +kernel
theorem dL_law_322 : decode cL_law 322 = .ok (.iconst 2, 1) := by decide +kernel
theorem dL_law_323 : decode cL_law 323 = .ok (.iadd, 1) := by decide +kernel
theorem dL_law_324 : decode cL_law 324 = .ok (.iaload, 1) := by decide +kernel
theorem dL_law_325 : decode cL_law 325 = .ok (.invokevirtual 27, 3) := by decide +kernel
theorem dL_law_328 : decode cL_law 328 = .ok (.if_icmp .eq 1572, 3) := by decide +kernel
theorem dL_law_331 : decode cL_law 331 = .ok (.iconst 0, 1) := by decide +kernel
theorem dL_law_332 : decode cL_law 332 = .ok (.ireturn, 1) := by decide +kernel
theorem dL_law_333 : decode cL_law 333 = .ok (.aload_n 1, 1) := by decide +kernel
theorem dL_law_334 : decode cL_law 334 = .ok (.aload_n 0, 1) := by decide +kernel
theorem dL_law_335 : decode cL_law 335 = .ok (.iload_n 3, 1) := by decide +kernel
theorem dL_law_336 : decode cL_law 336 = .ok (.iconst 1, 1) := by decide +kernel
theorem dL_law_337 : decode cL_law 337 = .ok (.iadd, 1) := by decide +kernel
theorem dL_law_338 : decode cL_law 338 = .ok (.iaload, 1) := by decide +kernel
theorem dL_law_339 : decode cL_law 339 = .ok (.aload_n 0, 1) := by decide +kernel
theorem dL_law_340 : decode cL_law 340 = .ok (.iload_n 3, 1) := by decide +kernel
theorem dL_law_341 : decode cL_law 341 = .ok (.iconst 2, 1) := by decide +kernel
theorem dL_law_342 : decode cL_law 342 = .ok (.iadd, 1) := by decide +kernel
theorem dL_law_343 : decode cL_law 343 = .ok (.iaload, 1) := by decide +kernel
theorem dL_law_344 : decode cL_law 344 = .ok (.aload_n 0, 1) := by decide +kernel
theorem dL_law_345 : decode cL_law 345 = .ok (.iload_n 3, 1) := by decide +kernel
theorem dL_law_346 : decode cL_law 346 = .ok (.iconst 3, 1) := by decide +kernel
theorem dL_law_347 : decode cL_law 347 = .ok (.iadd, 1) := by decide +kernel
theorem dL_law_348 : decode cL_law 348 = .ok (.iaload, 1) := by decide +kernel
theorem dL_law_349 : decode cL_law 349 = .ok (.aload_n 0, 1) := by decide +kernel
theorem dL_law_350 : decode cL_law 350 = .ok (.iload_n 3, 1) := by decide +kernel
theorem dL_law_351 : decode cL_law 351 = .ok (.iconst 4, 1) := by decide +kernel
theorem dL_law_352 : decode cL_law 352 = .ok (.iadd, 1) := by decide +kernel
theorem dL_law_353 : decode cL_law 353 = .ok (.iaload, 1) := by decide +kernel
theorem dL_law_354 : decode cL_law 354 = .ok (.invokevirtual 28, 3) := by decide +kernel
theorem dL_law_357 : decode cL_law 357 = .ok (.aload_n 2, 1) := by decide +kernel
theorem dL_law_358 : decode cL_law 358 = .ok (.aload_n 0, 1) := by decide +kernel
theorem dL_law_359 : decode cL_law 359 = .ok (.iload_n 3, 1) := by decide +kernel
theorem dL_law_360 : decode cL_law 360 = .ok (.iconst 1, 1) := by decide +kernel
theorem dL_law_361 : decode cL_law 361 = .ok (.iadd, 1) := by decide +kernel
theorem dL_law_362 : decode cL_law 362 = .ok (.iaload, 1) := by decide +kernel
theorem dL_law_363 : decode cL_law 363 = .ok (.aload_n 0, 1) := by decide +kernel
theorem dL_law_364 : decode cL_law 364 = .ok (.iload_n 3, 1) := by decide +kernel
theorem dL_law_365 : decode cL_law 365 = .ok (.iconst 2, 1) := by decide +kernel
theorem dL_law_366 : decode cL_law 366 = .ok (.iadd, 1) := by decide +kernel
theorem dL_law_367 : decode cL_law 367 = .ok (.iaload, 1) := by decide +kernel
theorem dL_law_368 : decode cL_law 368 = .ok (.aload_n 0, 1) := by decide +kernel
theorem dL_law_369 : decode cL_law 369 = .ok (.iload_n 3, 1) := by decide +kernel
theorem dL_law_370 : decode cL_law 370 = .ok (.iconst 3, 1) := by decide +kernel
theorem dL_law_371 : decode cL_law 371 = .ok (.iadd, 1) := by decide +kernel
theorem dL_law_372 : decode cL_law 372 = .ok (.iaload, 1) := by decide +kernel
theorem dL_law_373 : decode cL_law 373 = .ok (.aload_n 0, 1) := by decide +kernel
theorem dL_law_374 : decode cL_law 374 = .ok (.iload_n 3, 1) := by decide +kernel
theorem dL_law_375 : decode cL_law 375 = .ok (.iconst 4, 1) := by decide +kernel
theorem dL_law_376 : decode cL_law 376 = .ok (.iadd, 1) := by decide +kernel
theorem dL_law_377 : decode cL_law 377 = .ok (.iaload, 1) := by decide +kernel
theorem dL_law_378 : decode cL_law 378 = .ok (.invokevirtual 32, 3) := by decide +kernel
theorem dL_law_381 : decode cL_law 381 = .ok (.if_icmp .eq 1519, 3) := by decide +kernel
theorem dL_law_384 : decode cL_law 384 = .ok (.iconst 0, 1) := by decide +kernel
theorem dL_law_385 : decode cL_law 385 = .ok (.ireturn, 1) := by decide +kernel
theorem dL_law_386 : decode cL_law 386 = .ok (.aload_n 1, 1) := by decide +kernel
theorem dL_law_387 : decode cL_law 387 = .ok (.aload_n 0, 1) := by decide +kernel
theorem dL_law_388 : decode cL_law 388 = .ok (.iload_n 3, 1) := by decide +kernel
theorem dL_law_389 : decode cL_law 389 = .ok (.iconst 1, 1) := by decide +kernel
theorem dL_law_390 : decode cL_law 390 = .ok (.iadd, 1) := by decide +kernel
theorem dL_law_391 : decode cL_law 391 = .ok (.iaload, 1) := by decide +kernel
theorem dL_law_392 : decode cL_law 392 = .ok (.invokevirtual 33, 3) := by decide +kernel
theorem dL_law_395 : decode cL_law 395 = .ok (.aload_n 2, 1) := by decide +kernel
theorem dL_law_396 : decode cL_law 396 = .ok (.aload_n 0, 1) := by decide +kernel
theorem dL_law_397 : decode cL_law 397 = .ok (.iload_n 3, 1) := by decide +kernel
theorem dL_law_398 : decode cL_law 398 = .ok (.iconst 1, 1) := by decide +kernel
theorem dL_law_399 : decode cL_law 399 = .ok (.iadd, 1) := by decide +kernel
theorem dL_law_400 : decode cL_law 400 = .ok (.iaload, 1) := by decide +kernel
theorem dL_law_401 : decode cL_law 401 = .ok (.invokevirtual 37, 3) := by decide +kernel
theorem dL_law_404 : decode cL_law 404 = .ok (.if_icmp .eq 1496, 3) := by decide +kernel
theorem dL_law_407 : decode cL_law 407 = .ok (.iconst 0, 1) := by decide +kernel
theorem dL_law_408 : decode cL_law 408 = .ok (.ireturn, 1) := by decide +kernel
theorem dL_law_409 : decode cL_law 409 = .ok (.aload_n 1, 1) := by decide +kernel
theorem dL_law_410 : decode cL_law 410 = .ok (.aload_n 0, 1) := by decide +kernel
theorem dL_law_411 : decode cL_law 411 = .ok (.iload_n 3, 1) := by decide +kernel
theorem dL_law_412 : decode cL_law 412 = .ok (.iconst 1, 1) := by decide +kernel
theorem dL_law_413 : decode cL_law 413 = .ok (.iadd, 1) := by decide +kernel
theorem dL_law_414 : decode cL_law 414 = .ok (.iaload, 1) := by decide +kernel
theorem dL_law_415 : decode cL_law 415 = .ok (.aload_n 0, 1) := by decide +kernel
theorem dL_law_416 : decode cL_law 416 = .ok (.iload_n 3, 1) := by decide +kernel
theorem dL_law_417 : decode cL_law 417 = .ok (.iconst 2, 1) := by decide +kernel
theorem dL_law_418 : decode cL_law 418 = .ok (.iadd, 1) := by decide +kernel
theorem dL_law_419 : decode cL_law 419 = .ok (.iaload, 1) := by decide +kernel
theorem dL_law_420 : decode cL_law 420 = .ok (.aload_n 0, 1) := by decide +kernel
theorem dL_law_421 : decode cL_law 421 = .ok (.iload_n 3, 1) := by decide +kernel
theorem dL_law_422 : decode cL_law 422 = .ok (.iconst 3, 1) := by decide +kernel
theorem dL_law_423 : decode cL_law 423 = .ok (.iadd, 1) := by decide +kernel
theorem dL_law_424 : decode cL_law 424 = .ok (.iaload, 1) := by decide +kernel
theorem dL_law_425 : decode cL_law 425 = .ok (.aload_n 0, 1) := by decide +kernel
theorem dL_law_426 : decode cL_law 426 = .ok (.iload_n 3, 1) := by decide +kernel
theorem dL_law_427 : decode cL_law 427 = .ok (.iconst 4, 1) := by decide +kernel
theorem dL_law_428 : decode cL_law 428 = .ok (.iadd, 1) := by decide +kernel
theorem dL_law_429 : decode cL_law 429 = .ok (.iaload, 1) := by decide +kernel
theorem dL_law_430 : decode cL_law 430 = .ok (.invokevirtual 38, 3) := by decide +kernel
theorem dL_law_433 : decode cL_law 433 = .ok (.aload_n 2, 1) := by decide +kernel
theorem dL_law_434 : decode cL_law 434 = .ok (.aload_n 0, 1) := by decide +kernel
theorem dL_law_435 : decode cL_law 435 = .ok (.iload_n 3, 1) := by decide +kernel
theorem dL_law_436 : decode cL_law 436 = .ok (.iconst 1, 1) := by decide +kernel
theorem dL_law_437 : decode cL_law 437 = .ok (.iadd, 1) := by decide +kernel
theorem dL_law_438 : decode cL_law 438 = .ok (.iaload, 1) := by decide +kernel
theorem dL_law_439 : decode cL_law 439 = .ok (.aload_n 0, 1) := by decide +kernel
theorem dL_law_440 : decode cL_law 440 = .ok (.iload_n 3, 1) := by decide +kernel
theorem dL_law_441 : decode cL_law 441 = .ok (.iconst 2, 1) := by decide +kernel
theorem dL_law_442 : decode cL_law 442 = .ok (.iadd, 1) := by decide +kernel
theorem dL_law_443 : decode cL_law 443 = .ok (.iaload, 1) := by decide +kernel
theorem dL_law_444 : decode cL_law 444 = .ok (.aload_n 0, 1) := by decide +kernel
theorem dL_law_445 : decode cL_law 445 = .ok (.iload_n 3, 1) := by decide +kernel
theorem dL_law_446 : decode cL_law 446 = .ok (.iconst 3, 1) := by decide +kernel
theorem dL_law_447 : decode cL_law 447 = .ok (.iadd, 1) := by decide +kernel
theorem dL_law_448 : decode cL_law 448 = .ok (.iaload, 1) := by decide +kernel
theorem dL_law_449 : decode cL_law 449 = .ok (.aload_n 0, 1) := by decide +kernel
theorem dL_law_450 : decode cL_law 450 = .ok (.iload_n 3, 1) := by decide +kernel
theorem dL_law_451 : decode cL_law 451 = .ok (.iconst 4, 1) := by decide +kernel
theorem dL_law_452 : decode cL_law 452 = .ok (.iadd, 1) := by decide +kernel
theorem dL_law_453 : decode cL_law 453 = .ok (.iaload, 1) := by decide +kernel
theorem dL_law_454 : decode cL_law 454 = .ok (.invokevirtual 41, 3) := by decide +kernel
theorem dL_law_457 : decode cL_law 457 = .ok (.if_icmp .eq 1443, 3) := by decide +kernel
theorem dL_law_460 : decode cL_law 460 = .ok (.iconst 0, 1) := by decide +kernel
theorem dL_law_461 : decode cL_law 461 = .ok (.ireturn, 1) := by decide +kernel
theorem dL_law_462 : decode cL_law 462 = .ok (.aload_n 1, 1) := by decide +kernel
theorem dL_law_463 : decode cL_law 463 = .ok (.aload_n 0, 1) := by decide +kernel
theorem dL_law_464 : decode cL_law 464 = .ok (.iload_n 3, 1) := by decide +kernel
theorem dL_law_465 : decode cL_law 465 = .ok (.iconst 1, 1) := by decide +kernel
theorem dL_law_466 : decode cL_law 466 = .ok (.iadd, 1) := by decide +kernel
theorem dL_law_467 : decode cL_law 467 = .ok (.iaload, 1) := by decide +kernel
theorem dL_law_468 : decode cL_law 468 = .ok (.aload_n 0, 1) := by decide +kernel
theorem dL_law_469 : decode cL_law 469 = .ok (.iload_n 3, 1) := by decide +kernel
theorem dL_law_470 : decode cL_law 470 = .ok (.iconst 2, 1) := by decide +kernel
theorem dL_law_471 : decode cL_law 471 = .ok (.iadd, 1) := by decide +kernel
theorem dL_law_472 : decode cL_law 472 = .ok (.iaload, 1) := by decide +kernel
theorem dL_law_473 : decode cL_law 473 = .ok (.aload_n 0, 1) := by decide +kernel
theorem dL_law_474 : decode cL_law 474 = .ok (.iload_n 3, 1) := by decide +kernel
theorem dL_law_475 : decode cL_law 475 = .ok (.iconst 3, 1) := by decide +kernel
theorem dL_law_476 : decode cL_law 476 = .ok (.iadd, 1) := by decide +kernel
theorem dL_law_477 : decode cL_law 477 = .ok (.iaload, 1) := by decide +kernel
theorem dL_law_478 : decode cL_law 478 = .ok (.aload_n 0, 1) := by decide +kernel
theorem dL_law_479 : decode cL_law 479 = .ok (.iload_n 3, 1) := by decide +kernel
theorem dL_law_480 : decode cL_law 480 = .ok (.iconst 4, 1) := by decide +kernel
theorem dL_law_481 : decode cL_law 481 = .ok (.iadd, 1) := by decide +kernel
theorem dL_law_482 : decode cL_law 482 = .ok (.iaload, 1) := by decide +kernel
theorem dL_law_483 : decode cL_law 483 = .ok (.aload_n 0, 1) := by decide +kernel
theorem dL_law_484 : decode cL_law 484 = .ok (.iload_n 3, 1) := by decide +kernel
theorem dL_law_485 : decode cL_law 485 = .ok (.iconst 5, 1) := by decide +kernel
theorem dL_law_486 : decode cL_law 486 = .ok (.iadd, 1) := by decide +kernel
theorem dL_law_487 : decode cL_law 487 = .ok (.iaload, 1) := by decide +kernel
theorem dL_law_488 : decode cL_law 488 = .ok (.invokevirtual 42, 3) := by decide +kernel
theorem dL_law_491 : decode cL_law 491 = .ok (.aload_n 2, 1) := by decide +kernel
theorem dL_law_492 : decode cL_law 492 = .ok (.aload_n 0, 1) := by decide +kernel
theorem dL_law_493 : decode cL_law 493 = .ok (.iload_n 3, 1) := by decide +kernel
theorem dL_law_494 : decode cL_law 494 = .ok (.iconst 1, 1) := by decide +kernel
theorem dL_law_495 : decode cL_law 495 = .ok (.iadd, 1) := by decide +kernel
theorem dL_law_496 : decode cL_law 496 = .ok (.iaload, 1) := by decide +kernel
theorem dL_law_497 : decode cL_law 497 = .ok (.aload_n 0, 1) := by decide +kernel
theorem dL_law_498 : decode cL_law 498 = .ok (.iload_n 3, 1) := by decide +kernel
theorem dL_law_499 : decode cL_law 499 = .ok (.iconst 2, 1) := by decide +kernel
theorem dL_law_500 : decode cL_law 500 = .ok (.iadd, 1) := by decide +kernel
theorem dL_law_501 : decode cL_law 501 = .ok (.iaload, 1) := by decide +kernel
theorem dL_law_502 : decode cL_law 502 = .ok (.aload_n 0, 1) := by decide +kernel
theorem dL_law_503 : decode cL_law 503 = .ok (.iload_n 3, 1) := by decide +kernel
theorem dL_law_504 : decode cL_law 504 = .ok (.iconst 3, 1) := by decide +kernel
theorem dL_law_505 : decode cL_law 505 = .ok (.iadd, 1) := by decide +kernel
theorem dL_law_506 : decode cL_law 506 = .ok (.iaload, 1) := by decide +kernel
theorem dL_law_507 : decode cL_law 507 = .ok (.aload_n 0, 1) := by decide +kernel
theorem dL_law_508 : decode cL_law 508 = .ok (.iload_n 3, 1) := by decide +kernel
theorem dL_law_509 : decode cL_law 509 = .ok (.iconst 4, 1) := by decide +kernel
theorem dL_law_510 : decode cL_law 510 = .ok (.iadd, 1) := by decide +kernel
theorem dL_law_511 : decode cL_law 511 = .ok (.iaload, 1) := by decide +kernel
theorem dL_law_512 : decode cL_law 512 = .ok (.aload_n 0, 1) := by decide +kernel
theorem dL_law_513 : decode cL_law 513 = .ok (.iload_n 3, 1) := by decide +kernel
theorem dL_law_514 : decode cL_law 514 = .ok (.iconst 5, 1) := by decide +kernel
theorem dL_law_515 : decode cL_law 515 = .ok (.iadd, 1) := by decide +kernel
theorem dL_law_516 : decode cL_law 516 = .ok (.iaload, 1) := by decide +kernel
theorem dL_law_517 : decode cL_law 517 = .ok (.invokevirtual 46, 3) := by decide +kernel
theorem dL_law_520 : decode cL_law 520 = .ok (.if_icmp .eq 1380, 3) := by decide +kernel
theorem dL_law_523 : decode cL_law 523 = .ok (.iconst 0, 1) := by decide +kernel
theorem dL_law_524 : decode cL_law 524 = .ok (.ireturn, 1) := by decide +kernel
theorem dL_law_525 : decode cL_law 525 = .ok (.aload_n 1, 1) := by decide +kernel
theorem dL_law_526 : decode cL_law 526 = .ok (.aload_n 0, 1) := by decide +kernel
theorem dL_law_527 : decode cL_law 527 = .ok (.iload_n 3, 1) := by decide +kernel
theorem dL_law_528 : decode cL_law 528 = .ok (.iconst 1, 1) := by decide +kernel
theorem dL_law_529 : decode cL_law 529 = .ok (.iadd, 1) := by decide +kernel
theorem dL_law_530 : decode cL_law 530 = .ok (.iaload, 1) := by decide +kernel
theorem dL_law_531 : decode cL_law 531 = .ok (.invokevirtual 47, 3) := by decide +kernel
theorem dL_law_534 : decode cL_law 534 = .ok (.aload_n 2, 1) := by decide +kernel
theorem dL_law_535 : decode cL_law 535 = .ok (.aload_n 0, 1) := by decide +kernel
theorem dL_law_536 : decode cL_law 536 = .ok (.iload_n 3, 1) := by decide +kernel
theorem dL_law_537 : decode cL_law 537 = .ok (.iconst 1, 1) := by decide +kernel
theorem dL_law_538 : decode cL_law 538 = .ok (.iadd, 1) := by decide +kernel
theorem dL_law_539 : decode cL_law 539 = .ok (.iaload, 1) := by decide +kernel
theorem dL_law_540 : decode cL_law 540 = .ok (.invokevirtual 50, 3) := by decide +kernel
theorem dL_law_543 : decode cL_law 543 = .ok (.if_icmp .eq 1357, 3) := by decide +kernel
theorem dL_law_546 : decode cL_law 546 = .ok (.iconst 0, 1) := by decide +kernel
theorem dL_law_547 : decode cL_law 547 = .ok (.ireturn, 1) := by decide +kernel
theorem dL_law_548 : decode cL_law 548 = .ok (.aload_n 1, 1) := by decide +kernel
theorem dL_law_549 : decode cL_law 549 = .ok (.invokevirtual 51, 3) := by decide +kernel
theorem dL_law_552 : decode cL_law 552 = .ok (.aload_n 2, 1) := by decide +kernel
theorem dL_law_553 : decode cL_law 553 = .ok (.invokevirtual 55, 3) := by decide +kernel
theorem dL_law_556 : decode cL_law 556 = .ok (.if_icmp .eq 1344, 3) := by decide +kernel
theorem dL_law_559 : decode cL_law 559 = .ok (.iconst 0, 1) := by decide +kernel
theorem dL_law_560 : decode cL_law 560 = .ok (.ireturn, 1) := by decide +kernel
theorem dL_law_561 : decode cL_law 561 = .ok (.aload_n 1, 1) := by decide +kernel
theorem dL_law_562 : decode cL_law 562 = .ok (.aload_n 0, 1) := by decide +kernel
theorem dL_law_563 : decode cL_law 563 = .ok (.iload_n 3, 1) := by decide +kernel
theorem dL_law_564 : decode cL_law 564 = .ok (.iconst 1, 1) := by decide +kernel
theorem dL_law_565 : decode cL_law 565 = .ok (.iadd, 1) := by decide +kernel
theorem dL_law_566 : decode cL_law 566 = .ok (.iaload, 1) := by decide +kernel
theorem dL_law_567 : decode cL_law 567 = .ok (.invokevirtual 56, 3) := by decide +kernel
theorem dL_law_570 : decode cL_law 570 = .ok (.aload_n 2, 1) := by decide +kernel
theorem dL_law_571 : decode cL_law 571 = .ok (.aload_n 0, 1) := by decide +kernel
theorem dL_law_572 : decode cL_law 572 = .ok (.iload_n 3, 1) := by decide +kernel
theorem dL_law_573 : decode cL_law 573 = .ok (.iconst 1, 1) := by decide +kernel
theorem dL_law_574 : decode cL_law 574 = .ok (.iadd, 1) := by decide +kernel
theorem dL_law_575 : decode cL_law 575 = .ok (.iaload, 1) := by decide +kernel
theorem dL_law_576 : decode cL_law 576 = .ok (.invokevirtual 60, 3) := by decide +kernel
theorem dL_law_579 : decode cL_law 579 = .ok (.if_icmp .eq 1321, 3) := by decide +kernel
theorem dL_law_582 : decode cL_law 582 = .ok (.iconst 0, 1) := by decide +kernel
theorem dL_law_583 : decode cL_law 583 = .ok (.ireturn, 1) := by decide +kernel
theorem dL_law_584 : decode cL_law 584 = .ok (.aload_n 1, 1) := by decide +kernel
theorem dL_law_585 : decode cL_law 585 = .ok (.aload_n 0, 1) := by decide +kernel
theorem dL_law_586 : decode cL_law 586 = .ok (.iload_n 3, 1) := by decide +kernel
theorem dL_law_587 : decode cL_law 587 = .ok (.iconst 1, 1) := by decide +kernel
theorem dL_law_588 : decode cL_law 588 = .ok (.iadd, 1) := by decide +kernel
theorem dL_law_589 : decode cL_law 589 = .ok (.iaload, 1) := by decide +kernel
theorem dL_law_590 : decode cL_law 590 = .ok (.aload_n 0, 1) := by decide +kernel
theorem dL_law_591 : decode cL_law 591 = .ok (.iload_n 3, 1) := by decide +kernel
theorem dL_law_592 : decode cL_law 592 = .ok (.iconst 2, 1) := by decide +kernel
theorem dL_law_593 : decode cL_law 593 = .ok (.iadd, 1) := by decide +kernel
theorem dL_law_594 : decode cL_law 594 = .ok (.iaload, 1) := by decide +kernel
theorem dL_law_595 : decode cL_law 595 = .ok (.aload_n 0, 1) := by decide +kernel
theorem dL_law_596 : decode cL_law 596 = .ok (.iload_n 3, 1) := by decide +kernel
theorem dL_law_597 : decode cL_law 597 = .ok (.iconst 3, 1) := by decide +kernel
theorem dL_law_598 : decode cL_law 598 = .ok (.iadd, 1) := by decide +kernel
theorem dL_law_599 : decode cL_law 599 = .ok (.iaload, 1) := by decide +kernel
theorem dL_law_600 : decode cL_law 600 = .ok (.aload_n 0, 1) := by decide +kernel
theorem dL_law_601 : decode cL_law 601 = .ok (.iload_n 3, 1) := by decide +kernel
theorem dL_law_602 : decode cL_law 602 = .ok (.iconst 4, 1) := by decide +kernel
theorem dL_law_603 : decode cL_law 603 = .ok (.iadd, 1) := by decide +kernel
theorem dL_law_604 : decode cL_law 604 = .ok (.iaload, 1) := by decide +kernel
theorem dL_law_605 : decode cL_law 605 = .ok (.ifCond .eq 7, 3) := by decide +kernel
theorem dL_law_608 : decode cL_law 608 = .ok (.iconst 1, 1) := by decide +kernel
theorem dL_law_609 : decode cL_law 609 = .ok (.goto 4, 3) := by decide +kernel
theorem dL_law_612 : decode cL_law 612 = .ok (.iconst 0, 1) := by decide +kernel
theorem dL_law_613 : decode cL_law 613 = .ok (.invokevirtual 61, 3) := by decide +kernel
theorem dL_law_616 : decode cL_law 616 = .ok (.aload_n 2, 1) := by decide +kernel
theorem dL_law_617 : decode cL_law 617 = .ok (.aload_n 0, 1) := by decide +kernel
theorem dL_law_618 : decode cL_law 618 = .ok (.iload_n 3, 1) := by decide +kernel
theorem dL_law_619 : decode cL_law 619 = .ok (.iconst 1, 1) := by decide +kernel
theorem dL_law_620 : decode cL_law 620 = .ok (.iadd, 1) := by decide +kernel
theorem dL_law_621 : decode cL_law 621 = .ok (.iaload, 1) := by decide +kernel
theorem dL_law_622 : decode cL_law 622 = .ok (.aload_n 0, 1) := by decide +kernel
theorem dL_law_623 : decode cL_law 623 = .ok (.iload_n 3, 1) := by decide +kernel
theorem dL_law_624 : decode cL_law 624 = .ok (.iconst 2, 1) := by decide +kernel
theorem dL_law_625 : decode cL_law 625 = .ok (.iadd, 1) := by decide +kernel
theorem dL_law_626 : decode cL_law 626 = .ok (.iaload, 1) := by decide +kernel
theorem dL_law_627 : decode cL_law 627 = .ok (.aload_n 0, 1) := by decide +kernel
theorem dL_law_628 : decode cL_law 628 = .ok (.iload_n 3, 1) := by decide +kernel
theorem dL_law_629 : decode cL_law 629 = .ok (.iconst 3, 1) := by decide +kernel
theorem dL_law_630 : decode cL_law 630 = .ok (.iadd, 1) := by decide +kernel
theorem dL_law_631 : decode cL_law 631 = .ok (.iaload, 1) := by decide +kernel
theorem dL_law_632 : decode cL_law 632 = .ok (.aload_n 0, 1) := by decide +kernel
theorem dL_law_633 : decode cL_law 633 = .ok (.iload_n 3, 1) := by decide +kernel
theorem dL_law_634 : decode cL_law 634 = .ok (.iconst 4, 1) := by decide +kernel
theorem dL_law_635 : decode cL_law 635 = .ok (.iadd, 1) := by decide +kernel
theorem dL_law_636 : decode cL_law 636 = .ok (.iaload, 1) := by decide +kernel
theorem dL_law_637 : decode cL_law 637 = .ok (.ifCond .eq 7, 3) := by decide +kernel
theorem dL_law_640 : decode cL_law 640 = .ok (.iconst 1, 1) := by decide +kernel
theorem dL_law_641 : decode cL_law 641 = .ok (.goto 4, 3) := by decide +kernel
theorem dL_law_644 : decode cL_law 644 = .ok (.iconst 0, 1) := by decide +kernel
theorem dL_law_645 : decode cL_law 645 = .ok (.invokevirtual 65, 3) := by decide +kernel
theorem dL_law_648 : decode cL_law 648 = .ok (.if_icmp .eq 1252, 3) := by decide +kernel
theorem dL_law_651 : decode cL_law 651 = .ok (.iconst 0, 1) := by decide +kernel
theorem dL_law_652 : decode cL_law 652 = .ok (.ireturn, 1) := by decide +kernel
theorem dL_law_653 : decode cL_law 653 = .ok (.aload_n 1, 1) := by decide +kernel
theorem dL_law_654 : decode cL_law 654 = .ok (.aload_n 0, 1) := by decide +kernel
theorem dL_law_655 : decode cL_law 655 = .ok (.iload_n 3, 1) := by decide +kernel
theorem dL_law_656 : decode cL_law 656 = .ok (.iconst 1, 1) := by decide +kernel
theorem dL_law_657 : decode cL_law 657 = .ok (.iadd, 1) := by decide +kernel
theorem dL_law_658 : decode cL_law 658 = .ok (.iaload, 1) := by decide +kernel
theorem dL_law_659 : decode cL_law 659 = .ok (.aload_n 0, 1) := by decide +kernel
theorem dL_law_660 : decode cL_law 660 = .ok (.iload_n 3, 1) := by decide +kernel
theorem dL_law_661 : decode cL_law 661 = .ok (.iconst 2, 1) := by decide +kernel
theorem dL_law_662 : decode cL_law 662 = .ok (.iadd, 1) := by decide +kernel
theorem dL_law_663 : decode cL_law 663 = .ok (.iaload, 1) := by decide +kernel
theorem dL_law_664 : decode cL_law 664 = .ok (.invokevirtual 66, 3) := by decide +kernel
theorem dL_law_667 : decode cL_law 667 = .ok (.aload_n 2, 1) := by decide +kernel
theorem dL_law_668 : decode cL_law 668 = .ok (.aload_n 0, 1) := by decide +kernel
theorem dL_law_669 : decode cL_law 669 = .ok (.iload_n 3, 1) := by decide +kernel
theorem dL_law_670 : decode cL_law 670 = .ok (.iconst 1, 1) := by decide +kernel
theorem dL_law_671 : decode cL_law 671 = .ok (.iadd, 1) := by decide +kernel
theorem dL_law_672 : decode cL_law 672 = .ok (.iaload, 1) := by decide +kernel
theorem dL_law_673 : decode cL_law 673 = .ok (.aload_n 0, 1) := by decide +kernel
theorem dL_law_674 : decode cL_law 674 = .ok (.iload_n 3, 1) := by decide +kernel
theorem dL_law_675 : decode cL_law 675 = .ok (.iconst 2, 1) := by decide +kernel
theorem dL_law_676 : decode cL_law 676 = .ok (.iadd, 1) := by decide +kernel
theorem dL_law_677 : decode cL_law 677 = .ok (.iaload, 1) := by decide +kernel
theorem dL_law_678 : decode cL_law 678 = .ok (.invokevirtual 69, 3) := by decide +kernel
theorem dL_law_681 : decode cL_law 681 = .ok (.if_icmp .eq 1219, 3) := by decide +kernel
theorem dL_law_684 : decode cL_law 684 = .ok (.iconst 0, 1) := by decide +kernel
theorem dL_law_685 : decode cL_law 685 = .ok (.ireturn, 1) := by decide +kernel
theorem dL_law_686 : decode cL_law 686 = .ok (.aload_n 1, 1) := by decide +kernel
theorem dL_law_687 : decode cL_law 687 = .ok (.aload_n 0, 1) := by decide +kernel
theorem dL_law_688 : decode cL_law 688 = .ok (.iload_n 3, 1) := by decide +kernel
theorem dL_law_689 : decode cL_law 689 = .ok (.iconst 1, 1) := by decide +kernel
theorem dL_law_690 : decode cL_law 690 = .ok (.iadd, 1) := by decide +kernel
theorem dL_law_691 : decode cL_law 691 = .ok (.iaload, 1) := by decide +kernel
theorem dL_law_692 : decode cL_law 692 = .ok (.ifCond .eq 7, 3) := by decide +kernel
theorem dL_law_695 : decode cL_law 695 = .ok (.iconst 1, 1) := by decide +kernel
theorem dL_law_696 : decode cL_law 696 = .ok (.goto 4, 3) := by decide +kernel
theorem dL_law_699 : decode cL_law 699 = .ok (.iconst 0, 1) := by decide +kernel
theorem dL_law_700 : decode cL_law 700 = .ok (.invokevirtual 70, 3) := by decide +kernel
theorem dL_law_703 : decode cL_law 703 = .ok (.aload_n 2, 1) := by decide +kernel
theorem dL_law_704 : decode cL_law 704 = .ok (.aload_n 0, 1) := by decide +kernel
theorem dL_law_705 : decode cL_law 705 = .ok (.iload_n 3, 1) := by decide +kernel
theorem dL_law_706 : decode cL_law 706 = .ok (.iconst 1, 1) := by decide +kernel
theorem dL_law_707 : decode cL_law 707 = .ok (.iadd, 1) := by decide +kernel
theorem dL_law_708 : decode cL_law 708 = .ok (.iaload, 1) := by decide +kernel
theorem dL_law_709 : decode cL_law 709 = .ok (.ifCond .eq 7, 3) := by decide +kernel
theorem dL_law_712 : decode cL_law 712 = .ok (.iconst 1, 1) := by decide +kernel
theorem dL_law_713 : decode cL_law 713 = .ok (.goto 4, 3) := by decide +kernel
theorem dL_law_716 : decode cL_law 716 = .ok (.iconst 0, 1) := by decide +kernel
theorem dL_law_717 : decode cL_law 717 = .ok (.invokevirtual 74, 3) := by decide +kernel
theorem dL_law_720 : decode cL_law 720 = .ok (.if_icmp .eq 1180, 3) := by decide +kernel
theorem dL_law_723 : decode cL_law 723 = .ok (.iconst 0, 1) := by decide +kernel
theorem dL_law_724 : decode cL_law 724 = .ok (.ireturn, 1) := by decide +kernel
theorem dL_law_725 : decode cL_law 725 = .ok (.aload_n 1, 1) := by decide +kernel
theorem dL_law_726 : decode cL_law 726 = .ok (.aload_n 0, 1) := by decide +kernel
theorem dL_law_727 : decode cL_law 727 = .ok (.iload_n 3, 1) := by decide +kernel
theorem dL_law_728 : decode cL_law 728 = .ok (.iconst 1, 1) := by decide +kernel
theorem dL_law_729 : decode cL_law 729 = .ok (.iadd, 1) := by decide +kernel
theorem dL_law_730 : decode cL_law 730 = .ok (.iaload, 1) := by decide +kernel
theorem dL_law_731 : decode cL_law 731 = .ok (.aload_n 0, 1) := by decide +kernel
theorem dL_law_732 : decode cL_law 732 = .ok (.iload_n 3, 1) := by decide +kernel
theorem dL_law_733 : decode cL_law 733 = .ok (.iconst 2, 1) := by decide +kernel
theorem dL_law_734 : decode cL_law 734 = .ok (.iadd, 1) := by decide +kernel
theorem dL_law_735 : decode cL_law 735 = .ok (.iaload, 1) := by decide +kernel
theorem dL_law_736 : decode cL_law 736 = .ok (.ifCond .eq 7, 3) := by decide +kernel
theorem dL_law_739 : decode cL_law 739 = .ok (.iconst 1, 1) := by decide +kernel
theorem dL_law_740 : decode cL_law 740 = .ok (.goto 4, 3) := by decide +kernel
theorem dL_law_743 : decode cL_law 743 = .ok (.iconst 0, 1) := by decide +kernel
theorem dL_law_744 : decode cL_law 744 = .ok (.invokevirtual 75, 3) := by decide +kernel
theorem dL_law_747 : decode cL_law 747 = .ok (.aload_n 2, 1) := by decide +kernel
theorem dL_law_748 : decode cL_law 748 = .ok (.aload_n 0, 1) := by decide +kernel
theorem dL_law_749 : decode cL_law 749 = .ok (.iload_n 3, 1) := by decide +kernel
theorem dL_law_750 : decode cL_law 750 = .ok (.iconst 1, 1) := by decide +kernel
theorem dL_law_751 : decode cL_law 751 = .ok (.iadd, 1) := by decide +kernel
theorem dL_law_752 : decode cL_law 752 = .ok (.iaload, 1) := by decide +kernel
theorem dL_law_753 : decode cL_law 753 = .ok (.aload_n 0, 1) := by decide +kernel
theorem dL_law_754 : decode cL_law 754 = .ok (.iload_n 3, 1) := by decide +kernel
theorem dL_law_755 : decode cL_law 755 = .ok (.iconst 2, 1) := by decide +kernel
theorem dL_law_756 : decode cL_law 756 = .ok (.iadd, 1) := by decide +kernel
theorem dL_law_757 : decode cL_law 757 = .ok (.iaload, 1) := by decide +kernel
theorem dL_law_758 : decode cL_law 758 = .ok (.ifCond .eq 7, 3) := by decide +kernel
theorem dL_law_761 : decode cL_law 761 = .ok (.iconst 1, 1) := by decide +kernel
theorem dL_law_762 : decode cL_law 762 = .ok (.goto 4, 3) := by decide +kernel
theorem dL_law_765 : decode cL_law 765 = .ok (.iconst 0, 1) := by decide +kernel
theorem dL_law_766 : decode cL_law 766 = .ok (.invokevirtual 79, 3) := by decide +kernel
theorem dL_law_769 : decode cL_law 769 = .ok (.if_icmp .eq 1131, 3) := by decide +kernel
theorem dL_law_772 : decode cL_law 772 = .ok (.iconst 0, 1) := by decide +kernel
theorem dL_law_773 : decode cL_law 773 = .ok (.ireturn, 1) := by decide +kernel
theorem dL_law_774 : decode cL_law 774 = .ok (.aload_n 1, 1) := by decide +kernel
theorem dL_law_775 : decode cL_law 775 = .ok (.invokevirtual 80, 3) := by decide +kernel
theorem dL_law_778 : decode cL_law 778 = .ok (.aload_n 2, 1) := by decide +kernel
theorem dL_law_779 : decode cL_law 779 = .ok (.invokevirtual 83, 3) := by decide +kernel
theorem dL_law_782 : decode cL_law 782 = .ok (.if_icmp .eq 1118, 3) := by decide +kernel
theorem dL_law_785 : decode cL_law 785 = .ok (.iconst 0, 1) := by decide +kernel
theorem dL_law_786 : decode cL_law 786 = .ok (.ireturn, 1) := by decide +kernel
theorem dL_law_787 : decode cL_law 787 = .ok (.aload_n 1, 1) := by decide +kernel
theorem dL_law_788 : decode cL_law 788 = .ok (.aload_n 0, 1) := by decide +kernel
theorem dL_law_789 : decode cL_law 789 = .ok (.iload_n 3, 1) := by decide +kernel
theorem dL_law_790 : decode cL_law 790 = .ok (.iconst 1, 1) := by decide +kernel
theorem dL_law_791 : decode cL_law 791 = .ok (.iadd, 1) := by decide +kernel
theorem dL_law_792 : decode cL_law 792 = .ok (.iaload, 1) := by decide +kernel
theorem dL_law_793 : decode cL_law 793 = .ok (.aload_n 0, 1) := by decide +kernel
theorem dL_law_794 : decode cL_law 794 = .ok (.iload_n 3, 1) := by decide +kernel
theorem dL_law_795 : decode cL_law 795 = .ok (.iconst 2, 1) := by decide +kernel
theorem dL_law_796 : decode cL_law 796 = .ok (.iadd, 1) := by decide +kernel
theorem dL_law_797 : decode cL_law 797 = .ok (.iaload, 1) := by decide +kernel
theorem dL_law_798 : decode cL_law 798 = .ok (.invokevirtual 84, 3) := by decide +kernel
theorem dL_law_801 : decode cL_law 801 = .ok (.aload_n 2, 1) := by decide +kernel
theorem dL_law_802 : decode cL_law 802 = .ok (.aload_n 0, 1) := by decide +kernel
theorem dL_law_803 : decode cL_law 803 = .ok (.iload_n 3, 1) := by decide +kernel
theorem dL_law_804 : decode cL_law 804 = .ok (.iconst 1, 1) := by decide +kernel
theorem dL_law_805 : decode cL_law 805 = .ok (.iadd, 1) := by decide +kernel
theorem dL_law_806 : decode cL_law 806 = .ok (.iaload, 1) := by decide +kernel
theorem dL_law_807 : decode cL_law 807 = .ok (.aload_n 0, 1) := by decide +kernel
theorem dL_law_808 : decode cL_law 808 = .ok (.iload_n 3, 1) := by decide +kernel
theorem dL_law_809 : decode cL_law 809 = .ok (.iconst 2, 1) := by decide +kernel
theorem dL_law_810 : decode cL_law 810 = .ok (.iadd, 1) := by decide +kernel
theorem dL_law_811 : decode cL_law 811 = .ok (.iaload, 1) := by decide +kernel
theorem dL_law_812 : decode cL_law 812 = .ok (.invokevirtual 87, 3) := by decide +kernel
theorem dL_law_815 : decode cL_law 815 = .ok (.if_icmp .eq 1085, 3) := by decide +kernel
theorem dL_law_818 : decode cL_law 818 = .ok (.iconst 0, 1) := by decide +kernel
theorem dL_law_819 : decode cL_law 819 = .ok (.ireturn, 1) := by decide +kernel
theorem dL_law_820 : decode cL_law 820 = .ok (.aload_n 1, 1) := by decide +kernel
theorem dL_law_821 : decode cL_law 821 = .ok (.aload_n 0, 1) := by decide +kernel
theorem dL_law_822 : decode cL_law 822 = .ok (.iload_n 3, 1) := by decide +kernel
theorem dL_law_823 : decode cL_law 823 = .ok (.iconst 1, 1) := by decide +kernel
theorem dL_law_824 : decode cL_law 824 = .ok (.iadd, 1) := by decide +kernel
theorem dL_law_825 : decode cL_law 825 = .ok (.iaload, 1) := by decide +kernel
theorem dL_law_826 : decode cL_law 826 = .ok (.aload_n 0, 1) := by decide +kernel
theorem dL_law_827 : decode cL_law 827 = .ok (.iload_n 3, 1) := by decide +kernel
theorem dL_law_828 : decode cL_law 828 = .ok (.iconst 2, 1) := by decide +kernel
theorem dL_law_829 : decode cL_law 829 = .ok (.iadd, 1) := by decide +kernel
theorem dL_law_830 : decode cL_law 830 = .ok (.iaload, 1) := by decide +kernel
theorem dL_law_831 : decode cL_law 831 = .ok (.invokevirtual 88, 3) := by decide +kernel
theorem dL_law_834 : decode cL_law 834 = .ok (.aload_n 2, 1) := by decide +kernel
theorem dL_law_835 : decode cL_law 835 = .ok (.aload_n 0, 1) := by decide +kernel
theorem dL_law_836 : decode cL_law 836 = .ok (.iload_n 3, 1) := by decide +kernel
theorem dL_law_837 : decode cL_law 837 = .ok (.iconst 1, 1) := by decide +kernel
theorem dL_law_838 : decode cL_law 838 = .ok (.iadd, 1) := by decide +kernel
theorem dL_law_839 : decode cL_law 839 = .ok (.iaload, 1) := by decide +kernel
theorem dL_law_840 : decode cL_law 840 = .ok (.aload_n 0, 1) := by decide +kernel
theorem dL_law_841 : decode cL_law 841 = .ok (.iload_n 3, 1) := by decide +kernel
theorem dL_law_842 : decode cL_law 842 = .ok (.iconst 2, 1) := by decide +kernel
theorem dL_law_843 : decode cL_law 843 = .ok (.iadd, 1) := by decide +kernel
theorem dL_law_844 : decode cL_law 844 = .ok (.iaload, 1) := by decide +kernel
theorem dL_law_845 : decode cL_law 845 = .ok (.invokevirtual 91, 3) := by decide +kernel
theorem dL_law_848 : decode cL_law 848 = .ok (.if_icmp .eq 1052, 3) := by decide +kernel
theorem dL_law_851 : decode cL_law 851 = .ok (.iconst 0, 1) := by decide +kernel
theorem dL_law_852 : decode cL_law 852 = .ok (.ireturn, 1) := by decide +kernel
theorem dL_law_853 : decode cL_law 853 = .ok (.aload_n 1, 1) := by decide +kernel
theorem dL_law_854 : decode cL_law 854 = .ok (.aload_n 0, 1) := by decide +kernel
theorem dL_law_855 : decode cL_law 855 = .ok (.iload_n 3, 1) := by decide +kernel
theorem dL_law_856 : decode cL_law 856 = .ok (.iconst 1, 1) := by decide +kernel
theorem dL_law_857 : decode cL_law 857 = .ok (.iadd, 1) := by decide +kernel
theorem dL_law_858 : decode cL_law 858 = .ok (.iaload, 1) := by decide +kernel
theorem dL_law_859 : decode cL_law 859 = .ok (.aload_n 0, 1) := by decide +kernel
theorem dL_law_860 : decode cL_law 860 = .ok (.iload_n 3, 1) := by decide +kernel
theorem dL_law_861 : decode cL_law 861 = .ok (.iconst 2, 1) := by decide +kernel
theorem dL_law_862 : decode cL_law 862 = .ok (.iadd, 1) := by decide +kernel
theorem dL_law_863 : decode cL_law 863 = .ok (.iaload, 1) := by decide +kernel
theorem dL_law_864 : decode cL_law 864 = .ok (.invokevirtual 92, 3) := by decide +kernel
theorem dL_law_867 : decode cL_law 867 = .ok (.aload_n 2, 1) := by decide +kernel
theorem dL_law_868 : decode cL_law 868 = .ok (.aload_n 0, 1) := by decide +kernel
theorem dL_law_869 : decode cL_law 869 = .ok (.iload_n 3, 1) := by decide +kernel
theorem dL_law_870 : decode cL_law 870 = .ok (.iconst 1, 1) := by decide +kernel
theorem dL_law_871 : decode cL_law 871 = .ok (.iadd, 1) := by decide +kernel
theorem dL_law_872 : decode cL_law 872 = .ok (.iaload, 1) := by decide +kernel
theorem dL_law_873 : decode cL_law 873 = .ok (.aload_n 0, 1) := by decide +kernel
theorem dL_law_874 : decode cL_law 874 = .ok (.iload_n 3, 1) := by decide +kernel
theorem dL_law_875 : decode cL_law 875 = .ok (.iconst 2, 1) := by decide +kernel
theorem dL_law_876 : decode cL_law 876 = .ok (.iadd, 1) := by decide +kernel
theorem dL_law_877 : decode cL_law 877 = .ok (.iaload, 1) := by decide +kernel
theorem dL_law_878 : decode cL_law 878 = .ok (.invokevirtual 95, 3) := by decide +kernel
theorem dL_law_881 : decode cL_law 881 = .ok (.if_icmp .eq 1019, 3) := by decide +kernel
theorem dL_law_884 : decode cL_law 884 = .ok (.iconst 0, 1) := by decide +kernel
theorem dL_law_885 : decode cL_law 885 = .ok (.ireturn, 1) := by decide +kernel
theorem dL_law_886 : decode cL_law 886 = .ok (.aload_n 1, 1) := by decide +kernel
theorem dL_law_887 : decode cL_law 887 = .ok (.aload_n 0, 1) := by decide +kernel
theorem dL_law_888 : decode cL_law 888 = .ok (.iload_n 3, 1) := by decide +kernel
theorem dL_law_889 : decode cL_law 889 = .ok (.iconst 1, 1) := by decide +kernel
theorem dL_law_890 : decode cL_law 890 = .ok (.iadd, 1) := by decide +kernel
theorem dL_law_891 : decode cL_law 891 = .ok (.iaload, 1) := by decide +kernel
theorem dL_law_892 : decode cL_law 892 = .ok (.aload_n 0, 1) := by decide +kernel
theorem dL_law_893 : decode cL_law 893 = .ok (.iload_n 3, 1) := by decide +kernel
theorem dL_law_894 : decode cL_law 894 = .ok (.iconst 2, 1) := by decide +kernel
theorem dL_law_895 : decode cL_law 895 = .ok (.iadd, 1) := by decide +kernel
theorem dL_law_896 : decode cL_law 896 = .ok (.iaload, 1) := by decide +kernel
theorem dL_law_897 : decode cL_law 897 = .ok (.invokevirtual 96, 3) := by decide +kernel
theorem dL_law_900 : decode cL_law 900 = .ok (.aload_n 2, 1) := by decide +kernel
theorem dL_law_901 : decode cL_law 901 = .ok (.aload_n 0, 1) := by decide +kernel
theorem dL_law_902 : decode cL_law 902 = .ok (.iload_n 3, 1) := by decide +kernel
theorem dL_law_903 : decode cL_law 903 = .ok (.iconst 1, 1) := by decide +kernel
theorem dL_law_904 : decode cL_law 904 = .ok (.iadd, 1) := by decide +kernel
theorem dL_law_905 : decode cL_law 905 = .ok (.iaload, 1) := by decide +kernel
theorem dL_law_906 : decode cL_law 906 = .ok (.aload_n 0, 1) := by decide +kernel
theorem dL_law_907 : decode cL_law 907 = .ok (.iload_n 3, 1) := by decide +kernel
theorem dL_law_908 : decode cL_law 908 = .ok (.iconst 2, 1) := by decide +kernel
theorem dL_law_909 : decode cL_law 909 = .ok (.iadd, 1) := by decide +kernel
theorem dL_law_910 : decode cL_law 910 = .ok (.iaload, 1) := by decide +kernel
theorem dL_law_911 : decode cL_law 911 = .ok (.invokevirtual 100, 3) := by decide +kernel
theorem dL_law_914 : decode cL_law 914 = .ok (.lcmp, 1) := by decide +kernel
theorem dL_law_915 : decode cL_law 915 = .ok (.ifCond .eq 985, 3) := by decide +kernel
theorem dL_law_918 : decode cL_law 918 = .ok (.iconst 0, 1) := by decide +kernel
theorem dL_law_919 : decode cL_law 919 = .ok (.ireturn, 1) := by decide +kernel
theorem dL_law_920 : decode cL_law 920 = .ok (.aload_n 1, 1) := by decide +kernel
theorem dL_law_921 : decode cL_law 921 = .ok (.aload_n 0, 1) := by decide +kernel
theorem dL_law_922 : decode cL_law 922 = .ok (.iload_n 3, 1) := by decide +kernel
theorem dL_law_923 : decode cL_law 923 = .ok (.iconst 1, 1) := by decide +kernel
theorem dL_law_924 : decode cL_law 924 = .ok (.iadd, 1) := by decide +kernel
theorem dL_law_925 : decode cL_law 925 = .ok (.iaload, 1) := by decide +kernel
theorem dL_law_926 : decode cL_law 926 = .ok (.aload_n 0, 1) := by decide +kernel
theorem dL_law_927 : decode cL_law 927 = .ok (.iload_n 3, 1) := by decide +kernel
theorem dL_law_928 : decode cL_law 928 = .ok (.iconst 2, 1) := by decide +kernel
theorem dL_law_929 : decode cL_law 929 = .ok (.iadd, 1) := by decide +kernel
theorem dL_law_930 : decode cL_law 930 = .ok (.iaload, 1) := by decide +kernel
theorem dL_law_931 : decode cL_law 931 = .ok (.invokevirtual 101, 3) := by decide +kernel
theorem dL_law_934 : decode cL_law 934 = .ok (.aload_n 2, 1) := by decide +kernel
theorem dL_law_935 : decode cL_law 935 = .ok (.aload_n 0, 1) := by decide +kernel
theorem dL_law_936 : decode cL_law 936 = .ok (.iload_n 3, 1) := by decide +kernel
theorem dL_law_937 : decode cL_law 937 = .ok (.iconst 1, 1) := by decide +kernel
theorem dL_law_938 : decode cL_law 938 = .ok (.iadd, 1) := by decide +kernel
theorem dL_law_939 : decode cL_law 939 = .ok (.iaload, 1) := by decide +kernel
theorem dL_law_940 : decode cL_law 940 = .ok (.aload_n 0, 1) := by decide +kernel
theorem dL_law_941 : decode cL_law 941 = .ok (.iload_n 3, 1) := by decide +kernel
theorem dL_law_942 : decode cL_law 942 = .ok (.iconst 2, 1) := by decide +kernel
theorem dL_law_943 : decode cL_law 943 = .ok (.iadd, 1) := by decide +kernel
theorem dL_law_944 : decode cL_law 944 = .ok (.iaload, 1) := by decide +kernel
theorem dL_law_945 : decode cL_law 945 = .ok (.invokevirtual 104, 3) := by decide +kernel
theorem dL_law_948 : decode cL_law 948 = .ok (.lcmp, 1) := by decide +kernel
theorem dL_law_949 : decode cL_law 949 = .ok (.ifCond .eq 951, 3) := by decide +kernel
theorem dL_law_952 : decode cL_law 952 = .ok (.iconst 0, 1) := by decide +kernel
theorem dL_law_953 : decode cL_law 953 = .ok (.ireturn, 1) := by decide +kernel
theorem dL_law_954 : decode cL_law 954 = .ok (.aload_n 1, 1) := by decide +kernel
theorem dL_law_955 : decode cL_law 955 = .ok (.aload_n 0, 1) := by decide +kernel
theorem dL_law_956 : decode cL_law 956 = .ok (.iload_n 3, 1) := by decide +kernel
theorem dL_law_957 : decode cL_law 957 = .ok (.iconst 1, 1) := by decide +kernel
theorem dL_law_958 : decode cL_law 958 = .ok (.iadd, 1) := by decide +kernel
theorem dL_law_959 : decode cL_law 959 = .ok (.iaload, 1) := by decide +kernel
theorem dL_law_960 : decode cL_law 960 = .ok (.invokevirtual 105, 3) := by decide +kernel
theorem dL_law_963 : decode cL_law 963 = .ok (.aload_n 2, 1) := by decide +kernel
theorem dL_law_964 : decode cL_law 964 = .ok (.aload_n 0, 1) := by decide +kernel
theorem dL_law_965 : decode cL_law 965 = .ok (.iload_n 3, 1) := by decide +kernel
theorem dL_law_966 : decode cL_law 966 = .ok (.iconst 1, 1) := by decide +kernel
theorem dL_law_967 : decode cL_law 967 = .ok (.iadd, 1) := by decide +kernel
theorem dL_law_968 : decode cL_law 968 = .ok (.iaload, 1) := by decide +kernel
theorem dL_law_969 : decode cL_law 969 = .ok (.invokevirtual 108, 3) := by decide +kernel
theorem dL_law_972 : decode cL_law 972 = .ok (.if_icmp .eq 928, 3) := by decide +kernel
theorem dL_law_975 : decode cL_law 975 = .ok (.iconst 0, 1) := by decide +kernel
theorem dL_law_976 : decode cL_law 976 = .ok (.ireturn, 1) := by decide +kernel
theorem dL_law_977 : decode cL_law 977 = .ok (.aload_n 1, 1) := by decide +kernel
theorem dL_law_978 : decode cL_law 978 = .ok (.invokevirtual 109, 3) := by decide +kernel
theorem dL_law_981 : decode cL_law 981 = .ok (.aload_n 2, 1) := by decide +kernel
theorem dL_law_982 : decode cL_law 982 = .ok (.invokevirtual 112, 3) := by decide +kernel
theorem dL_law_985 : decode cL_law 985 = .ok (.if_icmp .eq 915, 3) := by decide +kernel
theorem dL_law_988 : decode cL_law 988 = .ok (.iconst 0, 1) := by decide +kernel
theorem dL_law_989 : decode cL_law 989 = .ok (.ireturn, 1) := by decide +kernel
theorem dL_law_990 : decode cL_law 990 = .ok (.aload_n 1, 1) := by decide +kernel
theorem dL_law_991 : decode cL_law 991 = .ok (.aload_n 0, 1) := by decide +kernel
theorem dL_law_992 : decode cL_law 992 = .ok (.iload_n 3, 1) := by decide +kernel
theorem dL_law_993 : decode cL_law 993 = .ok (.iconst 1, 1) := by decide +kernel
theorem dL_law_994 : decode cL_law 994 = .ok (.iadd, 1) := by decide +kernel
theorem dL_law_995 : decode cL_law 995 = .ok (.iaload, 1) := by decide +kernel
theorem dL_law_996 : decode cL_law 996 = .ok (.invokevirtual 113, 3) := by decide +kernel
theorem dL_law_999 : decode cL_law 999 = .ok (.aload_n 2, 1) := by decide +kernel
theorem dL_law_1000 : decode cL_law 1000 = .ok (.aload_n 0, 1) := by decide +kernel
theorem dL_law_1001 : decode cL_law 1001 = .ok (.iload_n 3, 1) := by decide +kernel
theorem dL_law_1002 : decode cL_law 1002 = .ok (.iconst 1, 1) := by decide +kernel
theorem dL_law_1003 : decode cL_law 1003 = .ok (.iadd, 1) := by decide +kernel
theorem dL_law_1004 : decode cL_law 1004 = .ok (.iaload, 1) := by decide +kernel
theorem dL_law_1005 : decode cL_law 1005 = .ok (.invokevirtual 117, 3) := by decide +kernel
theorem dL_law_1008 : decode cL_law 1008 = .ok (.lcmp, 1) := by decide +kernel
theorem dL_law_1009 : decode cL_law 1009 = .ok (.ifCond .eq 891, 3) := by decide +kernel
theorem dL_law_1012 : decode cL_law 1012 = .ok (.iconst 0, 1) := by decide +kernel
theorem dL_law_1013 : decode cL_law 1013 = .ok (.ireturn, 1) := by decide +kernel
theorem dL_law_1014 : decode cL_law 1014 = .ok (.aload_n 1, 1) := by decide +kernel
theorem dL_law_1015 : decode cL_law 1015 = .ok (.invokevirtual 118, 3) := by decide +kernel
theorem dL_law_1018 : decode cL_law 1018 = .ok (.aload_n 2, 1) := by decide +kernel
theorem dL_law_1019 : decode cL_law 1019 = .ok (.invokevirtual 121, 3) := by decide +kernel
theorem dL_law_1022 : decode cL_law 1022 = .ok (.if_icmp .eq 878, 3) := by decide +kernel
theorem dL_law_1025 : decode cL_law 1025 = .ok (.iconst 0, 1) := by decide +kernel
theorem dL_law_1026 : decode cL_law 1026 = .ok (.ireturn, 1) := by decide +kernel
theorem dL_law_1027 : decode cL_law 1027 = .ok (.aload_n 1, 1) := by decide +kernel
theorem dL_law_1028 : decode cL_law 1028 = .ok (.aload_n 0, 1) := by decide +kernel
theorem dL_law_1029 : decode cL_law 1029 = .ok (.iload_n 3, 1) := by decide +kernel
theorem dL_law_1030 : decode cL_law 1030 = .ok (.iconst 1, 1) := by decide +kernel
theorem dL_law_1031 : decode cL_law 1031 = .ok (.iadd, 1) := by decide +kernel
theorem dL_law_1032 : decode cL_law 1032 = .ok (.iaload, 1) := by decide +kernel
theorem dL_law_1033 : decode cL_law 1033 = .ok (.invokevirtual 122, 3) := by decide +kernel
theorem dL_law_1036 : decode cL_law 1036 = .ok (.aload_n 2, 1) := by decide +kernel
theorem dL_law_1037 : decode cL_law 1037 = .ok (.aload_n 0, 1) := by decide +kernel
theorem dL_law_1038 : decode cL_law 1038 = .ok (.iload_n 3, 1) := by decide +kernel
theorem dL_law_1039 : decode cL_law 1039 = .ok (.iconst 1, 1) := by decide +kernel
theorem dL_law_1040 : decode cL_law 1040 = .ok (.iadd, 1) := by decide +kernel
theorem dL_law_1041 : decode cL_law 1041 = .ok (.iaload, 1) := by decide +kernel
theorem dL_law_1042 : decode cL_law 1042 = .ok (.invokevirtual 125, 3) := by decide +kernel
theorem dL_law_1045 : decode cL_law 1045 = .ok (.if_icmp .eq 855, 3) := by decide +kernel
theorem dL_law_1048 : decode cL_law 1048 = .ok (.iconst 0, 1) := by decide +kernel
theorem dL_law_1049 : decode cL_law 1049 = .ok (.ireturn, 1) := by decide +kernel
theorem dL_law_1050 : decode cL_law 1050 = .ok (.aload_n 1, 1) := by decide +kernel
theorem dL_law_1051 : decode cL_law 1051 = .ok (.aload_n 0, 1) := by decide +kernel
theorem dL_law_1052 : decode cL_law 1052 = .ok (.iload_n 3, 1) := by decide +kernel
theorem dL_law_1053 : decode cL_law 1053 = .ok (.iconst 1, 1) := by decide +kernel
theorem dL_law_1054 : decode cL_law 1054 = .ok (.iadd, 1) := by decide +kernel
theorem dL_law_1055 : decode cL_law 1055 = .ok (.iaload, 1) := by decide +kernel
theorem dL_law_1056 : decode cL_law 1056 = .ok (.invokevirtual 126, 3) := by decide +kernel
theorem dL_law_1059 : decode cL_law 1059 = .ok (.aload_n 2, 1) := by decide +kernel
theorem dL_law_1060 : decode cL_law 1060 = .ok (.aload_n 0, 1) := by decide +kernel
theorem dL_law_1061 : decode cL_law 1061 = .ok (.iload_n 3, 1) := by decide +kernel
theorem dL_law_1062 : decode cL_law 1062 = .ok (.iconst 1, 1) := by decide +kernel
theorem dL_law_1063 : decode cL_law 1063 = .ok (.iadd, 1) := by decide +kernel
theorem dL_law_1064 : decode cL_law 1064 = .ok (.iaload, 1) := by decide +kernel
theorem dL_law_1065 : decode cL_law 1065 = .ok (.invokevirtual 129, 3) := by decide +kernel
theorem dL_law_1068 : decode cL_law 1068 = .ok (.if_icmp .eq 832, 3) := by decide +kernel
theorem dL_law_1071 : decode cL_law 1071 = .ok (.iconst 0, 1) := by decide +kernel
theorem dL_law_1072 : decode cL_law 1072 = .ok (.ireturn, 1) := by decide +kernel
theorem dL_law_1073 : decode cL_law 1073 = .ok (.aload_n 1, 1) := by decide +kernel
theorem dL_law_1074 : decode cL_law 1074 = .ok (.aload_n 0, 1) := by decide +kernel
theorem dL_law_1075 : decode cL_law 1075 = .ok (.iload_n 3, 1) := by decide +kernel
theorem dL_law_1076 : decode cL_law 1076 = .ok (.iconst 1, 1) := by decide +kernel
theorem dL_law_1077 : decode cL_law 1077 = .ok (.iadd, 1) := by decide +kernel
theorem dL_law_1078 : decode cL_law 1078 = .ok (.iaload, 1) := by decide +kernel
theorem dL_law_1079 : decode cL_law 1079 = .ok (.invokevirtual 130, 3) := by decide +kernel
theorem dL_law_1082 : decode cL_law 1082 = .ok (.aload_n 2, 1) := by decide +kernel
theorem dL_law_1083 : decode cL_law 1083 = .ok (.aload_n 0, 1) := by decide +kernel
theorem dL_law_1084 : decode cL_law 1084 = .ok (.iload_n 3, 1) := by decide +kernel
theorem dL_law_1085 : decode cL_law 1085 = .ok (.iconst 1, 1) := by decide +kernel
theorem dL_law_1086 : decode cL_law 1086 = .ok (.iadd, 1) := by decide +kernel
theorem dL_law_1087 : decode cL_law 1087 = .ok (.iaload, 1) := by decide +kernel
theorem dL_law_1088 : decode cL_law 1088 = .ok (.invokevirtual 133, 3) := by decide +kernel
theorem dL_law_1091 : decode cL_law 1091 = .ok (.if_icmp .eq 809, 3) := by decide +kernel
theorem dL_law_1094 : decode cL_law 1094 = .ok (.iconst 0, 1) := by decide +kernel
theorem dL_law_1095 : decode cL_law 1095 = .ok (.ireturn, 1) := by decide +kernel
theorem dL_law_1096 : decode cL_law 1096 = .ok (.aload_n 1, 1) := by decide +kernel
theorem dL_law_1097 : decode cL_law 1097 = .ok (.aload_n 0, 1) := by decide +kernel
theorem dL_law_1098 : decode cL_law 1098 = .ok (.iload_n 3, 1) := by decide +kernel
theorem dL_law_1099 : decode cL_law 1099 = .ok (.iconst 1, 1) := by decide +kernel
theorem dL_law_1100 : decode cL_law 1100 = .ok (.iadd, 1) := by decide +kernel
theorem dL_law_1101 : decode cL_law 1101 = .ok (.iaload, 1) := by decide +kernel
theorem dL_law_1102 : decode cL_law 1102 = .ok (.aload_n 0, 1) := by decide +kernel
theorem dL_law_1103 : decode cL_law 1103 = .ok (.iload_n 3, 1) := by decide +kernel
theorem dL_law_1104 : decode cL_law 1104 = .ok (.iconst 2, 1) := by decide +kernel
theorem dL_law_1105 : decode cL_law 1105 = .ok (.iadd, 1) := by decide +kernel
theorem dL_law_1106 : decode cL_law 1106 = .ok (.iaload, 1) := by decide +kernel
theorem dL_law_1107 : decode cL_law 1107 = .ok (.aload_n 0, 1) := by decide +kernel
theorem dL_law_1108 : decode cL_law 1108 = .ok (.iload_n 3, 1) := by decide +kernel
theorem dL_law_1109 : decode cL_law 1109 = .ok (.iconst 3, 1) := by decide +kernel
theorem dL_law_1110 : decode cL_law 1110 = .ok (.iadd, 1) := by decide +kernel
theorem dL_law_1111 : decode cL_law 1111 = .ok (.iaload, 1) := by decide +kernel
theorem dL_law_1112 : decode cL_law 1112 = .ok (.aload_n 0, 1) := by decide +kernel
theorem dL_law_1113 : decode cL_law 1113 = .ok (.iload_n 3, 1) := by decide +kernel
theorem dL_law_1114 : decode cL_law 1114 = .ok (.iconst 4, 1) := by decide +kernel
theorem dL_law_1115 : decode cL_law 1115 = .ok (.iadd, 1) := by decide +kernel
theorem dL_law_1116 : decode cL_law 1116 = .ok (.iaload, 1) := by decide +kernel
theorem dL_law_1117 : decode cL_law 1117 = .ok (.ifCond .eq 7, 3) := by decide +kernel
theorem dL_law_1120 : decode cL_law 1120 = .ok (.iconst 1, 1) := by decide +kernel
theorem dL_law_1121 : decode cL_law 1121 = .ok (.goto 4, 3) := by decide +kernel
theorem dL_law_1124 : decode cL_law 1124 = .ok (.iconst 0, 1) := by decide +kernel
theorem dL_law_1125 : decode cL_law 1125 = .ok (.invokevirtual 134, 3) := by decide +kernel
theorem dL_law_1128 : decode cL_law 1128 = .ok (.aload_n 2, 1) := by decide +kernel
theorem dL_law_1129 : decode cL_law 1129 = .ok (.aload_n 0, 1) := by decide +kernel
theorem dL_law_1130 : decode cL_law 1130 = .ok (.iload_n 3, 1) := by decide +kernel
theorem dL_law_1131 : decode cL_law 1131 = .ok (.iconst 1, 1) := by decide +kernel
theorem dL_law_1132 : decode cL_law 1132 = .ok (.iadd, 1) := by decide +kernel
theorem dL_law_1133 : decode cL_law 1133 = .ok (.iaload, 1) := by decide +kernel
theorem dL_law_1134 : decode cL_law 1134 = .ok (.aload_n 0, 1) := by decide +kernel
theorem dL_law_1135 : decode cL_law 1135 = .ok (.iload_n 3, 1) := by decide +kernel
theorem dL_law_1136 : decode cL_law 1136 = .ok (.iconst 2, 1) := by decide +kernel
theorem dL_law_1137 : decode cL_law 1137 = .ok (.iadd, 1) := by decide +kernel
theorem dL_law_1138 : decode cL_law 1138 = .ok (.iaload, 1) := by decide +kernel
theorem dL_law_1139 : decode cL_law 1139 = .ok (.aload_n 0, 1) := by decide +kernel
theorem dL_law_1140 : decode cL_law 1140 = .ok (.iload_n 3, 1) := by decide +kernel
theorem dL_law_1141 : decode cL_law 1141 = .ok (.iconst 3, 1) := by decide +kernel
theorem dL_law_1142 : decode cL_law 1142 = .ok (.iadd, 1) := by decide +kernel
theorem dL_law_1143 : decode cL_law 1143 = .ok (.iaload, 1) := by decide +kernel
theorem dL_law_1144 : decode cL_law 1144 = .ok (.aload_n 0, 1) := by decide +kernel
theorem dL_law_1145 : decode cL_law 1145 = .ok (.iload_n 3, 1) := by decide +kernel
theorem dL_law_1146 : decode cL_law 1146 = .ok (.iconst 4, 1) := by decide +kernel
theorem dL_law_1147 : decode cL_law 1147 = .ok (.iadd, 1) := by decide +kernel
theorem dL_law_1148 : decode cL_law 1148 = .ok (.iaload, 1) := by decide +kernel
theorem dL_law_1149 : decode cL_law 1149 = .ok (.ifCond .eq 7, 3) := by decide +kernel
theorem dL_law_1152 : decode cL_law 1152 = .ok (.iconst 1, 1) := by decide +kernel
theorem dL_law_1153 : decode cL_law 1153 = .ok (.goto 4, 3) := by decide +kernel
theorem dL_law_1156 : decode cL_law 1156 = .ok (.iconst 0, 1) := by decide +kernel
theorem dL_law_1157 : decode cL_law 1157 = .ok (.invokevirtual 137, 3) := by decide +kernel
theorem dL_law_1160 : decode cL_law 1160 = .ok (.if_icmp .eq 740, 3) := by decide +kernel
theorem dL_law_1163 : decode cL_law 1163 = .ok (.iconst 0, 1) := by decide +kernel
theorem dL_law_1164 : decode cL_law 1164 = .ok (.ireturn, 1) := by decide +kernel
theorem dL_law_1165 : decode cL_law 1165 = .ok (.aload_n 1, 1) := by decide +kernel
theorem dL_law_1166 : decode cL_law 1166 = .ok (.aload_n 0, 1) := by decide +kernel
theorem dL_law_1167 : decode cL_law 1167 = .ok (.iload_n 3, 1) := by decide +kernel
theorem dL_law_1168 : decode cL_law 1168 = .ok (.iconst 1, 1) := by decide +kernel
theorem dL_law_1169 : decode cL_law 1169 = .ok (.iadd, 1) := by decide +kernel
theorem dL_law_1170 : decode cL_law 1170 = .ok (.iaload, 1) := by decide +kernel
theorem dL_law_1171 : decode cL_law 1171 = .ok (.aload_n 0, 1) := by decide +kernel
theorem dL_law_1172 : decode cL_law 1172 = .ok (.iload_n 3, 1) := by decide +kernel
theorem dL_law_1173 : decode cL_law 1173 = .ok (.iconst 2, 1) := by decide +kernel
theorem dL_law_1174 : decode cL_law 1174 = .ok (.iadd, 1) := by decide +kernel
theorem dL_law_1175 : decode cL_law 1175 = .ok (.iaload, 1) := by decide +kernel
theorem dL_law_1176 : decode cL_law 1176 = .ok (.aload_n 0, 1) := by decide +kernel
theorem dL_law_1177 : decode cL_law 1177 = .ok (.iload_n 3, 1) := by decide +kernel
theorem dL_law_1178 : decode cL_law 1178 = .ok (.iconst 3, 1) := by decide +kernel
theorem dL_law_1179 : decode cL_law 1179 = .ok (.iadd, 1) := by decide +kernel
theorem dL_law_1180 : decode cL_law 1180 = .ok (.iaload, 1) := by decide +kernel
theorem dL_law_1181 : decode cL_law 1181 = .ok (.aload_n 0, 1) := by decide +kernel
theorem dL_law_1182 : decode cL_law 1182 = .ok (.iload_n 3, 1) := by decide +kernel
theorem dL_law_1183 : decode cL_law 1183 = .ok (.iconst 4, 1) := by decide +kernel
theorem dL_law_1184 : decode cL_law 1184 = .ok (.iadd, 1) := by decide +kernel
theorem dL_law_1185 : decode cL_law 1185 = .ok (.iaload, 1) := by decide +kernel
theorem dL_law_1186 : decode cL_law 1186 = .ok (.aload_n 0, 1) := by decide +kernel
theorem dL_law_1187 : decode cL_law 1187 = .ok (.iload_n 3, 1) := by decide +kernel
theorem dL_law_1188 : decode cL_law 1188 = .ok (.iconst 5, 1) := by decide +kernel
theorem dL_law_1189 : decode cL_law 1189 = .ok (.iadd, 1) := by decide +kernel
theorem dL_law_1190 : decode cL_law 1190 = .ok (.iaload, 1) := by decide +kernel
theorem dL_law_1191 : decode cL_law 1191 = .ok (.ifCond .eq 7, 3) := by decide +kernel
theorem dL_law_1194 : decode cL_law 1194 = .ok (.iconst 1, 1) := by decide +kernel
theorem dL_law_1195 : decode cL_law 1195 = .ok (.goto 4, 3) := by decide +kernel
theorem dL_law_1198 : decode cL_law 1198 = .ok (.iconst 0, 1) := by decide +kernel
theorem dL_law_1199 : decode cL_law 1199 = .ok (.aload_n 0, 1) := by decide +kernel
theorem dL_law_1200 : decode cL_law 1200 = .ok (.iload_n 3, 1) := by decide +kernel
theorem dL_law_1201 : decode cL_law 1201 = .ok (.bipush 6, 2) := by decide +kernel
theorem dL_law_1203 : decode cL_law 1203 = .ok (.iadd, 1) := by decide +kernel
theorem dL_law_1204 : decode cL_law 1204 = .ok (.iaload, 1) := by decide +kernel
theorem dL_law_1205 : decode cL_law 1205 = .ok (.invokevirtual 138, 3) := by decide +kernel
theorem dL_law_1208 : decode cL_law 1208 = .ok (.aload_n 2, 1) := by decide +kernel
theorem dL_law_1209 : decode cL_law 1209 = .ok (.aload_n 0, 1) := by decide +kernel
theorem dL_law_1210 : decode cL_law 1210 = .ok (.iload_n 3, 1) := by decide +kernel
theorem dL_law_1211 : decode cL_law 1211 = .ok (.iconst 1, 1) := by decide +kernel
theorem dL_law_1212 : decode cL_law 1212 = .ok (.iadd, 1) := by decide +kernel
theorem dL_law_1213 : decode cL_law 1213 = .ok (.iaload, 1) := by decide +kernel
theorem dL_law_1214 : decode cL_law 1214 = .ok (.aload_n 0, 1) := by decide +kernel
theorem dL_law_1215 : decode cL_law 1215 = .ok (.iload_n 3, 1) := by decide +kernel
theorem dL_law_1216 : decode cL_law 1216 = .ok (.iconst 2, 1) := by decide +kernel
theorem dL_law_1217 : decode cL_law 1217 = .ok (.iadd, 1) := by decide +kernel
theorem dL_law_1218 : decode cL_law 1218 = .ok (.iaload, 1) := by decide +kernel
theorem dL_law_1219 : decode cL_law 1219 = .ok (.aload_n 0, 1) := by decide +kernel
theorem dL_law_1220 : decode cL_law 1220 = .ok (.iload_n 3, 1) := by decide +kernel
theorem dL_law_1221 : decode cL_law 1221 = .ok (.iconst 3, 1) := by decide +kernel
theorem dL_law_1222 : decode cL_law 1222 = .ok (.iadd, 1) := by decide +kernel
theorem dL_law_1223 : decode cL_law 1223 = .ok (.iaload, 1) := by decide +kernel
theorem dL_law_1224 : decode cL_law 1224 = .ok (.aload_n 0, 1) := by decide +kernel
theorem dL_law_1225 : decode cL_law 1225 = .ok (.iload_n 3, 1) := by decide +kernel
theorem dL_law_1226 : decode cL_law 1226 = .ok (.iconst 4, 1) := by decide +kernel
theorem dL_law_1227 : decode cL_law 1227 = .ok (.iadd, 1) := by decide +kernel
theorem dL_law_1228 : decode cL_law 1228 = .ok (.iaload, 1) := by decide +kernel
theorem dL_law_1229 : decode cL_law 1229 = .ok (.aload_n 0, 1) := by decide +kernel
theorem dL_law_1230 : decode cL_law 1230 = .ok (.iload_n 3, 1) := by decide +kernel
theorem dL_law_1231 : decode cL_law 1231 = .ok (.iconst 5, 1) := by decide +kernel
theorem dL_law_1232 : decode cL_law 1232 = .ok (.iadd, 1) := by decide +kernel
theorem dL_law_1233 : decode cL_law 1233 = .ok (.iaload, 1) := by decide +kernel
theorem dL_law_1234 : decode cL_law 1234 = .ok (.ifCond .eq 7, 3) := by decide +kernel
theorem dL_law_1237 : decode cL_law 1237 = .ok (.iconst 1, 1) := by decide +kernel
theorem dL_law_1238 : decode cL_law 1238 = .ok (.goto 4, 3) := by decide +kernel
theorem dL_law_1241 : decode cL_law 1241 = .ok (.iconst 0, 1) := by decide +kernel
theorem dL_law_1242 : decode cL_law 1242 = .ok (.aload_n 0, 1) := by decide +kernel
theorem dL_law_1243 : decode cL_law 1243 = .ok (.iload_n 3, 1) := by decide +kernel
theorem dL_law_1244 : decode cL_law 1244 = .ok (.bipush 6, 2) := by decide +kernel
theorem dL_law_1246 : decode cL_law 1246 = .ok (.iadd, 1) := by decide +kernel
theorem dL_law_1247 : decode cL_law 1247 = .ok (.iaload, 1) := by decide +kernel
theorem dL_law_1248 : decode cL_law 1248 = .ok (.invokevirtual 142, 3) := by decide +kernel
theorem dL_law_1251 : decode cL_law 1251 = .ok (.if_icmp .eq 649, 3) := by decide +kernel
theorem dL_law_1254 : decode cL_law 1254 = .ok (.iconst 0, 1) := by decide +kernel
theorem dL_law_1255 : decode cL_law 1255 = .ok (.ireturn, 1) := by decide +kernel
theorem dL_law_1256 : decode cL_law 1256 = .ok (.aload_n 1, 1) := by decide +kernel
theorem dL_law_1257 : decode cL_law 1257 = .ok (.aload_n 0, 1) := by decide +kernel
theorem dL_law_1258 : decode cL_law 1258 = .ok (.iload_n 3, 1) := by decide +kernel
theorem dL_law_1259 : decode cL_law 1259 = .ok (.iconst 1, 1) := by decide +kernel
theorem dL_law_1260 : decode cL_law 1260 = .ok (.iadd, 1) := by decide +kernel
theorem dL_law_1261 : decode cL_law 1261 = .ok (.iaload, 1) := by decide +kernel
theorem dL_law_1262 : decode cL_law 1262 = .ok (.aload_n 0, 1) := by decide +kernel
theorem dL_law_1263 : decode cL_law 1263 = .ok (.iload_n 3, 1) := by decide +kernel
theorem dL_law_1264 : decode cL_law 1264 = .ok (.iconst 2, 1) := by decide +kernel
theorem dL_law_1265 : decode cL_law 1265 = .ok (.iadd, 1) := by decide +kernel
theorem dL_law_1266 : decode cL_law 1266 = .ok (.iaload, 1) := by decide +kernel
theorem dL_law_1267 : decode cL_law 1267 = .ok (.ifCond .eq 7, 3) := by decide +kernel
theorem dL_law_1270 : decode cL_law 1270 = .ok (.iconst 1, 1) := by decide +kernel
theorem dL_law_1271 : decode cL_law 1271 = .ok (.goto 4, 3) := by decide +kernel
theorem dL_law_1274 : decode cL_law 1274 = .ok (.iconst 0, 1) := by decide +kernel
theorem dL_law_1275 : decode cL_law 1275 = .ok (.aload_n 0, 1) := by decide +kernel
theorem dL_law_1276 : decode cL_law 1276 = .ok (.iload_n 3, 1) := by decide +kernel
theorem dL_law_1277 : decode cL_law 1277 = .ok (.iconst 3, 1) := by decide +kernel
theorem dL_law_1278 : decode cL_law 1278 = .ok (.iadd, 1) := by decide +kernel
theorem dL_law_1279 : decode cL_law 1279 = .ok (.iaload, 1) := by decide +kernel
theorem dL_law_1280 : decode cL_law 1280 = .ok (.invokevirtual 143, 3) := by decide +kernel
theorem dL_law_1283 : decode cL_law 1283 = .ok (.aload_n 2, 1) := by decide +kernel
theorem dL_law_1284 : decode cL_law 1284 = .ok (.aload_n 0, 1) := by decide +kernel
theorem dL_law_1285 : decode cL_law 1285 = .ok (.iload_n 3, 1) := by decide +kernel
theorem dL_law_1286 : decode cL_law 1286 = .ok (.iconst 1, 1) := by decide +kernel
theorem dL_law_1287 : decode cL_law 1287 = .ok (.iadd, 1) := by decide +kernel
theorem dL_law_1288 : decode cL_law 1288 = .ok (.iaload, 1) := by decide +kernel
theorem dL_law_1289 : decode cL_law 1289 = .ok (.aload_n 0, 1) := by decide +kernel
theorem dL_law_1290 : decode cL_law 1290 = .ok (.iload_n 3, 1) := by decide +kernel
theorem dL_law_1291 : decode cL_law 1291 = .ok (.iconst 2, 1) := by decide +kernel
theorem dL_law_1292 : decode cL_law 1292 = .ok (.iadd, 1) := by decide +kernel
theorem dL_law_1293 : decode cL_law 1293 = .ok (.iaload, 1) := by decide +kernel
theorem dL_law_1294 : decode cL_law 1294 = .ok (.ifCond .eq 7, 3) := by decide +kernel
theorem dL_law_1297 : decode cL_law 1297 = .ok (.iconst 1, 1) := by decide +kernel
theorem dL_law_1298 : decode cL_law 1298 = .ok (.goto 4, 3) := by decide +kernel
theorem dL_law_1301 : decode cL_law 1301 = .ok (.iconst 0, 1) := by decide +kernel
theorem dL_law_1302 : decode cL_law 1302 = .ok (.aload_n 0, 1) := by decide +kernel
theorem dL_law_1303 : decode cL_law 1303 = .ok (.iload_n 3, 1) := by decide +kernel
theorem dL_law_1304 : decode cL_law 1304 = .ok (.iconst 3, 1) := by decide +kernel
theorem dL_law_1305 : decode cL_law 1305 = .ok (.iadd, 1) := by decide +kernel
theorem dL_law_1306 : decode cL_law 1306 = .ok (.iaload, 1) := by decide +kernel
theorem dL_law_1307 : decode cL_law 1307 = .ok (.invokevirtual 147, 3) := by decide +kernel
theorem dL_law_1310 : decode cL_law 1310 = .ok (.if_icmp .eq 590, 3) := by decide +kernel
theorem dL_law_1313 : decode cL_law 1313 = .ok (.iconst 0, 1) := by decide +kernel
theorem dL_law_1314 : decode cL_law 1314 = .ok (.ireturn, 1) := by decide +kernel
theorem dL_law_1315 : decode cL_law 1315 = .ok (.aload_n 1, 1) := by decide +kernel
theorem dL_law_1316 : decode cL_law 1316 = .ok (.aload_n 0, 1) := by decide +kernel
theorem dL_law_1317 : decode cL_law 1317 = .ok (.iload_n 3, 1) := by decide +kernel
theorem dL_law_1318 : decode cL_law 1318 = .ok (.iconst 1, 1) := by decide +kernel
theorem dL_law_1319 : decode cL_law 1319 = .ok (.iadd, 1) := by decide +kernel
theorem dL_law_1320 : decode cL_law 1320 = .ok (.iaload, 1) := by decide +kernel
theorem dL_law_1321 : decode cL_law 1321 = .ok (.aload_n 0, 1) := by decide +kernel
theorem dL_law_1322 : decode cL_law 1322 = .ok (.iload_n 3, 1) := by decide +kernel
theorem dL_law_1323 : decode cL_law 1323 = .ok (.iconst 2, 1) := by decide +kernel
theorem dL_law_1324 : decode cL_law 1324 = .ok (.iadd, 1) := by decide +kernel
theorem dL_law_1325 : decode cL_law 1325 = .ok (.iaload, 1) := by decide +kernel
theorem dL_law_1326 : decode cL_law 1326 = .ok (.aload_n 0, 1) := by decide +kernel
theorem dL_law_1327 : decode cL_law 1327 = .ok (.iload_n 3, 1) := by decide +kernel
theorem dL_law_1328 : decode cL_law 1328 = .ok (.iconst 3, 1) := by decide +kernel
theorem dL_law_1329 : decode cL_law 1329 = .ok (.iadd, 1) := by decide +kernel
theorem dL_law_1330 : decode cL_law 1330 = .ok (.iaload, 1) := by decide +kernel
theorem dL_law_1331 : decode cL_law 1331 = .ok (.aload_n 0, 1) := by decide +kernel
theorem dL_law_1332 : decode cL_law 1332 = .ok (.iload_n 3, 1) := by decide +kernel
theorem dL_law_1333 : decode cL_law 1333 = .ok (.iconst 4, 1) := by decide +kernel
theorem dL_law_1334 : decode cL_law 1334 = .ok (.iadd, 1) := by decide +kernel
theorem dL_law_1335 : decode cL_law 1335 = .ok (.iaload, 1) := by decide +kernel
theorem dL_law_1336 : decode cL_law 1336 = .ok (.aload_n 0, 1) := by decide +kernel
theorem dL_law_1337 : decode cL_law 1337 = .ok (.iload_n 3, 1) := by decide +kernel
theorem dL_law_1338 : decode cL_law 1338 = .ok (.iconst 5, 1) := by decide +kernel
theorem dL_law_1339 : decode cL_law 1339 = .ok (.iadd, 1) := by decide +kernel
theorem dL_law_1340 : decode cL_law 1340 = .ok (.iaload, 1) := by decide +kernel
theorem dL_law_1341 : decode cL_law 1341 = .ok (.aload_n 0, 1) := by decide +kernel
theorem dL_law_1342 : decode cL_law 1342 = .ok (.iload_n 3, 1) := by decide +kernel
theorem dL_law_1343 : decode cL_law 1343 = .ok (.bipush 6, 2) := by decide +kernel
theorem dL_law_1345 : decode cL_law 1345 = .ok (.iadd, 1) := by decide +kernel
theorem dL_law_1346 : decode cL_law 1346 = .ok (.iaload, 1) := by decide +kernel
theorem dL_law_1347 : decode cL_law 1347 = .ok (.ifCond .eq 7, 3) := by decide +kernel
theorem dL_law_1350 : decode cL_law 1350 = .ok (.iconst 1, 1) := by decide +kernel
theorem dL_law_1351 : decode cL_law 1351 = .ok (.goto 4, 3) := by decide +kernel
theorem dL_law_1354 : decode cL_law 1354 = .ok (.iconst 0, 1) := by decide +kernel
theorem dL_law_1355 : decode cL_law 1355 = .ok (.invokevirtual 148, 3) := by decide +kernel
theorem dL_law_1358 : decode cL_law 1358 = .ok (.aload_n 2, 1) := by decide +kernel
theorem dL_law_1359 : decode cL_law 1359 = .ok (.aload_n 0, 1) := by decide +kernel
theorem dL_law_1360 : decode cL_law 1360 = .ok (.iload_n 3, 1) := by decide +kernel
theorem dL_law_1361 : decode cL_law 1361 = .ok (.iconst 1, 1) := by decide +kernel
theorem dL_law_1362 : decode cL_law 1362 = .ok (.iadd, 1) := by decide +kernel
theorem dL_law_1363 : decode cL_law 1363 = .ok (.iaload, 1) := by decide +kernel
theorem dL_law_1364 : decode cL_law 1364 = .ok (.aload_n 0, 1) := by decide +kernel
theorem dL_law_1365 : decode cL_law 1365 = .ok (.iload_n 3, 1) := by decide +kernel
theorem dL_law_1366 : decode cL_law 1366 = .ok (.iconst 2, 1) := by decide +kernel
theorem dL_law_1367 : decode cL_law 1367 = .ok (.iadd, 1) := by decide +kernel
theorem dL_law_1368 : decode cL_law 1368 = .ok (.iaload, 1) := by decide +kernel
theorem dL_law_1369 : decode cL_law 1369 = .ok (.aload_n 0, 1) := by decide +kernel
theorem dL_law_1370 : decode cL_law 1370 = .ok (.iload_n 3, 1) := by decide +kernel
theorem dL_law_1371 : decode cL_law 1371 = .ok (.iconst 3, 1) := by decide +kernel
theorem dL_law_1372 : decode cL_law 1372 = .ok (.iadd, 1) := by decide +kernel
theorem dL_law_1373 : decode cL_law 1373 = .ok (.iaload, 1) := by decide +kernel
theorem dL_law_1374 : decode cL_law 1374 = .ok (.aload_n 0, 1) := by decide +kernel
theorem dL_law_1375 : decode cL_law 1375 = .ok (.iload_n 3, 1) := by decide +kernel
theorem dL_law_1376 : decode cL_law 1376 = .ok (.iconst 4, 1) := by decide +kernel
theorem dL_law_1377 : decode cL_law 1377 = .ok (.iadd, 1) := by decide +kernel
theorem dL_law_1378 : decode cL_law 1378 = .ok (.iaload, 1) := by decide +kernel
theorem dL_law_1379 : decode cL_law 1379 = .ok (.aload_n 0, 1) := by decide +kernel
theorem dL_law_1380 : decode cL_law 1380 = .ok (.iload_n 3, 1) := by decide +kernel
theorem dL_law_1381 : decode cL_law 1381 = .ok (.iconst 5, 1) := by decide +kernel
theorem dL_law_1382 : decode cL_law 1382 = .ok (.iadd, 1) := by decide +kernel
theorem dL_law_1383 : decode cL_law 1383 = .ok (.iaload, 1) := by decide +kernel
theorem dL_law_1384 : decode cL_law 1384 = .ok (.aload_n 0, 1) := by decide +kernel
theorem dL_law_1385 : decode cL_law 1385 = .ok (.iload_n 3, 1) := by decide +kernel
theorem dL_law_1386 : decode cL_law 1386 = .ok (.bipush 6, 2) := by decide +kernel
theorem dL_law_1388 : decode cL_law 1388 = .ok (.iadd, 1) := by decide +kernel
theorem dL_law_1389 : decode cL_law 1389 = .ok (.iaload, 1) := by decide +kernel
theorem dL_law_1390 : decode cL_law 1390 = .ok (.ifCond .eq 7, 3) := by decide +kernel
theorem dL_law_1393 : decode cL_law 1393 = .ok (.iconst 1, 1) := by decide +kernel
theorem dL_law_1394 : decode cL_law 1394 = .ok (.goto 4, 3) := by decide +kernel
theorem dL_law_1397 : decode cL_law 1397 = .ok (.iconst 0, 1) := by decide +kernel
theorem dL_law_1398 : decode cL_law 1398 = .ok (.invokevirtual 152, 3) := by decide +kernel
theorem dL_law_1401 : decode cL_law 1401 = .ok (.if_icmp .eq 499, 3) := by decide +kernel
theorem dL_law_1404 : decode cL_law 1404 = .ok (.iconst 0, 1) := by decide +kernel
theorem dL_law_1405 : decode cL_law 1405 = .ok (.ireturn, 1) := by decide +kernel
theorem dL_law_1406 : decode cL_law 1406 = .ok (.aload_n 1, 1) := by decide +kernel
theorem dL_law_1407 : decode cL_law 1407 = .ok (.invokevirtual 153, 3) := by decide +kernel
theorem dL_law_1410 : decode cL_law 1410 = .ok (.aload_n 2, 1) := by decide +kernel
theorem dL_law_1411 : decode cL_law 1411 = .ok (.invokevirtual 157, 3) := by decide +kernel
theorem dL_law_1414 : decode cL_law 1414 = .ok (.if_icmp .eq 486, 3) := by decide +kernel
theorem dL_law_1417 : decode cL_law 1417 = .ok (.iconst 0, 1) := by decide +kernel
theorem dL_law_1418 : decode cL_law 1418 = .ok (.ireturn, 1) := by decide +kernel
theorem dL_law_1419 : decode cL_law 1419 = .ok (.aload_n 1, 1) := by decide +kernel
theorem dL_law_1420 : decode cL_law 1420 = .ok (.aload_n 0, 1) := by decide +kernel
theorem dL_law_1421 : decode cL_law 1421 = .ok (.iload_n 3, 1) := by decide +kernel
theorem dL_law_1422 : decode cL_law 1422 = .ok (.iconst 1, 1) := by decide +kernel
theorem dL_law_1423 : decode cL_law 1423 = .ok (.iadd, 1) := by decide +kernel
theorem dL_law_1424 : decode cL_law 1424 = .ok (.iaload, 1) := by decide +kernel
theorem dL_law_1425 : decode cL_law 1425 = .ok (.aload_n 0, 1) := by decide +kernel
theorem dL_law_1426 : decode cL_law 1426 = .ok (.iload_n 3, 1) := by decide +kernel
theorem dL_law_1427 : decode cL_law 1427 = .ok (.iconst 2, 1) := by decide +kernel
theorem dL_law_1428 : decode cL_law 1428 = .ok (.iadd, 1) := by decide +kernel
theorem dL_law_1429 : decode cL_law 1429 = .ok (.iaload, 1) := by decide +kernel
theorem dL_law_1430 : decode cL_law 1430 = .ok (.aload_n 0, 1) := by decide +kernel
theorem dL_law_1431 : decode cL_law 1431 = .ok (.iload_n 3, 1) := by decide +kernel
theorem dL_law_1432 : decode cL_law 1432 = .ok (.iconst 3, 1) := by decide +kernel
theorem dL_law_1433 : decode cL_law 1433 = .ok (.iadd, 1) := by decide +kernel
theorem dL_law_1434 : decode cL_law 1434 = .ok (.iaload, 1) := by decide +kernel
theorem dL_law_1435 : decode cL_law 1435 = .ok (.invokevirtual 158, 3) := by decide +kernel
theorem dL_law_1438 : decode cL_law 1438 = .ok (.aload_n 2, 1) := by decide +kernel
theorem dL_law_1439 : decode cL_law 1439 = .ok (.aload_n 0, 1) := by decide +kernel
theorem dL_law_1440 : decode cL_law 1440 = .ok (.iload_n 3, 1) := by decide +kernel
theorem dL_law_1441 : decode cL_law 1441 = .ok (.iconst 1, 1) := by decide +kernel
theorem dL_law_1442 : decode cL_law 1442 = .ok (.iadd, 1) := by decide +kernel
theorem dL_law_1443 : decode cL_law 1443 = .ok (.iaload, 1) := by decide +kernel
theorem dL_law_1444 : decode cL_law 1444 = .ok (.aload_n 0, 1) := by decide +kernel
theorem dL_law_1445 : decode cL_law 1445 = .ok (.iload_n 3, 1) := by decide +kernel
theorem dL_law_1446 : decode cL_law 1446 = .ok (.iconst 2, 1) := by decide +kernel
theorem dL_law_1447 : decode cL_law 1447 = .ok (.iadd, 1) := by decide +kernel
theorem dL_law_1448 : decode cL_law 1448 = .ok (.iaload, 1) := by decide +kernel
theorem dL_law_1449 : decode cL_law 1449 = .ok (.aload_n 0, 1) := by decide +kernel
theorem dL_law_1450 : decode cL_law 1450 = .ok (.iload_n 3, 1) := by decide +kernel
theorem dL_law_1451 : decode cL_law 1451 = .ok (.iconst 3, 1) := by decide +kernel
theorem dL_law_1452 : decode cL_law 1452 = .ok (.iadd, 1) := by decide +kernel
theorem dL_law_1453 : decode cL_law 1453 = .ok (.iaload, 1) := by decide +kernel
theorem dL_law_1454 : decode cL_law 1454 = .ok (.invokevirtual 162, 3) := by decide +kernel
theorem dL_law_1457 : decode cL_law 1457 = .ok (.if_icmp .eq 443, 3) := by decide +kernel
theorem dL_law_1460 : decode cL_law 1460 = .ok (.iconst 0, 1) := by decide +kernel
theorem dL_law_1461 : decode cL_law 1461 = .ok (.ireturn, 1) := by decide +kernel
theorem dL_law_1462 : decode cL_law 1462 = .ok (.aload_n 1, 1) := by decide +kernel
theorem dL_law_1463 : decode cL_law 1463 = .ok (.aload_n 0, 1) := by decide +kernel
theorem dL_law_1464 : decode cL_law 1464 = .ok (.iload_n 3, 1) := by decide +kernel
theorem dL_law_1465 : decode cL_law 1465 = .ok (.iconst 1, 1) := by decide +kernel
theorem dL_law_1466 : decode cL_law 1466 = .ok (.iadd, 1) := by decide +kernel
theorem dL_law_1467 : decode cL_law 1467 = .ok (.iaload, 1) := by decide +kernel
theorem dL_law_1468 : decode cL_law 1468 = .ok (.invokevirtual 163, 3) := by decide +kernel
theorem dL_law_1471 : decode cL_law 1471 = .ok (.aload_n 2, 1) := by decide +kernel
theorem dL_law_1472 : decode cL_law 1472 = .ok (.aload_n 0, 1) := by decide +kernel
theorem dL_law_1473 : decode cL_law 1473 = .ok (.iload_n 3, 1) := by decide +kernel
theorem dL_law_1474 : decode cL_law 1474 = .ok (.iconst 1, 1) := by decide +kernel
theorem dL_law_1475 : decode cL_law 1475 = .ok (.iadd, 1) := by decide +kernel
theorem dL_law_1476 : decode cL_law 1476 = .ok (.iaload, 1) := by decide +kernel
theorem dL_law_1477 : decode cL_law 1477 = .ok (.invokevirtual 166, 3) := by decide +kernel
theorem dL_law_1480 : decode cL_law 1480 = .ok (.if_icmp .eq 420, 3) := by decide +kernel
theorem dL_law_1483 : decode cL_law 1483 = .ok (.iconst 0, 1) := by decide +kernel
theorem dL_law_1484 : decode cL_law 1484 = .ok (.ireturn, 1) := by decide +kernel
theorem dL_law_1485 : decode cL_law 1485 = .ok (.aload_n 1, 1) := by decide +kernel
theorem dL_law_1486 : decode cL_law 1486 = .ok (.aload_n 0, 1) := by decide +kernel
theorem dL_law_1487 : decode cL_law 1487 = .ok (.iload_n 3, 1) := by decide +kernel
theorem dL_law_1488 : decode cL_law 1488 = .ok (.iconst 1, 1) := by decide +kernel
theorem dL_law_1489 : decode cL_law 1489 = .ok (.iadd, 1) := by decide +kernel
theorem dL_law_1490 : decode cL_law 1490 = .ok (.iaload, 1) := by decide +kernel
theorem dL_law_1491 : decode cL_law 1491 = .ok (.aload_n 0, 1) := by decide +kernel
theorem dL_law_1492 : decode cL_law 1492 = .ok (.iload_n 3, 1) := by decide +kernel
theorem dL_law_1493 : decode cL_law 1493 = .ok (.iconst 2, 1) := by decide +kernel
theorem dL_law_1494 : decode cL_law 1494 = .ok (.iadd, 1) := by decide +kernel
theorem dL_law_1495 : decode cL_law 1495 = .ok (.iaload, 1) := by decide +kernel
theorem dL_law_1496 : decode cL_law 1496 = .ok (.invokevirtual 167, 3) := by decide +kernel
theorem dL_law_1499 : decode cL_law 1499 = .ok (.aload_n 2, 1) := by decide +kernel
theorem dL_law_1500 : decode cL_law 1500 = .ok (.aload_n 0, 1) := by decide +kernel
theorem dL_law_1501 : decode cL_law 1501 = .ok (.iload_n 3, 1) := by decide +kernel
theorem dL_law_1502 : decode cL_law 1502 = .ok (.iconst 1, 1) := by decide +kernel
theorem dL_law_1503 : decode cL_law 1503 = .ok (.iadd, 1) := by decide +kernel
theorem dL_law_1504 : decode cL_law 1504 = .ok (.iaload, 1) := by decide +kernel
theorem dL_law_1505 : decode cL_law 1505 = .ok (.aload_n 0, 1) := by decide +kernel
theorem dL_law_1506 : decode cL_law 1506 = .ok (.iload_n 3, 1) := by decide +kernel
theorem dL_law_1507 : decode cL_law 1507 = .ok (.iconst 2, 1) := by decide +kernel
theorem dL_law_1508 : decode cL_law 1508 = .ok (.iadd, 1) := by decide +kernel
theorem dL_law_1509 : decode cL_law 1509 = .ok (.iaload, 1) := by decide +kernel
theorem dL_law_1510 : decode cL_law 1510 = .ok (.invokevirtual 170, 3) := by decide +kernel
theorem dL_law_1513 : decode cL_law 1513 = .ok (.lcmp, 1) := by decide +kernel
theorem dL_law_1514 : decode cL_law 1514 = .ok (.ifCond .eq 386, 3) := by decide +kernel
theorem dL_law_1517 : decode cL_law 1517 = .ok (.iconst 0, 1) := by decide +kernel
theorem dL_law_1518 : decode cL_law 1518 = .ok (.ireturn, 1) := by decide +kernel
theorem dL_law_1519 : decode cL_law 1519 = .ok (.aload_n 1, 1) := by decide +kernel
theorem dL_law_1520 : decode cL_law 1520 = .ok (.aload_n 0, 1) := by decide +kernel
theorem dL_law_1521 : decode cL_law 1521 = .ok (.iload_n 3, 1) := by decide +kernel
theorem dL_law_1522 : decode cL_law 1522 = .ok (.iconst 1, 1) := by decide +kernel
theorem dL_law_1523 : decode cL_law 1523 = .ok (.iadd, 1) := by decide +kernel
theorem dL_law_1524 : decode cL_law 1524 = .ok (.iaload, 1) := by decide +kernel
theorem dL_law_1525 : decode cL_law 1525 = .ok (.invokevirtual 171, 3) := by decide +kernel
theorem dL_law_1528 : decode cL_law 1528 = .ok (.aload_n 2, 1) := by decide +kernel
theorem dL_law_1529 : decode cL_law 1529 = .ok (.aload_n 0, 1) := by decide +kernel
theorem dL_law_1530 : decode cL_law 1530 = .ok (.iload_n 3, 1) := by decide +kernel
theorem dL_law_1531 : decode cL_law 1531 = .ok (.iconst 1, 1) := by decide +kernel
theorem dL_law_1532 : decode cL_law 1532 = .ok (.iadd, 1) := by decide +kernel
theorem dL_law_1533 : decode cL_law 1533 = .ok (.iaload, 1) := by decide +kernel
theorem dL_law_1534 : decode cL_law 1534 = .ok (.invokevirtual 174, 3) := by decide +kernel
theorem dL_law_1537 : decode cL_law 1537 = .ok (.if_icmp .eq 363, 3) := by decide +kernel
theorem dL_law_1540 : decode cL_law 1540 = .ok (.iconst 0, 1) := by decide +kernel
theorem dL_law_1541 : decode cL_law 1541 = .ok (.ireturn, 1) := by decide +kernel
theorem dL_law_1542 : decode cL_law 1542 = .ok (.aload_n 1, 1) := by decide +kernel
theorem dL_law_1543 : decode cL_law 1543 = .ok (.aload_n 0, 1) := by decide +kernel
theorem dL_law_1544 : decode cL_law 1544 = .ok (.iload_n 3, 1) := by decide +kernel
theorem dL_law_1545 : decode cL_law 1545 = .ok (.iconst 1, 1) := by decide +kernel
theorem dL_law_1546 : decode cL_law 1546 = .ok (.iadd, 1) := by decide +kernel
theorem dL_law_1547 : decode cL_law 1547 = .ok (.iaload, 1) := by decide +kernel
theorem dL_law_1548 : decode cL_law 1548 = .ok (.aload_n 0, 1) := by decide +kernel
theorem dL_law_1549 : decode cL_law 1549 = .ok (.iload_n 3, 1) := by decide +kernel
theorem dL_law_1550 : decode cL_law 1550 = .ok (.iconst 2, 1) := by decide +kernel
theorem dL_law_1551 : decode cL_law 1551 = .ok (.iadd, 1) := by decide +kernel
theorem dL_law_1552 : decode cL_law 1552 = .ok (.iaload, 1) := by decide +kernel
theorem dL_law_1553 : decode cL_law 1553 = .ok (.aload_n 0, 1) := by decide +kernel
theorem dL_law_1554 : decode cL_law 1554 = .ok (.iload_n 3, 1) := by decide +kernel
theorem dL_law_1555 : decode cL_law 1555 = .ok (.iconst 3, 1) := by decide +kernel
theorem dL_law_1556 : decode cL_law 1556 = .ok (.iadd, 1) := by decide +kernel
theorem dL_law_1557 : decode cL_law 1557 = .ok (.iaload, 1) := by decide +kernel
theorem dL_law_1558 : decode cL_law 1558 = .ok (.aload_n 0, 1) := by decide +kernel
theorem dL_law_1559 : decode cL_law 1559 = .ok (.iload_n 3, 1) := by decide +kernel
theorem dL_law_1560 : decode cL_law 1560 = .ok (.iconst 4, 1) := by decide +kernel
theorem dL_law_1561 : decode cL_law 1561 = .ok (.iadd, 1) := by decide +kernel
theorem dL_law_1562 : decode cL_law 1562 = .ok (.iaload, 1) := by decide +kernel
theorem dL_law_1563 : decode cL_law 1563 = .ok (.aload_n 0, 1) := by decide +kernel
theorem dL_law_1564 : decode cL_law 1564 = .ok (.iload_n 3, 1) := by decide +kernel
theorem dL_law_1565 : decode cL_law 1565 = .ok (.iconst 5, 1) := by decide +kernel
theorem dL_law_1566 : decode cL_law 1566 = .ok (.iadd, 1) := by decide +kernel
theorem dL_law_1567 : decode cL_law 1567 = .ok (.iaload, 1) := by decide +kernel
theorem dL_law_1568 : decode cL_law 1568 = .ok (.aload_n 0, 1) := by decide +kernel
theorem dL_law_1569 : decode cL_law 1569 = .ok (.iload_n 3, 1) := by decide +kernel
theorem dL_law_1570 : decode cL_law 1570 = .ok (.bipush 6, 2) := by decide +kernel
theorem dL_law_1572 : decode cL_law 1572 = .ok (.iadd, 1) := by decide +kernel
theorem dL_law_1573 : decode cL_law 1573 = .ok (.iaload, 1) := by decide +kernel
theorem dL_law_1574 : decode cL_law 1574 = .ok (.ifCond .eq 7, 3) := by decide +kernel
theorem dL_law_1577 : decode cL_law 1577 = .ok (.iconst 1, 1) := by decide +kernel
theorem dL_law_1578 : decode cL_law 1578 = .ok (.goto 4, 3) := by decide +kernel
theorem dL_law_1581 : decode cL_law 1581 = .ok (.iconst 0, 1) := by decide +kernel
theorem dL_law_1582 : decode cL_law 1582 = .ok (.invokevirtual 175, 3) := by decide +kernel
theorem dL_law_1585 : decode cL_law 1585 = .ok (.aload_n 2, 1) := by decide +kernel
theorem dL_law_1586 : decode cL_law 1586 = .ok (.aload_n 0, 1) := by decide +kernel
theorem dL_law_1587 : decode cL_law 1587 = .ok (.iload_n 3, 1) := by decide +kernel
theorem dL_law_1588 : decode cL_law 1588 = .ok (.iconst 1, 1) := by decide +kernel
theorem dL_law_1589 : decode cL_law 1589 = .ok (.iadd, 1) := by decide +kernel
theorem dL_law_1590 : decode cL_law 1590 = .ok (.iaload, 1) := by decide +kernel
theorem dL_law_1591 : decode cL_law 1591 = .ok (.aload_n 0, 1) := by decide +kernel
theorem dL_law_1592 : decode cL_law 1592 = .ok (.iload_n 3, 1) := by decide +kernel
theorem dL_law_1593 : decode cL_law 1593 = .ok (.iconst 2, 1) := by decide +kernel
theorem dL_law_1594 : decode cL_law 1594 = .ok (.iadd, 1) := by decide +kernel
theorem dL_law_1595 : decode cL_law 1595 = .ok (.iaload, 1) := by decide +kernel
theorem dL_law_1596 : decode cL_law 1596 = .ok (.aload_n 0, 1) := by decide +kernel
theorem dL_law_1597 : decode cL_law 1597 = .ok (.iload_n 3, 1) := by decide +kernel
theorem dL_law_1598 : decode cL_law 1598 = .ok (.iconst 3, 1) := by decide +kernel
theorem dL_law_1599 : decode cL_law 1599 = .ok (.iadd, 1) := by decide +kernel
theorem dL_law_1600 : decode cL_law 1600 = .ok (.iaload, 1) := by decide +kernel
theorem dL_law_1601 : decode cL_law 1601 = .ok (.aload_n 0, 1) := by decide +kernel
theorem dL_law_1602 : decode cL_law 1602 = .ok (.iload_n 3, 1) := by decide +kernel
theorem dL_law_1603 : decode cL_law 1603 = .ok (.iconst 4, 1) := by decide +kernel
theorem dL_law_1604 : decode cL_law 1604 = .ok (.iadd, 1) := by decide +kernel
theorem dL_law_1605 : decode cL_law 1605 = .ok (.iaload, 1) := by decide +kernel
theorem dL_law_1606 : decode cL_law 1606 = .ok (.aload_n 0, 1) := by decide +kernel
theorem dL_law_1607 : decode cL_law 1607 = .ok (.iload_n 3, 1) := by decide +kernel
theorem dL_law_1608 : decode cL_law 1608 = .ok (.iconst 5, 1) := by decide +kernel
theorem dL_law_1609 : decode cL_law 1609 = .ok (.iadd, 1) := by decide +kernel
theorem dL_law_1610 : decode cL_law 1610 = .ok (.iaload, 1) := by decide +kernel
theorem dL_law_1611 : decode cL_law 1611 = .ok (.aload_n 0, 1) := by decide +kernel
theorem dL_law_1612 : decode cL_law 1612 = .ok (.iload_n 3, 1) := by decide +kernel
theorem dL_law_1613 : decode cL_law 1613 = .ok (.bipush 6, 2) := by decide +kernel
theorem dL_law_1615 : decode cL_law 1615 = .ok (.iadd, 1) := by decide +kernel
theorem dL_law_1616 : decode cL_law 1616 = .ok (.iaload, 1) := by decide +kernel
theorem dL_law_1617 : decode cL_law 1617 = .ok (.ifCond .eq 7, 3) := by decide +kernel
theorem dL_law_1620 : decode cL_law 1620 = .ok (.iconst 1, 1) := by decide +kernel
theorem dL_law_1621 : decode cL_law 1621 = .ok (.goto 4, 3) := by decide +kernel
theorem dL_law_1624 : decode cL_law 1624 = .ok (.iconst 0, 1) := by decide +kernel
theorem dL_law_1625 : decode cL_law 1625 = .ok (.invokevirtual 178, 3) := by decide +kernel
theorem dL_law_1628 : decode cL_law 1628 = .ok (.if_icmp .eq 272, 3) := by decide +kernel
theorem dL_law_1631 : decode cL_law 1631 = .ok (.iconst 0, 1) := by decide +kernel
theorem dL_law_1632 : decode cL_law 1632 = .ok (.ireturn, 1) := by decide +kernel
theorem dL_law_1633 : decode cL_law 1633 = .ok (.aload_n 1, 1) := by decide +kernel
theorem dL_law_1634 : decode cL_law 1634 = .ok (.aload_n 0, 1) := by decide +kernel
theorem dL_law_1635 : decode cL_law 1635 = .ok (.iload_n 3, 1) := by decide +kernel
theorem dL_law_1636 : decode cL_law 1636 = .ok (.iconst 1, 1) := by decide +kernel
theorem dL_law_1637 : decode cL_law 1637 = .ok (.iadd, 1) := by decide +kernel
theorem dL_law_1638 : decode cL_law 1638 = .ok (.iaload, 1) := by decide +kernel
theorem dL_law_1639 : decode cL_law 1639 = .ok (.aload_n 0, 1) := by decide +kernel
theorem dL_law_1640 : decode cL_law 1640 = .ok (.iload_n 3, 1) := by decide +kernel
theorem dL_law_1641 : decode cL_law 1641 = .ok (.iconst 2, 1) := by decide +kernel
theorem dL_law_1642 : decode cL_law 1642 = .ok (.iadd, 1) := by decide +kernel
theorem dL_law_1643 : decode cL_law 1643 = .ok (.iaload, 1) := by decide +kernel
theorem dL_law_1644 : decode cL_law 1644 = .ok (.aload_n 0, 1) := by decide +kernel
theorem dL_law_1645 : decode cL_law 1645 = .ok (.iload_n 3, 1) := by decide +kernel
theorem dL_law_1646 : decode cL_law 1646 = .ok (.iconst 3, 1) := by decide +kernel
theorem dL_law_1647 : decode cL_law 1647 = .ok (.iadd, 1) := by decide +kernel
theorem dL_law_1648 : decode cL_law 1648 = .ok (.iaload, 1) := by decide +kernel
theorem dL_law_1649 : decode cL_law 1649 = .ok (.aload_n 0, 1) := by decide +kernel
theorem dL_law_1650 : decode cL_law 1650 = .ok (.iload_n 3, 1) := by decide +kernel
theorem dL_law_1651 : decode cL_law 1651 = .ok (.iconst 4, 1) := by decide +kernel
theorem dL_law_1652 : decode cL_law 1652 = .ok (.iadd, 1) := by decide +kernel
theorem dL_law_1653 : decode cL_law 1653 = .ok (.iaload, 1) := by decide +kernel
theorem dL_law_1654 : decode cL_law 1654 = .ok (.aload_n 0, 1) := by decide +kernel
theorem dL_law_1655 : decode cL_law 1655 = .ok (.iload_n 3, 1) := by decide +kernel
theorem dL_law_1656 : decode cL_law 1656 = .ok (.iconst 5, 1) := by decide +kernel
theorem dL_law_1657 : decode cL_law 1657 = .ok (.iadd, 1) := by decide +kernel
theorem dL_law_1658 : decode cL_law 1658 = .ok (.iaload, 1) := by decide +kernel
theorem dL_law_1659 : decode cL_law 1659 = .ok (.ifCond .eq 7, 3) := by decide +kernel
theorem dL_law_1662 : decode cL_law 1662 = .ok (.iconst 1, 1) := by decide +kernel
theorem dL_law_1663 : decode cL_law 1663 = .ok (.goto 4, 3) := by decide +kernel
theorem dL_law_1666 : decode cL_law 1666 = .ok (.iconst 0, 1) := by decide +kernel
theorem dL_law_1667 : decode cL_law 1667 = .ok (.aload_n 0, 1) := by decide +kernel
theorem dL_law_1668 : decode cL_law 1668 = .ok (.iload_n 3, 1) := by decide +kernel
theorem dL_law_1669 : decode cL_law 1669 = .ok (.bipush 6, 2) := by decide +kernel
theorem dL_law_1671 : decode cL_law 1671 = .ok (.iadd, 1) := by decide +kernel
theorem dL_law_1672 : decode cL_law 1672 = .ok (.iaload, 1) := by decide +kernel
theorem dL_law_1673 : decode cL_law 1673 = .ok (.aload_n 0, 1) := by decide +kernel
theorem dL_law_1674 : decode cL_law 1674 = .ok (.iload_n 3, 1) := by decide +kernel
theorem dL_law_1675 : decode cL_law 1675 = .ok (.bipush 7, 2) := by decide +kernel
theorem dL_law_1677 : decode cL_law 1677 = .ok (.iadd, 1) := by decide +kernel
theorem dL_law_1678 : decode cL_law 1678 = .ok (.iaload, 1) := by decide +kernel
theorem dL_law_1679 : decode cL_law 1679 = .ok (.invokevirtual 179, 3) := by decide +kernel
theorem dL_law_1682 : decode cL_law 1682 = .ok (.aload_n 2, 1) := by decide +kernel
theorem dL_law_1683 : decode cL_law 1683 = .ok (.aload_n 0, 1) := by decide +kernel
theorem dL_law_1684 : decode cL_law 1684 = .ok (.iload_n 3, 1) := by decide +kernel
theorem dL_law_1685 : decode cL_law 1685 = .ok (.iconst 1, 1) := by decide +kernel
theorem dL_law_1686 : decode cL_law 1686 = .ok (.iadd, 1) := by decide +kernel
theorem dL_law_1687 : decode cL_law 1687 = .ok (.iaload, 1) := by decide +kernel
theorem dL_law_1688 : decode cL_law 1688 = .ok (.aload_n 0, 1) := by decide +kernel
theorem dL_law_1689 : decode cL_law 1689 = .ok (.iload_n 3, 1) := by decide +kernel
theorem dL_law_1690 : decode cL_law 1690 = .ok (.iconst 2, 1) := by decide +kernel
theorem dL_law_1691 : decode cL_law 1691 = .ok (.iadd, 1) := by decide +kernel
theorem dL_law_1692 : decode cL_law 1692 = .ok (.iaload, 1) := by decide +kernel
theorem dL_law_1693 : decode cL_law 1693 = .ok (.aload_n 0, 1) := by decide +kernel
theorem dL_law_1694 : decode cL_law 1694 = .ok (.iload_n 3, 1) := by decide +kernel
theorem dL_law_1695 : decode cL_law 1695 = .ok (.iconst 3, 1) := by decide +kernel
theorem dL_law_1696 : decode cL_law 1696 = .ok (.iadd, 1) := by decide +kernel
theorem dL_law_1697 : decode cL_law 1697 = .ok (.iaload, 1) := by decide +kernel
theorem dL_law_1698 : decode cL_law 1698 = .ok (.aload_n 0, 1) := by decide +kernel
theorem dL_law_1699 : decode cL_law 1699 = .ok (.iload_n 3, 1) := by decide +kernel
theorem dL_law_1700 : decode cL_law 1700 = .ok (.iconst 4, 1) := by decide +kernel
theorem dL_law_1701 : decode cL_law 1701 = .ok (.iadd, 1) := by decide +kernel
theorem dL_law_1702 : decode cL_law 1702 = .ok (.iaload, 1) := by decide +kernel
theorem dL_law_1703 : decode cL_law 1703 = .ok (.aload_n 0, 1) := by decide +kernel
theorem dL_law_1704 : decode cL_law 1704 = .ok (.iload_n 3, 1) := by decide +kernel
theorem dL_law_1705 : decode cL_law 1705 = .ok (.iconst 5, 1) := by decide +kernel
theorem dL_law_1706 : decode cL_law 1706 = .ok (.iadd, 1) := by decide +kernel
theorem dL_law_1707 : decode cL_law 1707 = .ok (.iaload, 1) := by decide +kernel
theorem dL_law_1708 : decode cL_law 1708 = .ok (.ifCond .eq 7, 3) := by decide +kernel
theorem dL_law_1711 : decode cL_law 1711 = .ok (.iconst 1, 1) := by decide +kernel
theorem dL_law_1712 : decode cL_law 1712 = .ok (.goto 4, 3) := by decide +kernel
theorem dL_law_1715 : decode cL_law 1715 = .ok (.iconst 0, 1) := by decide +kernel
theorem dL_law_1716 : decode cL_law 1716 = .ok (.aload_n 0, 1) := by decide +kernel
theorem dL_law_1717 : decode cL_law 1717 = .ok (.iload_n 3, 1) := by decide +kernel
theorem dL_law_1718 : decode cL_law 1718 = .ok (.bipush 6, 2) := by decide +kernel
theorem dL_law_1720 : decode cL_law 1720 = .ok (.iadd, 1) := by decide +kernel
theorem dL_law_1721 : decode cL_law 1721 = .ok (.iaload, 1) := by decide +kernel
theorem dL_law_1722 : decode cL_law 1722 = .ok (.aload_n 0, 1) := by decide +kernel
theorem dL_law_1723 : decode cL_law 1723 = .ok (.iload_n 3, 1) := by decide +kernel
theorem dL_law_1724 : decode cL_law 1724 = .ok (.bipush 7, 2) := by decide +kernel
theorem dL_law_1726 : decode cL_law 1726 = .ok (.iadd, 1) := by decide +kernel
theorem dL_law_1727 : decode cL_law 1727 = .ok (.iaload, 1) := by decide +kernel
theorem dL_law_1728 : decode cL_law 1728 = .ok (.invokevirtual 183, 3) := by decide +kernel
theorem dL_law_1731 : decode cL_law 1731 = .ok (.if_icmp .eq 169, 3) := by decide +kernel
theorem dL_law_1734 : decode cL_law 1734 = .ok (.iconst 0, 1) := by decide +kernel
theorem dL_law_1735 : decode cL_law 1735 = .ok (.ireturn, 1) := by decide +kernel
theorem dL_law_1736 : decode cL_law 1736 = .ok (.aload_n 1, 1) := by decide +kernel
theorem dL_law_1737 : decode cL_law 1737 = .ok (.aload_n 0, 1) := by decide +kernel
theorem dL_law_1738 : decode cL_law 1738 = .ok (.iload_n 3, 1) := by decide +kernel
theorem dL_law_1739 : decode cL_law 1739 = .ok (.iconst 1, 1) := by decide +kernel
theorem dL_law_1740 : decode cL_law 1740 = .ok (.iadd, 1) := by decide +kernel
theorem dL_law_1741 : decode cL_law 1741 = .ok (.iaload, 1) := by decide +kernel
theorem dL_law_1742 : decode cL_law 1742 = .ok (.invokevirtual 184, 3) := by decide +kernel
theorem dL_law_1745 : decode cL_law 1745 = .ok (.aload_n 2, 1) := by decide +kernel
theorem dL_law_1746 : decode cL_law 1746 = .ok (.aload_n 0, 1) := by decide +kernel
theorem dL_law_1747 : decode cL_law 1747 = .ok (.iload_n 3, 1) := by decide +kernel
theorem dL_law_1748 : decode cL_law 1748 = .ok (.iconst 1, 1) := by decide +kernel
theorem dL_law_1749 : decode cL_law 1749 = .ok (.iadd, 1) := by decide +kernel
theorem dL_law_1750 : decode cL_law 1750 = .ok (.iaload, 1) := by decide +kernel
theorem dL_law_1751 : decode cL_law 1751 = .ok (.invokevirtual 187, 3) := by decide +kernel
theorem dL_law_1754 : decode cL_law 1754 = .ok (.if_icmp .eq 146, 3) := by decide +kernel
theorem dL_law_1757 : decode cL_law 1757 = .ok (.iconst 0, 1) := by decide +kernel
theorem dL_law_1758 : decode cL_law 1758 = .ok (.ireturn, 1) := by decide +kernel
theorem dL_law_1759 : decode cL_law 1759 = .ok (.aload_n 1, 1) := by decide +kernel
theorem dL_law_1760 : decode cL_law 1760 = .ok (.aload_n 0, 1) := by decide +kernel
theorem dL_law_1761 : decode cL_law 1761 = .ok (.iload_n 3, 1) := by decide +kernel
theorem dL_law_1762 : decode cL_law 1762 = .ok (.iconst 1, 1) := by decide +kernel
theorem dL_law_1763 : decode cL_law 1763 = .ok (.iadd, 1) := by decide +kernel
theorem dL_law_1764 : decode cL_law 1764 = .ok (.iaload, 1) := by decide +kernel
theorem dL_law_1765 : decode cL_law 1765 = .ok (.aload_n 0, 1) := by decide +kernel
theorem dL_law_1766 : decode cL_law 1766 = .ok (.iload_n 3, 1) := by decide +kernel
theorem dL_law_1767 : decode cL_law 1767 = .ok (.iconst 2, 1) := by decide +kernel
theorem dL_law_1768 : decode cL_law 1768 = .ok (.iadd, 1) := by decide +kernel
theorem dL_law_1769 : decode cL_law 1769 = .ok (.iaload, 1) := by decide +kernel
theorem dL_law_1770 : decode cL_law 1770 = .ok (.aload_n 0, 1) := by decide +kernel
theorem dL_law_1771 : decode cL_law 1771 = .ok (.iload_n 3, 1) := by decide +kernel
theorem dL_law_1772 : decode cL_law 1772 = .ok (.iconst 3, 1) := by decide +kernel
theorem dL_law_1773 : decode cL_law 1773 = .ok (.iadd, 1) := by decide +kernel
theorem dL_law_1774 : decode cL_law 1774 = .ok (.iaload, 1) := by decide +kernel
theorem dL_law_1775 : decode cL_law 1775 = .ok (.invokevirtual 188, 3) := by decide +kernel
theorem dL_law_1778 : decode cL_law 1778 = .ok (.aload_n 2, 1) := by decide +kernel
theorem dL_law_1779 : decode cL_law 1779 = .ok (.aload_n 0, 1) := by decide +kernel
theorem dL_law_1780 : decode cL_law 1780 = .ok (.iload_n 3, 1) := by decide +kernel
theorem dL_law_1781 : decode cL_law 1781 = .ok (.iconst 1, 1) := by decide +kernel
theorem dL_law_1782 : decode cL_law 1782 = .ok (.iadd, 1) := by decide +kernel
theorem dL_law_1783 : decode cL_law 1783 = .ok (.iaload, 1) := by decide +kernel
theorem dL_law_1784 : decode cL_law 1784 = .ok (.aload_n 0, 1) := by decide +kernel
theorem dL_law_1785 : decode cL_law 1785 = .ok (.iload_n 3, 1) := by decide +kernel
theorem dL_law_1786 : decode cL_law 1786 = .ok (.iconst 2, 1) := by decide +kernel
theorem dL_law_1787 : decode cL_law 1787 = .ok (.iadd, 1) := by decide +kernel
theorem dL_law_1788 : decode cL_law 1788 = .ok (.iaload, 1) := by decide +kernel
theorem dL_law_1789 : decode cL_law 1789 = .ok (.aload_n 0, 1) := by decide +kernel
theorem dL_law_1790 : decode cL_law 1790 = .ok (.iload_n 3, 1) := by decide +kernel
theorem dL_law_1791 : decode cL_law 1791 = .ok (.iconst 3, 1) := by decide +kernel
theorem dL_law_1792 : decode cL_law 1792 = .ok (.iadd, 1) := by decide +kernel
theorem dL_law_1793 : decode cL_law 1793 = .ok (.iaload, 1) := by decide +kernel
theorem dL_law_1794 : decode cL_law 1794 = .ok (.invokevirtual 191, 3) := by decide +kernel
theorem dL_law_1797 : decode cL_law 1797 = .ok (.if_icmp .eq 103, 3) := by decide +kernel
theorem dL_law_1800 : decode cL_law 1800 = .ok (.iconst 0, 1) := by decide +kernel
theorem dL_law_1801 : decode cL_law 1801 = .ok (.ireturn, 1) := by decide +kernel
theorem dL_law_1802 : decode cL_law 1802 = .ok (.aload_n 1, 1) := by decide +kernel
theorem dL_law_1803 : decode cL_law 1803 = .ok (.invokevirtual 192, 3) := by decide +kernel
theorem dL_law_1806 : decode cL_law 1806 = .ok (.aload_n 2, 1) := by decide +kernel
theorem dL_law_1807 : decode cL_law 1807 = .ok (.invokevirtual 195, 3) := by decide +kernel
theorem dL_law_1810 : decode cL_law 1810 = .ok (.if_icmp .eq 90, 3) := by decide +kernel
theorem dL_law_1813 : decode cL_law 1813 = .ok (.iconst 0, 1) := by decide +kernel
theorem dL_law_1814 : decode cL_law 1814 = .ok (.ireturn, 1) := by decide +kernel
theorem dL_law_1815 : decode cL_law 1815 = .ok (.aload_n 1, 1) := by decide +kernel
theorem dL_law_1816 : decode cL_law 1816 = .ok (.aload_n 0, 1) := by decide +kernel
theorem dL_law_1817 : decode cL_law 1817 = .ok (.iload_n 3, 1) := by decide +kernel
theorem dL_law_1818 : decode cL_law 1818 = .ok (.iconst 1, 1) := by decide +kernel
theorem dL_law_1819 : decode cL_law 1819 = .ok (.iadd, 1) := by decide +kernel
theorem dL_law_1820 : decode cL_law 1820 = .ok (.iaload, 1) := by decide +kernel
theorem dL_law_1821 : decode cL_law 1821 = .ok (.invokevirtual 196, 3) := by decide +kernel
theorem dL_law_1824 : decode cL_law 1824 = .ok (.aload_n 2, 1) := by decide +kernel
theorem dL_law_1825 : decode cL_law 1825 = .ok (.aload_n 0, 1) := by decide +kernel
theorem dL_law_1826 : decode cL_law 1826 = .ok (.iload_n 3, 1) := by decide +kernel
theorem dL_law_1827 : decode cL_law 1827 = .ok (.iconst 1, 1) := by decide +kernel
theorem dL_law_1828 : decode cL_law 1828 = .ok (.iadd, 1) := by decide +kernel
theorem dL_law_1829 : decode cL_law 1829 = .ok (.iaload, 1) := by decide +kernel
theorem dL_law_1830 : decode cL_law 1830 = .ok (.invokevirtual 199, 3) := by decide +kernel
theorem dL_law_1833 : decode cL_law 1833 = .ok (.if_icmp .eq 67, 3) := by decide +kernel
theorem dL_law_1836 : decode cL_law 1836 = .ok (.iconst 0, 1) := by decide +kernel
theorem dL_law_1837 : decode cL_law 1837 = .ok (.ireturn, 1) := by decide +kernel
theorem dL_law_1838 : decode cL_law 1838 = .ok (.aload_n 1, 1) := by decide +kernel
theorem dL_law_1839 : decode cL_law 1839 = .ok (.aload_n 0, 1) := by decide +kernel
theorem dL_law_1840 : decode cL_law 1840 = .ok (.iload_n 3, 1) := by decide +kernel
theorem dL_law_1841 : decode cL_law 1841 = .ok (.iconst 1, 1) := by decide +kernel
theorem dL_law_1842 : decode cL_law 1842 = .ok (.iadd, 1) := by decide +kernel
theorem dL_law_1843 : decode cL_law 1843 = .ok (.iaload, 1) := by decide +kernel
theorem dL_law_1844 : decode cL_law 1844 = .ok (.ifCond .eq 7, 3) := by decide +kernel
theorem dL_law_1847 : decode cL_law 1847 = .ok (.iconst 1, 1) := by decide +kernel
theorem dL_law_1848 : decode cL_law 1848 = .ok (.goto 4, 3) := by decide +kernel
theorem dL_law_1851 : decode cL_law 1851 = .ok (.iconst 0, 1) := by decide +kernel
theorem dL_law_1852 : decode cL_law 1852 = .ok (.invokevirtual 200, 3) := by decide +kernel
theorem dL_law_1855 : decode cL_law 1855 = .ok (.aload_n 2, 1) := by decide +kernel
theorem dL_law_1856 : decode cL_law 1856 = .ok (.aload_n 0, 1) := by decide +kernel
theorem dL_law_1857 : decode cL_law 1857 = .ok (.iload_n 3, 1) := by decide +kernel
theorem dL_law_1858 : decode cL_law 1858 = .ok (.iconst 1, 1) := by decide +kernel
theorem dL_law_1859 : decode cL_law 1859 = .ok (.iadd, 1) := by decide +kernel
theorem dL_law_1860 : decode cL_law 1860 = .ok (.iaload, 1) := by decide +kernel
theorem dL_law_1861 : decode cL_law 1861 = .ok (.ifCond .eq 7, 3) := by decide +kernel
theorem dL_law_1864 : decode cL_law 1864 = .ok (.iconst 1, 1) := by decide +kernel
theorem dL_law_1865 : decode cL_law 1865 = .ok (.goto 4, 3) := by decide +kernel
theorem dL_law_1868 : decode cL_law 1868 = .ok (.iconst 0, 1) := by decide +kernel
theorem dL_law_1869 : decode cL_law 1869 = .ok (.invokevirtual 204, 3) := by decide +kernel
theorem dL_law_1872 : decode cL_law 1872 = .ok (.if_icmp .eq 28, 3) := by decide +kernel
theorem dL_law_1875 : decode cL_law 1875 = .ok (.iconst 0, 1) := by decide +kernel
theorem dL_law_1876 : decode cL_law 1876 = .ok (.ireturn, 1) := by decide +kernel
theorem dL_law_1877 : decode cL_law 1877 = .ok (.aload_n 1, 1) := by decide +kernel
theorem dL_law_1878 : decode cL_law 1878 = .ok (.aload_n 0, 1) := by decide +kernel
theorem dL_law_1879 : decode cL_law 1879 = .ok (.iload_n 3, 1) := by decide +kernel
theorem dL_law_1880 : decode cL_law 1880 = .ok (.iconst 1, 1) := by decide +kernel
theorem dL_law_1881 : decode cL_law 1881 = .ok (.iadd, 1) := by decide +kernel
theorem dL_law_1882 : decode cL_law 1882 = .ok (.iaload, 1) := by decide +kernel
theorem dL_law_1883 : decode cL_law 1883 = .ok (.invokevirtual 205, 3) := by decide +kernel
theorem dL_law_1886 : decode cL_law 1886 = .ok (.aload_n 2, 1) := by decide +kernel
theorem dL_law_1887 : decode cL_law 1887 = .ok (.aload_n 0, 1) := by decide +kernel
theorem dL_law_1888 : decode cL_law 1888 = .ok (.iload_n 3, 1) := by decide +kernel
theorem dL_law_1889 : decode cL_law 1889 = .ok (.iconst 1, 1) := by decide +kernel
theorem dL_law_1890 : decode cL_law 1890 = .ok (.iadd, 1) := by decide +kernel
theorem dL_law_1891 : decode cL_law 1891 = .ok (.iaload, 1) := by decide +kernel
theorem dL_law_1892 : decode cL_law 1892 = .ok (.invokevirtual 208, 3) := by decide +kernel
theorem dL_law_1895 : decode cL_law 1895 = .ok (.if_icmp .eq 5, 3) := by decide +kernel
theorem dL_law_1898 : decode cL_law 1898 = .ok (.iconst 0, 1) := by decide +kernel
theorem dL_law_1899 : decode cL_law 1899 = .ok (.ireturn, 1) := by decide +kernel
theorem dL_law_1900 : decode cL_law 1900 = .ok (.iinc 3 8, 3) := by decide +kernel
theorem dL_law_1903 : decode cL_law 1903 = .ok (.goto (-1885), 3) := by decide +kernel
theorem dL_law_1906 : decode cL_law 1906 = .ok (.iconst 1, 1) := by decide +kernel
theorem dL_law_1907 : decode cL_law 1907 = .ok (.ireturn, 1) := by decide +kernel
set_option maxHeartbeats 4000000 in
theorem t_L_law_1900 {X : sj_X} {s0 : sj_Mem} {N : Nat} {q : Int × sj_Mem} {k18 : Option Nat → Option Nat → Int → sj_Mem → Option (Int × sj_Mem)} (hk18 : ∀ (x1 : Option Nat) (x2 : Option Nat) (x3 : Int) (s : sj_Mem), k18 x1 x2 x3 s = some q → sj_T X m_L_law s0 (some (sj_i q.1), q.2) 18 [some (sj_t 1000), some (sj_r x1), some (sj_r x2), some (sj_i x3)] [] s) :
    ∀ (x1 : Option Nat) (x2 : Option Nat) (x3 : Int) (s : sj_Mem), f_L_law_1900 N (sj_scL X) (sj_scx X) k18 x1 x2 x3 s = some q → sj_T X m_L_law s0 (some (sj_i q.1), q.2) 1900 [some (sj_t 1000), some (sj_r x1), some (sj_r x2), some (sj_i x3)] [] s := by
  intro x1 x2 x3 s h
  unfold f_L_law_1900 at h
  refine r_iinc (ln := fun w => [some (sj_t 1000), some (sj_r x1), some (sj_r x2), some (sj_i w)]) (pc := 1900) h dL_law_1900 rfl (Nat.le_of_ble_eq_true rfl) (fun _ => rfl) (fun v1 h => ?_)
  refine r_goto (pc := 1903) (tgt := 18) dL_law_1903 (by decide) ?_
  exact sj_weak (l2 := [some (sj_t 1000), some (sj_r x1), some (sj_r x2), some (sj_i v1)]) (⟨rfl, ⟨rfl, ⟨rfl, ⟨rfl, trivial⟩⟩⟩⟩) (hk18 x1 x2 v1 s h)
set_option maxHeartbeats 4000000 in
theorem t_L_law_645 {X : sj_X} {s0 : sj_Mem} {N : Nat} {q : Int × sj_Mem} {k18 : Option Nat → Option Nat → Int → sj_Mem → Option (Int × sj_Mem)} (hk18 : ∀ (x1 : Option Nat) (x2 : Option Nat) (x3 : Int) (s : sj_Mem), k18 x1 x2 x3 s = some q → sj_T X m_L_law s0 (some (sj_i q.1), q.2) 18 [some (sj_t 1000), some (sj_r x1), some (sj_r x2), some (sj_i x3)] [] s) :
    ∀ (x1 : Option Nat) (x2 : Option Nat) (x3 : Int) (y0 : Int) (y1 : Int) (y2 : Int) (y3 : Int) (y4 : Option Nat) (y5 : Int) (s : sj_Mem), f_L_law_645 N (sj_scL X) (sj_scx X) k18 x1 x2 x3 y0 y1 y2 y3 y4 y5 s = some q → sj_T X m_L_law s0 (some (sj_i q.1), q.2) 645 [some (sj_t 1000), some (sj_r x1), some (sj_r x2), some (sj_i x3)] [(sj_i y0), (sj_i y1), (sj_i y2), (sj_i y3), (sj_r y4), (sj_i y5)] s := by
  intro x1 x2 x3 y0 y1 y2 y3 y4 y5 s h
  unfold f_L_law_645 at h
  obtain ⟨a1, ea1, g⟩ := e_nn_some h
  clear h
  subst ea1
  have h := g
  clear g
  refine r_callV (pc := 645) (fun v => some (sj_i v)) (As := [sj_i y3, sj_i y2, sj_i y1, sj_i y0]) (rest := [(sj_i y5)]) h dL_law_645 mw_L_65 vw_X9_circle (fun _ _ hc => c_X9_circle hc) rfl ⟨(Nat.le_of_ble_eq_true rfl), (Nat.le_of_ble_eq_true rfl)⟩ (Nat.le_of_ble_eq_true rfl) rfl (fun v3 s2 h => ?_)
  refine r_icmp_eq (pc := 648) (tgt := 1900) h dL_law_648 (by decide) (fun h => ?_) (fun h => ?_)
  · exact sj_weak (l2 := [some (sj_t 1000), some (sj_r x1), some (sj_r x2), some (sj_i x3)]) (⟨rfl, ⟨rfl, ⟨rfl, ⟨rfl, trivial⟩⟩⟩⟩) (t_L_law_1900 hk18 x1 x2 x3 s2 h)
  · refine r_iconst (pc := 651) dL_law_651 ?_
    exact r_zret (pc := 652) h rfl dL_law_652
set_option maxHeartbeats 4000000 in
theorem t_L_law_613 {X : sj_X} {s0 : sj_Mem} {N : Nat} {q : Int × sj_Mem} {k18 : Option Nat → Option Nat → Int → sj_Mem → Option (Int × sj_Mem)} (hk18 : ∀ (x1 : Option Nat) (x2 : Option Nat) (x3 : Int) (s : sj_Mem), k18 x1 x2 x3 s = some q → sj_T X m_L_law s0 (some (sj_i q.1), q.2) 18 [some (sj_t 1000), some (sj_r x1), some (sj_r x2), some (sj_i x3)] [] s) :
    ∀ (x1 : Option Nat) (x2 : Option Nat) (x3 : Int) (y0 : Int) (y1 : Int) (y2 : Int) (y3 : Int) (y4 : Option Nat) (s : sj_Mem), f_L_law_613 N (sj_scL X) (sj_scx X) k18 x1 x2 x3 y0 y1 y2 y3 y4 s = some q → sj_T X m_L_law s0 (some (sj_i q.1), q.2) 613 [some (sj_t 1000), some (sj_r x1), some (sj_r x2), some (sj_i x3)] [(sj_i y0), (sj_i y1), (sj_i y2), (sj_i y3), (sj_r y4)] s := by
  intro x1 x2 x3 y0 y1 y2 y3 y4 s h
  unfold f_L_law_613 at h
  obtain ⟨a1, ea1, g⟩ := e_nn_some h
  clear h
  subst ea1
  have h := g
  clear g
  refine r_callV (pc := 613) (fun v => some (sj_i v)) (As := [sj_i y3, sj_i y2, sj_i y1, sj_i y0]) (rest := []) h dL_law_613 mw_L_61 vw_X8_circle (fun _ _ hc => c_X8_circle hc) rfl ⟨(Nat.le_of_ble_eq_true rfl), (Nat.le_of_ble_eq_true rfl)⟩ (Nat.le_of_ble_eq_true rfl) rfl (fun v3 s2 h => ?_)
  refine r_aload_n (pc := 616) dL_law_616 rfl rfl ?_
  refine r_tload_n (pc := 617) dL_law_617 rfl rfl ?_
  refine r_iload_n (pc := 618) dL_law_618 rfl rfl ?_
  refine r_iconst (pc := 619) dL_law_619 ?_
  refine r_iadd (pc := 620) dL_law_620 ?_
  refine r_saload (pc := 621) h dL_law_621 (fun v4 h => ?_)
  refine r_tload_n (pc := 622) dL_law_622 rfl rfl ?_
  refine r_iload_n (pc := 623) dL_law_623 rfl rfl ?_
  refine r_iconst (pc := 624) dL_law_624 ?_
  refine r_iadd (pc := 625) dL_law_625 ?_
  refine r_saload (pc := 626) h dL_law_626 (fun v5 h => ?_)
  refine r_tload_n (pc := 627) dL_law_627 rfl rfl ?_
  refine r_iload_n (pc := 628) dL_law_628 rfl rfl ?_
  refine r_iconst (pc := 629) dL_law_629 ?_
  refine r_iadd (pc := 630) dL_law_630 ?_
  refine r_saload (pc := 631) h dL_law_631 (fun v6 h => ?_)
  refine r_tload_n (pc := 632) dL_law_632 rfl rfl ?_
  refine r_iload_n (pc := 633) dL_law_633 rfl rfl ?_
  refine r_iconst (pc := 634) dL_law_634 ?_
  refine r_iadd (pc := 635) dL_law_635 ?_
  refine r_saload (pc := 636) h dL_law_636 (fun v7 h => ?_)
  refine r_if_eq (pc := 637) (tgt := 644) h dL_law_637 (by decide) (fun h => ?_) (fun h => ?_)
  · refine r_iconst (pc := 644) dL_law_644 ?_
    exact sj_weak (l2 := [some (sj_t 1000), some (sj_r x1), some (sj_r x2), some (sj_i x3)]) (⟨rfl, ⟨rfl, ⟨rfl, ⟨rfl, trivial⟩⟩⟩⟩) (t_L_law_645 hk18 x1 x2 x3 0 v6 v5 v4 x2 v3 s2 h)
  · refine r_iconst (pc := 640) dL_law_640 ?_
    refine r_goto (pc := 641) (tgt := 645) dL_law_641 (by decide) ?_
    exact sj_weak (l2 := [some (sj_t 1000), some (sj_r x1), some (sj_r x2), some (sj_i x3)]) (⟨rfl, ⟨rfl, ⟨rfl, ⟨rfl, trivial⟩⟩⟩⟩) (t_L_law_645 hk18 x1 x2 x3 1 v6 v5 v4 x2 v3 s2 h)
set_option maxHeartbeats 4000000 in
theorem t_L_law_717 {X : sj_X} {s0 : sj_Mem} {N : Nat} {q : Int × sj_Mem} {k18 : Option Nat → Option Nat → Int → sj_Mem → Option (Int × sj_Mem)} (hk18 : ∀ (x1 : Option Nat) (x2 : Option Nat) (x3 : Int) (s : sj_Mem), k18 x1 x2 x3 s = some q → sj_T X m_L_law s0 (some (sj_i q.1), q.2) 18 [some (sj_t 1000), some (sj_r x1), some (sj_r x2), some (sj_i x3)] [] s) :
    ∀ (x1 : Option Nat) (x2 : Option Nat) (x3 : Int) (y0 : Int) (y1 : Option Nat) (y2 : Int) (s : sj_Mem), f_L_law_717 N (sj_scL X) (sj_scx X) k18 x1 x2 x3 y0 y1 y2 s = some q → sj_T X m_L_law s0 (some (sj_i q.1), q.2) 717 [some (sj_t 1000), some (sj_r x1), some (sj_r x2), some (sj_i x3)] [(sj_i y0), (sj_r y1), (sj_i y2)] s := by
  intro x1 x2 x3 y0 y1 y2 s h
  unfold f_L_law_717 at h
  obtain ⟨a1, ea1, g⟩ := e_nn_some h
  clear h
  subst ea1
  have h := g
  clear g
  refine r_callV (pc := 717) (fun v => some (sj_i v)) (As := [sj_i y0]) (rest := [(sj_i y2)]) h dL_law_717 mw_L_74 vw_X9_points (fun _ _ hc => c_X9_points hc) rfl ⟨(Nat.le_of_ble_eq_true rfl), (Nat.le_of_ble_eq_true rfl)⟩ (Nat.le_of_ble_eq_true rfl) rfl (fun v3 s2 h => ?_)
  refine r_icmp_eq (pc := 720) (tgt := 1900) h dL_law_720 (by decide) (fun h => ?_) (fun h => ?_)
  · exact sj_weak (l2 := [some (sj_t 1000), some (sj_r x1), some (sj_r x2), some (sj_i x3)]) (⟨rfl, ⟨rfl, ⟨rfl, ⟨rfl, trivial⟩⟩⟩⟩) (t_L_law_1900 hk18 x1 x2 x3 s2 h)
  · refine r_iconst (pc := 723) dL_law_723 ?_
    exact r_zret (pc := 724) h rfl dL_law_724
set_option maxHeartbeats 4000000 in
theorem t_L_law_700 {X : sj_X} {s0 : sj_Mem} {N : Nat} {q : Int × sj_Mem} {k18 : Option Nat → Option Nat → Int → sj_Mem → Option (Int × sj_Mem)} (hk18 : ∀ (x1 : Option Nat) (x2 : Option Nat) (x3 : Int) (s : sj_Mem), k18 x1 x2 x3 s = some q → sj_T X m_L_law s0 (some (sj_i q.1), q.2) 18 [some (sj_t 1000), some (sj_r x1), some (sj_r x2), some (sj_i x3)] [] s) :
    ∀ (x1 : Option Nat) (x2 : Option Nat) (x3 : Int) (y0 : Int) (y1 : Option Nat) (s : sj_Mem), f_L_law_700 N (sj_scL X) (sj_scx X) k18 x1 x2 x3 y0 y1 s = some q → sj_T X m_L_law s0 (some (sj_i q.1), q.2) 700 [some (sj_t 1000), some (sj_r x1), some (sj_r x2), some (sj_i x3)] [(sj_i y0), (sj_r y1)] s := by
  intro x1 x2 x3 y0 y1 s h
  unfold f_L_law_700 at h
  obtain ⟨a1, ea1, g⟩ := e_nn_some h
  clear h
  subst ea1
  have h := g
  clear g
  refine r_callV (pc := 700) (fun v => some (sj_i v)) (As := [sj_i y0]) (rest := []) h dL_law_700 mw_L_70 vw_X8_points (fun _ _ hc => c_X8_points hc) rfl ⟨(Nat.le_of_ble_eq_true rfl), (Nat.le_of_ble_eq_true rfl)⟩ (Nat.le_of_ble_eq_true rfl) rfl (fun v3 s2 h => ?_)
  refine r_aload_n (pc := 703) dL_law_703 rfl rfl ?_
  refine r_tload_n (pc := 704) dL_law_704 rfl rfl ?_
  refine r_iload_n (pc := 705) dL_law_705 rfl rfl ?_
  refine r_iconst (pc := 706) dL_law_706 ?_
  refine r_iadd (pc := 707) dL_law_707 ?_
  refine r_saload (pc := 708) h dL_law_708 (fun v4 h => ?_)
  refine r_if_eq (pc := 709) (tgt := 716) h dL_law_709 (by decide) (fun h => ?_) (fun h => ?_)
  · refine r_iconst (pc := 716) dL_law_716 ?_
    exact sj_weak (l2 := [some (sj_t 1000), some (sj_r x1), some (sj_r x2), some (sj_i x3)]) (⟨rfl, ⟨rfl, ⟨rfl, ⟨rfl, trivial⟩⟩⟩⟩) (t_L_law_717 hk18 x1 x2 x3 0 x2 v3 s2 h)
  · refine r_iconst (pc := 712) dL_law_712 ?_
    refine r_goto (pc := 713) (tgt := 717) dL_law_713 (by decide) ?_
    exact sj_weak (l2 := [some (sj_t 1000), some (sj_r x1), some (sj_r x2), some (sj_i x3)]) (⟨rfl, ⟨rfl, ⟨rfl, ⟨rfl, trivial⟩⟩⟩⟩) (t_L_law_717 hk18 x1 x2 x3 1 x2 v3 s2 h)
set_option maxHeartbeats 4000000 in
theorem t_L_law_766 {X : sj_X} {s0 : sj_Mem} {N : Nat} {q : Int × sj_Mem} {k18 : Option Nat → Option Nat → Int → sj_Mem → Option (Int × sj_Mem)} (hk18 : ∀ (x1 : Option Nat) (x2 : Option Nat) (x3 : Int) (s : sj_Mem), k18 x1 x2 x3 s = some q → sj_T X m_L_law s0 (some (sj_i q.1), q.2) 18 [some (sj_t 1000), some (sj_r x1), some (sj_r x2), some (sj_i x3)] [] s) :
    ∀ (x1 : Option Nat) (x2 : Option Nat) (x3 : Int) (y0 : Int) (y1 : Int) (y2 : Option Nat) (y3 : Int) (s : sj_Mem), f_L_law_766 N (sj_scL X) (sj_scx X) k18 x1 x2 x3 y0 y1 y2 y3 s = some q → sj_T X m_L_law s0 (some (sj_i q.1), q.2) 766 [some (sj_t 1000), some (sj_r x1), some (sj_r x2), some (sj_i x3)] [(sj_i y0), (sj_i y1), (sj_r y2), (sj_i y3)] s := by
  intro x1 x2 x3 y0 y1 y2 y3 s h
  unfold f_L_law_766 at h
  obtain ⟨a1, ea1, g⟩ := e_nn_some h
  clear h
  subst ea1
  have h := g
  clear g
  refine r_callV (pc := 766) (fun v => some (sj_i v)) (As := [sj_i y1, sj_i y0]) (rest := [(sj_i y3)]) h dL_law_766 mw_L_79 vw_X9_worst (fun _ _ hc => c_X9_worst hc) rfl ⟨(Nat.le_of_ble_eq_true rfl), (Nat.le_of_ble_eq_true rfl)⟩ (Nat.le_of_ble_eq_true rfl) rfl (fun v3 s2 h => ?_)
  refine r_icmp_eq (pc := 769) (tgt := 1900) h dL_law_769 (by decide) (fun h => ?_) (fun h => ?_)
  · exact sj_weak (l2 := [some (sj_t 1000), some (sj_r x1), some (sj_r x2), some (sj_i x3)]) (⟨rfl, ⟨rfl, ⟨rfl, ⟨rfl, trivial⟩⟩⟩⟩) (t_L_law_1900 hk18 x1 x2 x3 s2 h)
  · refine r_iconst (pc := 772) dL_law_772 ?_
    exact r_zret (pc := 773) h rfl dL_law_773
set_option maxHeartbeats 4000000 in
theorem t_L_law_744 {X : sj_X} {s0 : sj_Mem} {N : Nat} {q : Int × sj_Mem} {k18 : Option Nat → Option Nat → Int → sj_Mem → Option (Int × sj_Mem)} (hk18 : ∀ (x1 : Option Nat) (x2 : Option Nat) (x3 : Int) (s : sj_Mem), k18 x1 x2 x3 s = some q → sj_T X m_L_law s0 (some (sj_i q.1), q.2) 18 [some (sj_t 1000), some (sj_r x1), some (sj_r x2), some (sj_i x3)] [] s) :
    ∀ (x1 : Option Nat) (x2 : Option Nat) (x3 : Int) (y0 : Int) (y1 : Int) (y2 : Option Nat) (s : sj_Mem), f_L_law_744 N (sj_scL X) (sj_scx X) k18 x1 x2 x3 y0 y1 y2 s = some q → sj_T X m_L_law s0 (some (sj_i q.1), q.2) 744 [some (sj_t 1000), some (sj_r x1), some (sj_r x2), some (sj_i x3)] [(sj_i y0), (sj_i y1), (sj_r y2)] s := by
  intro x1 x2 x3 y0 y1 y2 s h
  unfold f_L_law_744 at h
  obtain ⟨a1, ea1, g⟩ := e_nn_some h
  clear h
  subst ea1
  have h := g
  clear g
  refine r_callV (pc := 744) (fun v => some (sj_i v)) (As := [sj_i y1, sj_i y0]) (rest := []) h dL_law_744 mw_L_75 vw_X8_worst (fun _ _ hc => c_X8_worst hc) rfl ⟨(Nat.le_of_ble_eq_true rfl), (Nat.le_of_ble_eq_true rfl)⟩ (Nat.le_of_ble_eq_true rfl) rfl (fun v3 s2 h => ?_)
  refine r_aload_n (pc := 747) dL_law_747 rfl rfl ?_
  refine r_tload_n (pc := 748) dL_law_748 rfl rfl ?_
  refine r_iload_n (pc := 749) dL_law_749 rfl rfl ?_
  refine r_iconst (pc := 750) dL_law_750 ?_
  refine r_iadd (pc := 751) dL_law_751 ?_
  refine r_saload (pc := 752) h dL_law_752 (fun v4 h => ?_)
  refine r_tload_n (pc := 753) dL_law_753 rfl rfl ?_
  refine r_iload_n (pc := 754) dL_law_754 rfl rfl ?_
  refine r_iconst (pc := 755) dL_law_755 ?_
  refine r_iadd (pc := 756) dL_law_756 ?_
  refine r_saload (pc := 757) h dL_law_757 (fun v5 h => ?_)
  refine r_if_eq (pc := 758) (tgt := 765) h dL_law_758 (by decide) (fun h => ?_) (fun h => ?_)
  · refine r_iconst (pc := 765) dL_law_765 ?_
    exact sj_weak (l2 := [some (sj_t 1000), some (sj_r x1), some (sj_r x2), some (sj_i x3)]) (⟨rfl, ⟨rfl, ⟨rfl, ⟨rfl, trivial⟩⟩⟩⟩) (t_L_law_766 hk18 x1 x2 x3 0 v4 x2 v3 s2 h)
  · refine r_iconst (pc := 761) dL_law_761 ?_
    refine r_goto (pc := 762) (tgt := 766) dL_law_762 (by decide) ?_
    exact sj_weak (l2 := [some (sj_t 1000), some (sj_r x1), some (sj_r x2), some (sj_i x3)]) (⟨rfl, ⟨rfl, ⟨rfl, ⟨rfl, trivial⟩⟩⟩⟩) (t_L_law_766 hk18 x1 x2 x3 1 v4 x2 v3 s2 h)
set_option maxHeartbeats 4000000 in
theorem t_L_law_1157 {X : sj_X} {s0 : sj_Mem} {N : Nat} {q : Int × sj_Mem} {k18 : Option Nat → Option Nat → Int → sj_Mem → Option (Int × sj_Mem)} (hk18 : ∀ (x1 : Option Nat) (x2 : Option Nat) (x3 : Int) (s : sj_Mem), k18 x1 x2 x3 s = some q → sj_T X m_L_law s0 (some (sj_i q.1), q.2) 18 [some (sj_t 1000), some (sj_r x1), some (sj_r x2), some (sj_i x3)] [] s) :
    ∀ (x1 : Option Nat) (x2 : Option Nat) (x3 : Int) (y0 : Int) (y1 : Int) (y2 : Int) (y3 : Int) (y4 : Option Nat) (y5 : Int) (s : sj_Mem), f_L_law_1157 N (sj_scL X) (sj_scx X) k18 x1 x2 x3 y0 y1 y2 y3 y4 y5 s = some q → sj_T X m_L_law s0 (some (sj_i q.1), q.2) 1157 [some (sj_t 1000), some (sj_r x1), some (sj_r x2), some (sj_i x3)] [(sj_i y0), (sj_i y1), (sj_i y2), (sj_i y3), (sj_r y4), (sj_i y5)] s := by
  intro x1 x2 x3 y0 y1 y2 y3 y4 y5 s h
  unfold f_L_law_1157 at h
  obtain ⟨a1, ea1, g⟩ := e_nn_some h
  clear h
  subst ea1
  have h := g
  clear g
  refine r_callV (pc := 1157) (fun v => some (sj_i v)) (As := [sj_i y3, sj_i y2, sj_i y1, sj_i y0]) (rest := [(sj_i y5)]) h dL_law_1157 mw_L_137 vw_X9_tried (fun _ _ hc => c_X9_tried hc) rfl ⟨(Nat.le_of_ble_eq_true rfl), (Nat.le_of_ble_eq_true rfl)⟩ (Nat.le_of_ble_eq_true rfl) rfl (fun v3 s2 h => ?_)
  refine r_icmp_eq (pc := 1160) (tgt := 1900) h dL_law_1160 (by decide) (fun h => ?_) (fun h => ?_)
  · exact sj_weak (l2 := [some (sj_t 1000), some (sj_r x1), some (sj_r x2), some (sj_i x3)]) (⟨rfl, ⟨rfl, ⟨rfl, ⟨rfl, trivial⟩⟩⟩⟩) (t_L_law_1900 hk18 x1 x2 x3 s2 h)
  · refine r_iconst (pc := 1163) dL_law_1163 ?_
    exact r_zret (pc := 1164) h rfl dL_law_1164
set_option maxHeartbeats 4000000 in
theorem t_L_law_1125 {X : sj_X} {s0 : sj_Mem} {N : Nat} {q : Int × sj_Mem} {k18 : Option Nat → Option Nat → Int → sj_Mem → Option (Int × sj_Mem)} (hk18 : ∀ (x1 : Option Nat) (x2 : Option Nat) (x3 : Int) (s : sj_Mem), k18 x1 x2 x3 s = some q → sj_T X m_L_law s0 (some (sj_i q.1), q.2) 18 [some (sj_t 1000), some (sj_r x1), some (sj_r x2), some (sj_i x3)] [] s) :
    ∀ (x1 : Option Nat) (x2 : Option Nat) (x3 : Int) (y0 : Int) (y1 : Int) (y2 : Int) (y3 : Int) (y4 : Option Nat) (s : sj_Mem), f_L_law_1125 N (sj_scL X) (sj_scx X) k18 x1 x2 x3 y0 y1 y2 y3 y4 s = some q → sj_T X m_L_law s0 (some (sj_i q.1), q.2) 1125 [some (sj_t 1000), some (sj_r x1), some (sj_r x2), some (sj_i x3)] [(sj_i y0), (sj_i y1), (sj_i y2), (sj_i y3), (sj_r y4)] s := by
  intro x1 x2 x3 y0 y1 y2 y3 y4 s h
  unfold f_L_law_1125 at h
  obtain ⟨a1, ea1, g⟩ := e_nn_some h
  clear h
  subst ea1
  have h := g
  clear g
  refine r_callV (pc := 1125) (fun v => some (sj_i v)) (As := [sj_i y3, sj_i y2, sj_i y1, sj_i y0]) (rest := []) h dL_law_1125 mw_L_134 vw_X8_tried (fun _ _ hc => c_X8_tried hc) rfl ⟨(Nat.le_of_ble_eq_true rfl), (Nat.le_of_ble_eq_true rfl)⟩ (Nat.le_of_ble_eq_true rfl) rfl (fun v3 s2 h => ?_)
  refine r_aload_n (pc := 1128) dL_law_1128 rfl rfl ?_
  refine r_tload_n (pc := 1129) dL_law_1129 rfl rfl ?_
  refine r_iload_n (pc := 1130) dL_law_1130 rfl rfl ?_
  refine r_iconst (pc := 1131) dL_law_1131 ?_
  refine r_iadd (pc := 1132) dL_law_1132 ?_
  refine r_saload (pc := 1133) h dL_law_1133 (fun v4 h => ?_)
  refine r_tload_n (pc := 1134) dL_law_1134 rfl rfl ?_
  refine r_iload_n (pc := 1135) dL_law_1135 rfl rfl ?_
  refine r_iconst (pc := 1136) dL_law_1136 ?_
  refine r_iadd (pc := 1137) dL_law_1137 ?_
  refine r_saload (pc := 1138) h dL_law_1138 (fun v5 h => ?_)
  refine r_tload_n (pc := 1139) dL_law_1139 rfl rfl ?_
  refine r_iload_n (pc := 1140) dL_law_1140 rfl rfl ?_
  refine r_iconst (pc := 1141) dL_law_1141 ?_
  refine r_iadd (pc := 1142) dL_law_1142 ?_
  refine r_saload (pc := 1143) h dL_law_1143 (fun v6 h => ?_)
  refine r_tload_n (pc := 1144) dL_law_1144 rfl rfl ?_
  refine r_iload_n (pc := 1145) dL_law_1145 rfl rfl ?_
  refine r_iconst (pc := 1146) dL_law_1146 ?_
  refine r_iadd (pc := 1147) dL_law_1147 ?_
  refine r_saload (pc := 1148) h dL_law_1148 (fun v7 h => ?_)
  refine r_if_eq (pc := 1149) (tgt := 1156) h dL_law_1149 (by decide) (fun h => ?_) (fun h => ?_)
  · refine r_iconst (pc := 1156) dL_law_1156 ?_
    exact sj_weak (l2 := [some (sj_t 1000), some (sj_r x1), some (sj_r x2), some (sj_i x3)]) (⟨rfl, ⟨rfl, ⟨rfl, ⟨rfl, trivial⟩⟩⟩⟩) (t_L_law_1157 hk18 x1 x2 x3 0 v6 v5 v4 x2 v3 s2 h)
  · refine r_iconst (pc := 1152) dL_law_1152 ?_
    refine r_goto (pc := 1153) (tgt := 1157) dL_law_1153 (by decide) ?_
    exact sj_weak (l2 := [some (sj_t 1000), some (sj_r x1), some (sj_r x2), some (sj_i x3)]) (⟨rfl, ⟨rfl, ⟨rfl, ⟨rfl, trivial⟩⟩⟩⟩) (t_L_law_1157 hk18 x1 x2 x3 1 v6 v5 v4 x2 v3 s2 h)
set_option maxHeartbeats 4000000 in
theorem t_L_law_1242 {X : sj_X} {s0 : sj_Mem} {N : Nat} {q : Int × sj_Mem} {k18 : Option Nat → Option Nat → Int → sj_Mem → Option (Int × sj_Mem)} (hk18 : ∀ (x1 : Option Nat) (x2 : Option Nat) (x3 : Int) (s : sj_Mem), k18 x1 x2 x3 s = some q → sj_T X m_L_law s0 (some (sj_i q.1), q.2) 18 [some (sj_t 1000), some (sj_r x1), some (sj_r x2), some (sj_i x3)] [] s) :
    ∀ (x1 : Option Nat) (x2 : Option Nat) (x3 : Int) (y0 : Int) (y1 : Int) (y2 : Int) (y3 : Int) (y4 : Int) (y5 : Option Nat) (y6 : Int) (s : sj_Mem), f_L_law_1242 N (sj_scL X) (sj_scx X) k18 x1 x2 x3 y0 y1 y2 y3 y4 y5 y6 s = some q → sj_T X m_L_law s0 (some (sj_i q.1), q.2) 1242 [some (sj_t 1000), some (sj_r x1), some (sj_r x2), some (sj_i x3)] [(sj_i y0), (sj_i y1), (sj_i y2), (sj_i y3), (sj_i y4), (sj_r y5), (sj_i y6)] s := by
  intro x1 x2 x3 y0 y1 y2 y3 y4 y5 y6 s h
  unfold f_L_law_1242 at h
  refine r_tload_n (pc := 1242) dL_law_1242 rfl rfl ?_
  refine r_iload_n (pc := 1243) dL_law_1243 rfl rfl ?_
  refine r_bipush (pc := 1244) dL_law_1244 ⟨by decide, by decide⟩ ?_
  refine r_iadd (pc := 1246) dL_law_1246 ?_
  refine r_saload (pc := 1247) h dL_law_1247 (fun v1 h => ?_)
  obtain ⟨a2, ea2, g⟩ := e_nn_some h
  clear h
  subst ea2
  have h := g
  clear g
  refine r_callV (pc := 1248) (fun v => some (sj_i v)) (As := [sj_i y4, sj_i y3, sj_i y2, sj_i y1, sj_i y0, sj_i v1]) (rest := [(sj_i y6)]) h dL_law_1248 mw_L_142 vw_X9_boxes (fun _ _ hc => c_X9_boxes hc) rfl ⟨(Nat.le_of_ble_eq_true rfl), (Nat.le_of_ble_eq_true rfl)⟩ (Nat.le_of_ble_eq_true rfl) rfl (fun v4 s3 h => ?_)
  refine r_icmp_eq (pc := 1251) (tgt := 1900) h dL_law_1251 (by decide) (fun h => ?_) (fun h => ?_)
  · exact sj_weak (l2 := [some (sj_t 1000), some (sj_r x1), some (sj_r x2), some (sj_i x3)]) (⟨rfl, ⟨rfl, ⟨rfl, ⟨rfl, trivial⟩⟩⟩⟩) (t_L_law_1900 hk18 x1 x2 x3 s3 h)
  · refine r_iconst (pc := 1254) dL_law_1254 ?_
    exact r_zret (pc := 1255) h rfl dL_law_1255
set_option maxHeartbeats 4000000 in
theorem t_L_law_1199 {X : sj_X} {s0 : sj_Mem} {N : Nat} {q : Int × sj_Mem} {k18 : Option Nat → Option Nat → Int → sj_Mem → Option (Int × sj_Mem)} (hk18 : ∀ (x1 : Option Nat) (x2 : Option Nat) (x3 : Int) (s : sj_Mem), k18 x1 x2 x3 s = some q → sj_T X m_L_law s0 (some (sj_i q.1), q.2) 18 [some (sj_t 1000), some (sj_r x1), some (sj_r x2), some (sj_i x3)] [] s) :
    ∀ (x1 : Option Nat) (x2 : Option Nat) (x3 : Int) (y0 : Int) (y1 : Int) (y2 : Int) (y3 : Int) (y4 : Int) (y5 : Option Nat) (s : sj_Mem), f_L_law_1199 N (sj_scL X) (sj_scx X) k18 x1 x2 x3 y0 y1 y2 y3 y4 y5 s = some q → sj_T X m_L_law s0 (some (sj_i q.1), q.2) 1199 [some (sj_t 1000), some (sj_r x1), some (sj_r x2), some (sj_i x3)] [(sj_i y0), (sj_i y1), (sj_i y2), (sj_i y3), (sj_i y4), (sj_r y5)] s := by
  intro x1 x2 x3 y0 y1 y2 y3 y4 y5 s h
  unfold f_L_law_1199 at h
  refine r_tload_n (pc := 1199) dL_law_1199 rfl rfl ?_
  refine r_iload_n (pc := 1200) dL_law_1200 rfl rfl ?_
  refine r_bipush (pc := 1201) dL_law_1201 ⟨by decide, by decide⟩ ?_
  refine r_iadd (pc := 1203) dL_law_1203 ?_
  refine r_saload (pc := 1204) h dL_law_1204 (fun v1 h => ?_)
  obtain ⟨a2, ea2, g⟩ := e_nn_some h
  clear h
  subst ea2
  have h := g
  clear g
  refine r_callV (pc := 1205) (fun v => some (sj_i v)) (As := [sj_i y4, sj_i y3, sj_i y2, sj_i y1, sj_i y0, sj_i v1]) (rest := []) h dL_law_1205 mw_L_138 vw_X8_boxes (fun _ _ hc => c_X8_boxes hc) rfl ⟨(Nat.le_of_ble_eq_true rfl), (Nat.le_of_ble_eq_true rfl)⟩ (Nat.le_of_ble_eq_true rfl) rfl (fun v4 s3 h => ?_)
  refine r_aload_n (pc := 1208) dL_law_1208 rfl rfl ?_
  refine r_tload_n (pc := 1209) dL_law_1209 rfl rfl ?_
  refine r_iload_n (pc := 1210) dL_law_1210 rfl rfl ?_
  refine r_iconst (pc := 1211) dL_law_1211 ?_
  refine r_iadd (pc := 1212) dL_law_1212 ?_
  refine r_saload (pc := 1213) h dL_law_1213 (fun v5 h => ?_)
  refine r_tload_n (pc := 1214) dL_law_1214 rfl rfl ?_
  refine r_iload_n (pc := 1215) dL_law_1215 rfl rfl ?_
  refine r_iconst (pc := 1216) dL_law_1216 ?_
  refine r_iadd (pc := 1217) dL_law_1217 ?_
  refine r_saload (pc := 1218) h dL_law_1218 (fun v6 h => ?_)
  refine r_tload_n (pc := 1219) dL_law_1219 rfl rfl ?_
  refine r_iload_n (pc := 1220) dL_law_1220 rfl rfl ?_
  refine r_iconst (pc := 1221) dL_law_1221 ?_
  refine r_iadd (pc := 1222) dL_law_1222 ?_
  refine r_saload (pc := 1223) h dL_law_1223 (fun v7 h => ?_)
  refine r_tload_n (pc := 1224) dL_law_1224 rfl rfl ?_
  refine r_iload_n (pc := 1225) dL_law_1225 rfl rfl ?_
  refine r_iconst (pc := 1226) dL_law_1226 ?_
  refine r_iadd (pc := 1227) dL_law_1227 ?_
  refine r_saload (pc := 1228) h dL_law_1228 (fun v8 h => ?_)
  refine r_tload_n (pc := 1229) dL_law_1229 rfl rfl ?_
  refine r_iload_n (pc := 1230) dL_law_1230 rfl rfl ?_
  refine r_iconst (pc := 1231) dL_law_1231 ?_
  refine r_iadd (pc := 1232) dL_law_1232 ?_
  refine r_saload (pc := 1233) h dL_law_1233 (fun v9 h => ?_)
  refine r_if_eq (pc := 1234) (tgt := 1241) h dL_law_1234 (by decide) (fun h => ?_) (fun h => ?_)
  · refine r_iconst (pc := 1241) dL_law_1241 ?_
    exact sj_weak (l2 := [some (sj_t 1000), some (sj_r x1), some (sj_r x2), some (sj_i x3)]) (⟨rfl, ⟨rfl, ⟨rfl, ⟨rfl, trivial⟩⟩⟩⟩) (t_L_law_1242 hk18 x1 x2 x3 0 v8 v7 v6 v5 x2 v4 s3 h)
  · refine r_iconst (pc := 1237) dL_law_1237 ?_
    refine r_goto (pc := 1238) (tgt := 1242) dL_law_1238 (by decide) ?_
    exact sj_weak (l2 := [some (sj_t 1000), some (sj_r x1), some (sj_r x2), some (sj_i x3)]) (⟨rfl, ⟨rfl, ⟨rfl, ⟨rfl, trivial⟩⟩⟩⟩) (t_L_law_1242 hk18 x1 x2 x3 1 v8 v7 v6 v5 x2 v4 s3 h)
set_option maxHeartbeats 4000000 in
theorem t_L_law_1302 {X : sj_X} {s0 : sj_Mem} {N : Nat} {q : Int × sj_Mem} {k18 : Option Nat → Option Nat → Int → sj_Mem → Option (Int × sj_Mem)} (hk18 : ∀ (x1 : Option Nat) (x2 : Option Nat) (x3 : Int) (s : sj_Mem), k18 x1 x2 x3 s = some q → sj_T X m_L_law s0 (some (sj_i q.1), q.2) 18 [some (sj_t 1000), some (sj_r x1), some (sj_r x2), some (sj_i x3)] [] s) :
    ∀ (x1 : Option Nat) (x2 : Option Nat) (x3 : Int) (y0 : Int) (y1 : Int) (y2 : Option Nat) (y3 : Int) (s : sj_Mem), f_L_law_1302 N (sj_scL X) (sj_scx X) k18 x1 x2 x3 y0 y1 y2 y3 s = some q → sj_T X m_L_law s0 (some (sj_i q.1), q.2) 1302 [some (sj_t 1000), some (sj_r x1), some (sj_r x2), some (sj_i x3)] [(sj_i y0), (sj_i y1), (sj_r y2), (sj_i y3)] s := by
  intro x1 x2 x3 y0 y1 y2 y3 s h
  unfold f_L_law_1302 at h
  refine r_tload_n (pc := 1302) dL_law_1302 rfl rfl ?_
  refine r_iload_n (pc := 1303) dL_law_1303 rfl rfl ?_
  refine r_iconst (pc := 1304) dL_law_1304 ?_
  refine r_iadd (pc := 1305) dL_law_1305 ?_
  refine r_saload (pc := 1306) h dL_law_1306 (fun v1 h => ?_)
  obtain ⟨a2, ea2, g⟩ := e_nn_some h
  clear h
  subst ea2
  have h := g
  clear g
  refine r_callV (pc := 1307) (fun v => some (sj_i v)) (As := [sj_i y1, sj_i y0, sj_i v1]) (rest := [(sj_i y3)]) h dL_law_1307 mw_L_147 vw_X9_tables (fun _ _ hc => c_X9_tables hc) rfl ⟨(Nat.le_of_ble_eq_true rfl), (Nat.le_of_ble_eq_true rfl)⟩ (Nat.le_of_ble_eq_true rfl) rfl (fun v4 s3 h => ?_)
  refine r_icmp_eq (pc := 1310) (tgt := 1900) h dL_law_1310 (by decide) (fun h => ?_) (fun h => ?_)
  · exact sj_weak (l2 := [some (sj_t 1000), some (sj_r x1), some (sj_r x2), some (sj_i x3)]) (⟨rfl, ⟨rfl, ⟨rfl, ⟨rfl, trivial⟩⟩⟩⟩) (t_L_law_1900 hk18 x1 x2 x3 s3 h)
  · refine r_iconst (pc := 1313) dL_law_1313 ?_
    exact r_zret (pc := 1314) h rfl dL_law_1314
set_option maxHeartbeats 4000000 in
theorem t_L_law_1275 {X : sj_X} {s0 : sj_Mem} {N : Nat} {q : Int × sj_Mem} {k18 : Option Nat → Option Nat → Int → sj_Mem → Option (Int × sj_Mem)} (hk18 : ∀ (x1 : Option Nat) (x2 : Option Nat) (x3 : Int) (s : sj_Mem), k18 x1 x2 x3 s = some q → sj_T X m_L_law s0 (some (sj_i q.1), q.2) 18 [some (sj_t 1000), some (sj_r x1), some (sj_r x2), some (sj_i x3)] [] s) :
    ∀ (x1 : Option Nat) (x2 : Option Nat) (x3 : Int) (y0 : Int) (y1 : Int) (y2 : Option Nat) (s : sj_Mem), f_L_law_1275 N (sj_scL X) (sj_scx X) k18 x1 x2 x3 y0 y1 y2 s = some q → sj_T X m_L_law s0 (some (sj_i q.1), q.2) 1275 [some (sj_t 1000), some (sj_r x1), some (sj_r x2), some (sj_i x3)] [(sj_i y0), (sj_i y1), (sj_r y2)] s := by
  intro x1 x2 x3 y0 y1 y2 s h
  unfold f_L_law_1275 at h
  refine r_tload_n (pc := 1275) dL_law_1275 rfl rfl ?_
  refine r_iload_n (pc := 1276) dL_law_1276 rfl rfl ?_
  refine r_iconst (pc := 1277) dL_law_1277 ?_
  refine r_iadd (pc := 1278) dL_law_1278 ?_
  refine r_saload (pc := 1279) h dL_law_1279 (fun v1 h => ?_)
  obtain ⟨a2, ea2, g⟩ := e_nn_some h
  clear h
  subst ea2
  have h := g
  clear g
  refine r_callV (pc := 1280) (fun v => some (sj_i v)) (As := [sj_i y1, sj_i y0, sj_i v1]) (rest := []) h dL_law_1280 mw_L_143 vw_X8_tables (fun _ _ hc => c_X8_tables hc) rfl ⟨(Nat.le_of_ble_eq_true rfl), (Nat.le_of_ble_eq_true rfl)⟩ (Nat.le_of_ble_eq_true rfl) rfl (fun v4 s3 h => ?_)
  refine r_aload_n (pc := 1283) dL_law_1283 rfl rfl ?_
  refine r_tload_n (pc := 1284) dL_law_1284 rfl rfl ?_
  refine r_iload_n (pc := 1285) dL_law_1285 rfl rfl ?_
  refine r_iconst (pc := 1286) dL_law_1286 ?_
  refine r_iadd (pc := 1287) dL_law_1287 ?_
  refine r_saload (pc := 1288) h dL_law_1288 (fun v5 h => ?_)
  refine r_tload_n (pc := 1289) dL_law_1289 rfl rfl ?_
  refine r_iload_n (pc := 1290) dL_law_1290 rfl rfl ?_
  refine r_iconst (pc := 1291) dL_law_1291 ?_
  refine r_iadd (pc := 1292) dL_law_1292 ?_
  refine r_saload (pc := 1293) h dL_law_1293 (fun v6 h => ?_)
  refine r_if_eq (pc := 1294) (tgt := 1301) h dL_law_1294 (by decide) (fun h => ?_) (fun h => ?_)
  · refine r_iconst (pc := 1301) dL_law_1301 ?_
    exact sj_weak (l2 := [some (sj_t 1000), some (sj_r x1), some (sj_r x2), some (sj_i x3)]) (⟨rfl, ⟨rfl, ⟨rfl, ⟨rfl, trivial⟩⟩⟩⟩) (t_L_law_1302 hk18 x1 x2 x3 0 v5 x2 v4 s3 h)
  · refine r_iconst (pc := 1297) dL_law_1297 ?_
    refine r_goto (pc := 1298) (tgt := 1302) dL_law_1298 (by decide) ?_
    exact sj_weak (l2 := [some (sj_t 1000), some (sj_r x1), some (sj_r x2), some (sj_i x3)]) (⟨rfl, ⟨rfl, ⟨rfl, ⟨rfl, trivial⟩⟩⟩⟩) (t_L_law_1302 hk18 x1 x2 x3 1 v5 x2 v4 s3 h)
set_option maxHeartbeats 4000000 in
theorem t_L_law_1398 {X : sj_X} {s0 : sj_Mem} {N : Nat} {q : Int × sj_Mem} {k18 : Option Nat → Option Nat → Int → sj_Mem → Option (Int × sj_Mem)} (hk18 : ∀ (x1 : Option Nat) (x2 : Option Nat) (x3 : Int) (s : sj_Mem), k18 x1 x2 x3 s = some q → sj_T X m_L_law s0 (some (sj_i q.1), q.2) 18 [some (sj_t 1000), some (sj_r x1), some (sj_r x2), some (sj_i x3)] [] s) :
    ∀ (x1 : Option Nat) (x2 : Option Nat) (x3 : Int) (y0 : Int) (y1 : Int) (y2 : Int) (y3 : Int) (y4 : Int) (y5 : Int) (y6 : Option Nat) (y7 : Int) (s : sj_Mem), f_L_law_1398 N (sj_scL X) (sj_scx X) k18 x1 x2 x3 y0 y1 y2 y3 y4 y5 y6 y7 s = some q → sj_T X m_L_law s0 (some (sj_i q.1), q.2) 1398 [some (sj_t 1000), some (sj_r x1), some (sj_r x2), some (sj_i x3)] [(sj_i y0), (sj_i y1), (sj_i y2), (sj_i y3), (sj_i y4), (sj_i y5), (sj_r y6), (sj_i y7)] s := by
  intro x1 x2 x3 y0 y1 y2 y3 y4 y5 y6 y7 s h
  unfold f_L_law_1398 at h
  obtain ⟨a1, ea1, g⟩ := e_nn_some h
  clear h
  subst ea1
  have h := g
  clear g
  refine r_callV (pc := 1398) (fun v => some (sj_i v)) (As := [sj_i y5, sj_i y4, sj_i y3, sj_i y2, sj_i y1, sj_i y0]) (rest := [(sj_i y7)]) h dL_law_1398 mw_L_152 vw_X9_dug (fun _ _ hc => c_X9_dug hc) rfl ⟨(Nat.le_of_ble_eq_true rfl), (Nat.le_of_ble_eq_true rfl)⟩ (Nat.le_of_ble_eq_true rfl) rfl (fun v3 s2 h => ?_)
  refine r_icmp_eq (pc := 1401) (tgt := 1900) h dL_law_1401 (by decide) (fun h => ?_) (fun h => ?_)
  · exact sj_weak (l2 := [some (sj_t 1000), some (sj_r x1), some (sj_r x2), some (sj_i x3)]) (⟨rfl, ⟨rfl, ⟨rfl, ⟨rfl, trivial⟩⟩⟩⟩) (t_L_law_1900 hk18 x1 x2 x3 s2 h)
  · refine r_iconst (pc := 1404) dL_law_1404 ?_
    exact r_zret (pc := 1405) h rfl dL_law_1405
set_option maxHeartbeats 4000000 in
theorem t_L_law_1355 {X : sj_X} {s0 : sj_Mem} {N : Nat} {q : Int × sj_Mem} {k18 : Option Nat → Option Nat → Int → sj_Mem → Option (Int × sj_Mem)} (hk18 : ∀ (x1 : Option Nat) (x2 : Option Nat) (x3 : Int) (s : sj_Mem), k18 x1 x2 x3 s = some q → sj_T X m_L_law s0 (some (sj_i q.1), q.2) 18 [some (sj_t 1000), some (sj_r x1), some (sj_r x2), some (sj_i x3)] [] s) :
    ∀ (x1 : Option Nat) (x2 : Option Nat) (x3 : Int) (y0 : Int) (y1 : Int) (y2 : Int) (y3 : Int) (y4 : Int) (y5 : Int) (y6 : Option Nat) (s : sj_Mem), f_L_law_1355 N (sj_scL X) (sj_scx X) k18 x1 x2 x3 y0 y1 y2 y3 y4 y5 y6 s = some q → sj_T X m_L_law s0 (some (sj_i q.1), q.2) 1355 [some (sj_t 1000), some (sj_r x1), some (sj_r x2), some (sj_i x3)] [(sj_i y0), (sj_i y1), (sj_i y2), (sj_i y3), (sj_i y4), (sj_i y5), (sj_r y6)] s := by
  intro x1 x2 x3 y0 y1 y2 y3 y4 y5 y6 s h
  unfold f_L_law_1355 at h
  obtain ⟨a1, ea1, g⟩ := e_nn_some h
  clear h
  subst ea1
  have h := g
  clear g
  refine r_callV (pc := 1355) (fun v => some (sj_i v)) (As := [sj_i y5, sj_i y4, sj_i y3, sj_i y2, sj_i y1, sj_i y0]) (rest := []) h dL_law_1355 mw_L_148 vw_X8_dug (fun _ _ hc => c_X8_dug hc) rfl ⟨(Nat.le_of_ble_eq_true rfl), (Nat.le_of_ble_eq_true rfl)⟩ (Nat.le_of_ble_eq_true rfl) rfl (fun v3 s2 h => ?_)
  refine r_aload_n (pc := 1358) dL_law_1358 rfl rfl ?_
  refine r_tload_n (pc := 1359) dL_law_1359 rfl rfl ?_
  refine r_iload_n (pc := 1360) dL_law_1360 rfl rfl ?_
  refine r_iconst (pc := 1361) dL_law_1361 ?_
  refine r_iadd (pc := 1362) dL_law_1362 ?_
  refine r_saload (pc := 1363) h dL_law_1363 (fun v4 h => ?_)
  refine r_tload_n (pc := 1364) dL_law_1364 rfl rfl ?_
  refine r_iload_n (pc := 1365) dL_law_1365 rfl rfl ?_
  refine r_iconst (pc := 1366) dL_law_1366 ?_
  refine r_iadd (pc := 1367) dL_law_1367 ?_
  refine r_saload (pc := 1368) h dL_law_1368 (fun v5 h => ?_)
  refine r_tload_n (pc := 1369) dL_law_1369 rfl rfl ?_
  refine r_iload_n (pc := 1370) dL_law_1370 rfl rfl ?_
  refine r_iconst (pc := 1371) dL_law_1371 ?_
  refine r_iadd (pc := 1372) dL_law_1372 ?_
  refine r_saload (pc := 1373) h dL_law_1373 (fun v6 h => ?_)
  refine r_tload_n (pc := 1374) dL_law_1374 rfl rfl ?_
  refine r_iload_n (pc := 1375) dL_law_1375 rfl rfl ?_
  refine r_iconst (pc := 1376) dL_law_1376 ?_
  refine r_iadd (pc := 1377) dL_law_1377 ?_
  refine r_saload (pc := 1378) h dL_law_1378 (fun v7 h => ?_)
  refine r_tload_n (pc := 1379) dL_law_1379 rfl rfl ?_
  refine r_iload_n (pc := 1380) dL_law_1380 rfl rfl ?_
  refine r_iconst (pc := 1381) dL_law_1381 ?_
  refine r_iadd (pc := 1382) dL_law_1382 ?_
  refine r_saload (pc := 1383) h dL_law_1383 (fun v8 h => ?_)
  refine r_tload_n (pc := 1384) dL_law_1384 rfl rfl ?_
  refine r_iload_n (pc := 1385) dL_law_1385 rfl rfl ?_
  refine r_bipush (pc := 1386) dL_law_1386 ⟨by decide, by decide⟩ ?_
  refine r_iadd (pc := 1388) dL_law_1388 ?_
  refine r_saload (pc := 1389) h dL_law_1389 (fun v9 h => ?_)
  refine r_if_eq (pc := 1390) (tgt := 1397) h dL_law_1390 (by decide) (fun h => ?_) (fun h => ?_)
  · refine r_iconst (pc := 1397) dL_law_1397 ?_
    exact sj_weak (l2 := [some (sj_t 1000), some (sj_r x1), some (sj_r x2), some (sj_i x3)]) (⟨rfl, ⟨rfl, ⟨rfl, ⟨rfl, trivial⟩⟩⟩⟩) (t_L_law_1398 hk18 x1 x2 x3 0 v8 v7 v6 v5 v4 x2 v3 s2 h)
  · refine r_iconst (pc := 1393) dL_law_1393 ?_
    refine r_goto (pc := 1394) (tgt := 1398) dL_law_1394 (by decide) ?_
    exact sj_weak (l2 := [some (sj_t 1000), some (sj_r x1), some (sj_r x2), some (sj_i x3)]) (⟨rfl, ⟨rfl, ⟨rfl, ⟨rfl, trivial⟩⟩⟩⟩) (t_L_law_1398 hk18 x1 x2 x3 1 v8 v7 v6 v5 v4 x2 v3 s2 h)
set_option maxHeartbeats 4000000 in
theorem t_L_law_1625 {X : sj_X} {s0 : sj_Mem} {N : Nat} {q : Int × sj_Mem} {k18 : Option Nat → Option Nat → Int → sj_Mem → Option (Int × sj_Mem)} (hk18 : ∀ (x1 : Option Nat) (x2 : Option Nat) (x3 : Int) (s : sj_Mem), k18 x1 x2 x3 s = some q → sj_T X m_L_law s0 (some (sj_i q.1), q.2) 18 [some (sj_t 1000), some (sj_r x1), some (sj_r x2), some (sj_i x3)] [] s) :
    ∀ (x1 : Option Nat) (x2 : Option Nat) (x3 : Int) (y0 : Int) (y1 : Int) (y2 : Int) (y3 : Int) (y4 : Int) (y5 : Int) (y6 : Option Nat) (y7 : Int) (s : sj_Mem), f_L_law_1625 N (sj_scL X) (sj_scx X) k18 x1 x2 x3 y0 y1 y2 y3 y4 y5 y6 y7 s = some q → sj_T X m_L_law s0 (some (sj_i q.1), q.2) 1625 [some (sj_t 1000), some (sj_r x1), some (sj_r x2), some (sj_i x3)] [(sj_i y0), (sj_i y1), (sj_i y2), (sj_i y3), (sj_i y4), (sj_i y5), (sj_r y6), (sj_i y7)] s := by
  intro x1 x2 x3 y0 y1 y2 y3 y4 y5 y6 y7 s h
  unfold f_L_law_1625 at h
  obtain ⟨a1, ea1, g⟩ := e_nn_some h
  clear h
  subst ea1
  have h := g
  clear g
  refine r_callV (pc := 1625) (fun v => some (sj_i v)) (As := [sj_i y5, sj_i y4, sj_i y3, sj_i y2, sj_i y1, sj_i y0]) (rest := [(sj_i y7)]) h dL_law_1625 mw_L_178 vw_X9_deep (fun _ _ hc => c_X9_deep hc) rfl ⟨(Nat.le_of_ble_eq_true rfl), (Nat.le_of_ble_eq_true rfl)⟩ (Nat.le_of_ble_eq_true rfl) rfl (fun v3 s2 h => ?_)
  refine r_icmp_eq (pc := 1628) (tgt := 1900) h dL_law_1628 (by decide) (fun h => ?_) (fun h => ?_)
  · exact sj_weak (l2 := [some (sj_t 1000), some (sj_r x1), some (sj_r x2), some (sj_i x3)]) (⟨rfl, ⟨rfl, ⟨rfl, ⟨rfl, trivial⟩⟩⟩⟩) (t_L_law_1900 hk18 x1 x2 x3 s2 h)
  · refine r_iconst (pc := 1631) dL_law_1631 ?_
    exact r_zret (pc := 1632) h rfl dL_law_1632
set_option maxHeartbeats 4000000 in
theorem t_L_law_1582 {X : sj_X} {s0 : sj_Mem} {N : Nat} {q : Int × sj_Mem} {k18 : Option Nat → Option Nat → Int → sj_Mem → Option (Int × sj_Mem)} (hk18 : ∀ (x1 : Option Nat) (x2 : Option Nat) (x3 : Int) (s : sj_Mem), k18 x1 x2 x3 s = some q → sj_T X m_L_law s0 (some (sj_i q.1), q.2) 18 [some (sj_t 1000), some (sj_r x1), some (sj_r x2), some (sj_i x3)] [] s) :
    ∀ (x1 : Option Nat) (x2 : Option Nat) (x3 : Int) (y0 : Int) (y1 : Int) (y2 : Int) (y3 : Int) (y4 : Int) (y5 : Int) (y6 : Option Nat) (s : sj_Mem), f_L_law_1582 N (sj_scL X) (sj_scx X) k18 x1 x2 x3 y0 y1 y2 y3 y4 y5 y6 s = some q → sj_T X m_L_law s0 (some (sj_i q.1), q.2) 1582 [some (sj_t 1000), some (sj_r x1), some (sj_r x2), some (sj_i x3)] [(sj_i y0), (sj_i y1), (sj_i y2), (sj_i y3), (sj_i y4), (sj_i y5), (sj_r y6)] s := by
  intro x1 x2 x3 y0 y1 y2 y3 y4 y5 y6 s h
  unfold f_L_law_1582 at h
  obtain ⟨a1, ea1, g⟩ := e_nn_some h
  clear h
  subst ea1
  have h := g
  clear g
  refine r_callV (pc := 1582) (fun v => some (sj_i v)) (As := [sj_i y5, sj_i y4, sj_i y3, sj_i y2, sj_i y1, sj_i y0]) (rest := []) h dL_law_1582 mw_L_175 vw_X8_deep (fun _ _ hc => c_X8_deep hc) rfl ⟨(Nat.le_of_ble_eq_true rfl), (Nat.le_of_ble_eq_true rfl)⟩ (Nat.le_of_ble_eq_true rfl) rfl (fun v3 s2 h => ?_)
  refine r_aload_n (pc := 1585) dL_law_1585 rfl rfl ?_
  refine r_tload_n (pc := 1586) dL_law_1586 rfl rfl ?_
  refine r_iload_n (pc := 1587) dL_law_1587 rfl rfl ?_
  refine r_iconst (pc := 1588) dL_law_1588 ?_
  refine r_iadd (pc := 1589) dL_law_1589 ?_
  refine r_saload (pc := 1590) h dL_law_1590 (fun v4 h => ?_)
  refine r_tload_n (pc := 1591) dL_law_1591 rfl rfl ?_
  refine r_iload_n (pc := 1592) dL_law_1592 rfl rfl ?_
  refine r_iconst (pc := 1593) dL_law_1593 ?_
  refine r_iadd (pc := 1594) dL_law_1594 ?_
  refine r_saload (pc := 1595) h dL_law_1595 (fun v5 h => ?_)
  refine r_tload_n (pc := 1596) dL_law_1596 rfl rfl ?_
  refine r_iload_n (pc := 1597) dL_law_1597 rfl rfl ?_
  refine r_iconst (pc := 1598) dL_law_1598 ?_
  refine r_iadd (pc := 1599) dL_law_1599 ?_
  refine r_saload (pc := 1600) h dL_law_1600 (fun v6 h => ?_)
  refine r_tload_n (pc := 1601) dL_law_1601 rfl rfl ?_
  refine r_iload_n (pc := 1602) dL_law_1602 rfl rfl ?_
  refine r_iconst (pc := 1603) dL_law_1603 ?_
  refine r_iadd (pc := 1604) dL_law_1604 ?_
  refine r_saload (pc := 1605) h dL_law_1605 (fun v7 h => ?_)
  refine r_tload_n (pc := 1606) dL_law_1606 rfl rfl ?_
  refine r_iload_n (pc := 1607) dL_law_1607 rfl rfl ?_
  refine r_iconst (pc := 1608) dL_law_1608 ?_
  refine r_iadd (pc := 1609) dL_law_1609 ?_
  refine r_saload (pc := 1610) h dL_law_1610 (fun v8 h => ?_)
  refine r_tload_n (pc := 1611) dL_law_1611 rfl rfl ?_
  refine r_iload_n (pc := 1612) dL_law_1612 rfl rfl ?_
  refine r_bipush (pc := 1613) dL_law_1613 ⟨by decide, by decide⟩ ?_
  refine r_iadd (pc := 1615) dL_law_1615 ?_
  refine r_saload (pc := 1616) h dL_law_1616 (fun v9 h => ?_)
  refine r_if_eq (pc := 1617) (tgt := 1624) h dL_law_1617 (by decide) (fun h => ?_) (fun h => ?_)
  · refine r_iconst (pc := 1624) dL_law_1624 ?_
    exact sj_weak (l2 := [some (sj_t 1000), some (sj_r x1), some (sj_r x2), some (sj_i x3)]) (⟨rfl, ⟨rfl, ⟨rfl, ⟨rfl, trivial⟩⟩⟩⟩) (t_L_law_1625 hk18 x1 x2 x3 0 v8 v7 v6 v5 v4 x2 v3 s2 h)
  · refine r_iconst (pc := 1620) dL_law_1620 ?_
    refine r_goto (pc := 1621) (tgt := 1625) dL_law_1621 (by decide) ?_
    exact sj_weak (l2 := [some (sj_t 1000), some (sj_r x1), some (sj_r x2), some (sj_i x3)]) (⟨rfl, ⟨rfl, ⟨rfl, ⟨rfl, trivial⟩⟩⟩⟩) (t_L_law_1625 hk18 x1 x2 x3 1 v8 v7 v6 v5 v4 x2 v3 s2 h)
set_option maxHeartbeats 4000000 in
theorem t_L_law_1716 {X : sj_X} {s0 : sj_Mem} {N : Nat} {q : Int × sj_Mem} {k18 : Option Nat → Option Nat → Int → sj_Mem → Option (Int × sj_Mem)} (hk18 : ∀ (x1 : Option Nat) (x2 : Option Nat) (x3 : Int) (s : sj_Mem), k18 x1 x2 x3 s = some q → sj_T X m_L_law s0 (some (sj_i q.1), q.2) 18 [some (sj_t 1000), some (sj_r x1), some (sj_r x2), some (sj_i x3)] [] s) :
    ∀ (x1 : Option Nat) (x2 : Option Nat) (x3 : Int) (y0 : Int) (y1 : Int) (y2 : Int) (y3 : Int) (y4 : Int) (y5 : Option Nat) (y6 : Int) (s : sj_Mem), f_L_law_1716 N (sj_scL X) (sj_scx X) k18 x1 x2 x3 y0 y1 y2 y3 y4 y5 y6 s = some q → sj_T X m_L_law s0 (some (sj_i q.1), q.2) 1716 [some (sj_t 1000), some (sj_r x1), some (sj_r x2), some (sj_i x3)] [(sj_i y0), (sj_i y1), (sj_i y2), (sj_i y3), (sj_i y4), (sj_r y5), (sj_i y6)] s := by
  intro x1 x2 x3 y0 y1 y2 y3 y4 y5 y6 s h
  unfold f_L_law_1716 at h
  refine r_tload_n (pc := 1716) dL_law_1716 rfl rfl ?_
  refine r_iload_n (pc := 1717) dL_law_1717 rfl rfl ?_
  refine r_bipush (pc := 1718) dL_law_1718 ⟨by decide, by decide⟩ ?_
  refine r_iadd (pc := 1720) dL_law_1720 ?_
  refine r_saload (pc := 1721) h dL_law_1721 (fun v1 h => ?_)
  refine r_tload_n (pc := 1722) dL_law_1722 rfl rfl ?_
  refine r_iload_n (pc := 1723) dL_law_1723 rfl rfl ?_
  refine r_bipush (pc := 1724) dL_law_1724 ⟨by decide, by decide⟩ ?_
  refine r_iadd (pc := 1726) dL_law_1726 ?_
  refine r_saload (pc := 1727) h dL_law_1727 (fun v2 h => ?_)
  obtain ⟨a3, ea3, g⟩ := e_nn_some h
  clear h
  subst ea3
  have h := g
  clear g
  refine r_callV (pc := 1728) (fun v => some (sj_i v)) (As := [sj_i y4, sj_i y3, sj_i y2, sj_i y1, sj_i y0, sj_i v1, sj_i v2]) (rest := [(sj_i y6)]) h dL_law_1728 mw_L_183 vw_X9_scan (fun _ _ hc => c_X9_scan hc) rfl ⟨(Nat.le_of_ble_eq_true rfl), (Nat.le_of_ble_eq_true rfl)⟩ (Nat.le_of_ble_eq_true rfl) rfl (fun v5 s4 h => ?_)
  refine r_icmp_eq (pc := 1731) (tgt := 1900) h dL_law_1731 (by decide) (fun h => ?_) (fun h => ?_)
  · exact sj_weak (l2 := [some (sj_t 1000), some (sj_r x1), some (sj_r x2), some (sj_i x3)]) (⟨rfl, ⟨rfl, ⟨rfl, ⟨rfl, trivial⟩⟩⟩⟩) (t_L_law_1900 hk18 x1 x2 x3 s4 h)
  · refine r_iconst (pc := 1734) dL_law_1734 ?_
    exact r_zret (pc := 1735) h rfl dL_law_1735
set_option maxHeartbeats 4000000 in
theorem t_L_law_1667 {X : sj_X} {s0 : sj_Mem} {N : Nat} {q : Int × sj_Mem} {k18 : Option Nat → Option Nat → Int → sj_Mem → Option (Int × sj_Mem)} (hk18 : ∀ (x1 : Option Nat) (x2 : Option Nat) (x3 : Int) (s : sj_Mem), k18 x1 x2 x3 s = some q → sj_T X m_L_law s0 (some (sj_i q.1), q.2) 18 [some (sj_t 1000), some (sj_r x1), some (sj_r x2), some (sj_i x3)] [] s) :
    ∀ (x1 : Option Nat) (x2 : Option Nat) (x3 : Int) (y0 : Int) (y1 : Int) (y2 : Int) (y3 : Int) (y4 : Int) (y5 : Option Nat) (s : sj_Mem), f_L_law_1667 N (sj_scL X) (sj_scx X) k18 x1 x2 x3 y0 y1 y2 y3 y4 y5 s = some q → sj_T X m_L_law s0 (some (sj_i q.1), q.2) 1667 [some (sj_t 1000), some (sj_r x1), some (sj_r x2), some (sj_i x3)] [(sj_i y0), (sj_i y1), (sj_i y2), (sj_i y3), (sj_i y4), (sj_r y5)] s := by
  intro x1 x2 x3 y0 y1 y2 y3 y4 y5 s h
  unfold f_L_law_1667 at h
  refine r_tload_n (pc := 1667) dL_law_1667 rfl rfl ?_
  refine r_iload_n (pc := 1668) dL_law_1668 rfl rfl ?_
  refine r_bipush (pc := 1669) dL_law_1669 ⟨by decide, by decide⟩ ?_
  refine r_iadd (pc := 1671) dL_law_1671 ?_
  refine r_saload (pc := 1672) h dL_law_1672 (fun v1 h => ?_)
  refine r_tload_n (pc := 1673) dL_law_1673 rfl rfl ?_
  refine r_iload_n (pc := 1674) dL_law_1674 rfl rfl ?_
  refine r_bipush (pc := 1675) dL_law_1675 ⟨by decide, by decide⟩ ?_
  refine r_iadd (pc := 1677) dL_law_1677 ?_
  refine r_saload (pc := 1678) h dL_law_1678 (fun v2 h => ?_)
  obtain ⟨a3, ea3, g⟩ := e_nn_some h
  clear h
  subst ea3
  have h := g
  clear g
  refine r_callV (pc := 1679) (fun v => some (sj_i v)) (As := [sj_i y4, sj_i y3, sj_i y2, sj_i y1, sj_i y0, sj_i v1, sj_i v2]) (rest := []) h dL_law_1679 mw_L_179 vw_X8_scan (fun _ _ hc => c_X8_scan hc) rfl ⟨(Nat.le_of_ble_eq_true rfl), (Nat.le_of_ble_eq_true rfl)⟩ (Nat.le_of_ble_eq_true rfl) rfl (fun v5 s4 h => ?_)
  refine r_aload_n (pc := 1682) dL_law_1682 rfl rfl ?_
  refine r_tload_n (pc := 1683) dL_law_1683 rfl rfl ?_
  refine r_iload_n (pc := 1684) dL_law_1684 rfl rfl ?_
  refine r_iconst (pc := 1685) dL_law_1685 ?_
  refine r_iadd (pc := 1686) dL_law_1686 ?_
  refine r_saload (pc := 1687) h dL_law_1687 (fun v6 h => ?_)
  refine r_tload_n (pc := 1688) dL_law_1688 rfl rfl ?_
  refine r_iload_n (pc := 1689) dL_law_1689 rfl rfl ?_
  refine r_iconst (pc := 1690) dL_law_1690 ?_
  refine r_iadd (pc := 1691) dL_law_1691 ?_
  refine r_saload (pc := 1692) h dL_law_1692 (fun v7 h => ?_)
  refine r_tload_n (pc := 1693) dL_law_1693 rfl rfl ?_
  refine r_iload_n (pc := 1694) dL_law_1694 rfl rfl ?_
  refine r_iconst (pc := 1695) dL_law_1695 ?_
  refine r_iadd (pc := 1696) dL_law_1696 ?_
  refine r_saload (pc := 1697) h dL_law_1697 (fun v8 h => ?_)
  refine r_tload_n (pc := 1698) dL_law_1698 rfl rfl ?_
  refine r_iload_n (pc := 1699) dL_law_1699 rfl rfl ?_
  refine r_iconst (pc := 1700) dL_law_1700 ?_
  refine r_iadd (pc := 1701) dL_law_1701 ?_
  refine r_saload (pc := 1702) h dL_law_1702 (fun v9 h => ?_)
  refine r_tload_n (pc := 1703) dL_law_1703 rfl rfl ?_
  refine r_iload_n (pc := 1704) dL_law_1704 rfl rfl ?_
  refine r_iconst (pc := 1705) dL_law_1705 ?_
  refine r_iadd (pc := 1706) dL_law_1706 ?_
  refine r_saload (pc := 1707) h dL_law_1707 (fun v10 h => ?_)
  refine r_if_eq (pc := 1708) (tgt := 1715) h dL_law_1708 (by decide) (fun h => ?_) (fun h => ?_)
  · refine r_iconst (pc := 1715) dL_law_1715 ?_
    exact sj_weak (l2 := [some (sj_t 1000), some (sj_r x1), some (sj_r x2), some (sj_i x3)]) (⟨rfl, ⟨rfl, ⟨rfl, ⟨rfl, trivial⟩⟩⟩⟩) (t_L_law_1716 hk18 x1 x2 x3 0 v9 v8 v7 v6 x2 v5 s4 h)
  · refine r_iconst (pc := 1711) dL_law_1711 ?_
    refine r_goto (pc := 1712) (tgt := 1716) dL_law_1712 (by decide) ?_
    exact sj_weak (l2 := [some (sj_t 1000), some (sj_r x1), some (sj_r x2), some (sj_i x3)]) (⟨rfl, ⟨rfl, ⟨rfl, ⟨rfl, trivial⟩⟩⟩⟩) (t_L_law_1716 hk18 x1 x2 x3 1 v9 v8 v7 v6 x2 v5 s4 h)
set_option maxHeartbeats 4000000 in
theorem t_L_law_1869 {X : sj_X} {s0 : sj_Mem} {N : Nat} {q : Int × sj_Mem} {k18 : Option Nat → Option Nat → Int → sj_Mem → Option (Int × sj_Mem)} (hk18 : ∀ (x1 : Option Nat) (x2 : Option Nat) (x3 : Int) (s : sj_Mem), k18 x1 x2 x3 s = some q → sj_T X m_L_law s0 (some (sj_i q.1), q.2) 18 [some (sj_t 1000), some (sj_r x1), some (sj_r x2), some (sj_i x3)] [] s) :
    ∀ (x1 : Option Nat) (x2 : Option Nat) (x3 : Int) (y0 : Int) (y1 : Option Nat) (y2 : Int) (s : sj_Mem), f_L_law_1869 N (sj_scL X) (sj_scx X) k18 x1 x2 x3 y0 y1 y2 s = some q → sj_T X m_L_law s0 (some (sj_i q.1), q.2) 1869 [some (sj_t 1000), some (sj_r x1), some (sj_r x2), some (sj_i x3)] [(sj_i y0), (sj_r y1), (sj_i y2)] s := by
  intro x1 x2 x3 y0 y1 y2 s h
  unfold f_L_law_1869 at h
  obtain ⟨a1, ea1, g⟩ := e_nn_some h
  clear h
  subst ea1
  have h := g
  clear g
  refine r_callV (pc := 1869) (fun v => some (sj_i v)) (As := [sj_i y0]) (rest := [(sj_i y2)]) h dL_law_1869 mw_L_204 vw_X9_image (fun _ _ hc => c_X9_image hc) rfl ⟨(Nat.le_of_ble_eq_true rfl), (Nat.le_of_ble_eq_true rfl)⟩ (Nat.le_of_ble_eq_true rfl) rfl (fun v3 s2 h => ?_)
  refine r_icmp_eq (pc := 1872) (tgt := 1900) h dL_law_1872 (by decide) (fun h => ?_) (fun h => ?_)
  · exact sj_weak (l2 := [some (sj_t 1000), some (sj_r x1), some (sj_r x2), some (sj_i x3)]) (⟨rfl, ⟨rfl, ⟨rfl, ⟨rfl, trivial⟩⟩⟩⟩) (t_L_law_1900 hk18 x1 x2 x3 s2 h)
  · refine r_iconst (pc := 1875) dL_law_1875 ?_
    exact r_zret (pc := 1876) h rfl dL_law_1876
set_option maxHeartbeats 4000000 in
theorem t_L_law_1852 {X : sj_X} {s0 : sj_Mem} {N : Nat} {q : Int × sj_Mem} {k18 : Option Nat → Option Nat → Int → sj_Mem → Option (Int × sj_Mem)} (hk18 : ∀ (x1 : Option Nat) (x2 : Option Nat) (x3 : Int) (s : sj_Mem), k18 x1 x2 x3 s = some q → sj_T X m_L_law s0 (some (sj_i q.1), q.2) 18 [some (sj_t 1000), some (sj_r x1), some (sj_r x2), some (sj_i x3)] [] s) :
    ∀ (x1 : Option Nat) (x2 : Option Nat) (x3 : Int) (y0 : Int) (y1 : Option Nat) (s : sj_Mem), f_L_law_1852 N (sj_scL X) (sj_scx X) k18 x1 x2 x3 y0 y1 s = some q → sj_T X m_L_law s0 (some (sj_i q.1), q.2) 1852 [some (sj_t 1000), some (sj_r x1), some (sj_r x2), some (sj_i x3)] [(sj_i y0), (sj_r y1)] s := by
  intro x1 x2 x3 y0 y1 s h
  unfold f_L_law_1852 at h
  obtain ⟨a1, ea1, g⟩ := e_nn_some h
  clear h
  subst ea1
  have h := g
  clear g
  refine r_callV (pc := 1852) (fun v => some (sj_i v)) (As := [sj_i y0]) (rest := []) h dL_law_1852 mw_L_200 vw_X8_image (fun _ _ hc => c_X8_image hc) rfl ⟨(Nat.le_of_ble_eq_true rfl), (Nat.le_of_ble_eq_true rfl)⟩ (Nat.le_of_ble_eq_true rfl) rfl (fun v3 s2 h => ?_)
  refine r_aload_n (pc := 1855) dL_law_1855 rfl rfl ?_
  refine r_tload_n (pc := 1856) dL_law_1856 rfl rfl ?_
  refine r_iload_n (pc := 1857) dL_law_1857 rfl rfl ?_
  refine r_iconst (pc := 1858) dL_law_1858 ?_
  refine r_iadd (pc := 1859) dL_law_1859 ?_
  refine r_saload (pc := 1860) h dL_law_1860 (fun v4 h => ?_)
  refine r_if_eq (pc := 1861) (tgt := 1868) h dL_law_1861 (by decide) (fun h => ?_) (fun h => ?_)
  · refine r_iconst (pc := 1868) dL_law_1868 ?_
    exact sj_weak (l2 := [some (sj_t 1000), some (sj_r x1), some (sj_r x2), some (sj_i x3)]) (⟨rfl, ⟨rfl, ⟨rfl, ⟨rfl, trivial⟩⟩⟩⟩) (t_L_law_1869 hk18 x1 x2 x3 0 x2 v3 s2 h)
  · refine r_iconst (pc := 1864) dL_law_1864 ?_
    refine r_goto (pc := 1865) (tgt := 1869) dL_law_1865 (by decide) ?_
    exact sj_weak (l2 := [some (sj_t 1000), some (sj_r x1), some (sj_r x2), some (sj_i x3)]) (⟨rfl, ⟨rfl, ⟨rfl, ⟨rfl, trivial⟩⟩⟩⟩) (t_L_law_1869 hk18 x1 x2 x3 1 x2 v3 s2 h)
set_option maxHeartbeats 4000000 in
theorem t_L_law_18_b {X : sj_X} {s0 : sj_Mem} {N : Nat} {q : Int × sj_Mem} {k18 : Option Nat → Option Nat → Int → sj_Mem → Option (Int × sj_Mem)} (hk18 : ∀ (x1 : Option Nat) (x2 : Option Nat) (x3 : Int) (s : sj_Mem), k18 x1 x2 x3 s = some q → sj_T X m_L_law s0 (some (sj_i q.1), q.2) 18 [some (sj_t 1000), some (sj_r x1), some (sj_r x2), some (sj_i x3)] [] s) :
    ∀ (x1 : Option Nat) (x2 : Option Nat) (x3 : Int) (s : sj_Mem), f_L_law_18_b N (sj_scL X) (sj_scx X) k18 x1 x2 x3 s = some q → sj_T X m_L_law s0 (some (sj_i q.1), q.2) 18 [some (sj_t 1000), some (sj_r x1), some (sj_r x2), some (sj_i x3)] [] s := by
  intro x1 x2 x3 s h
  unfold f_L_law_18_b at h
  refine r_iload_n (pc := 18) dL_law_18 rfl rfl ?_
  refine r_tload_n (pc := 19) dL_law_19 rfl rfl ?_
  refine r_slen (pc := 20) dL_law_20 ?_
  refine r_bipush (pc := 21) dL_law_21 ⟨by decide, by decide⟩ ?_
  refine r_isub (pc := 23) dL_law_23 ?_
  refine r_icmp_gt (pc := 24) (tgt := 1906) h dL_law_24 (by decide) (fun h => ?_) (fun h => ?_)
  · refine r_iconst (pc := 1906) dL_law_1906 ?_
    exact r_zret (pc := 1907) h rfl dL_law_1907
  · refine r_tload_n (pc := 27) dL_law_27 rfl rfl ?_
    refine r_iload_n (pc := 28) dL_law_28 rfl rfl ?_
    refine r_saload (pc := 29) h dL_law_29 (fun v1 h => ?_)
    refine r_bipush (pc := 30) dL_law_30 ⟨by decide, by decide⟩ ?_
    refine r_iand (pc := 32) dL_law_32 ?_
    obtain ⟨hr, h⟩ := e_sw_some h
    refine sj_if h (fun c0 h => ?_) (fun c0 h => ?_)
    · refine r_tcase (pc := 33) (tgt := 224) (j := 0) hr c0 dL_law_33 (by decide) (by decide) rfl (by decide) ?_
      refine r_aload_n (pc := 224) dL_law_224 rfl rfl ?_
      refine r_tload_n (pc := 225) dL_law_225 rfl rfl ?_
      refine r_iload_n (pc := 226) dL_law_226 rfl rfl ?_
      refine r_iconst (pc := 227) dL_law_227 ?_
      refine r_iadd (pc := 228) dL_law_228 ?_
      refine r_saload (pc := 229) h dL_law_229 (fun v2 h => ?_)
      refine r_tload_n (pc := 230) dL_law_230 rfl rfl ?_
      refine r_iload_n (pc := 231) dL_law_231 rfl rfl ?_
      refine r_iconst (pc := 232) dL_law_232 ?_
      refine r_iadd (pc := 233) dL_law_233 ?_
      refine r_saload (pc := 234) h dL_law_234 (fun v3 h => ?_)
      obtain ⟨a4, ea4, g⟩ := e_nn_some h
      clear h
      subst ea4
      have h := g
      clear g
      refine r_callV (pc := 235) (fun v => some (sj_i v)) (As := [sj_i v2, sj_i v3]) (rest := []) h dL_law_235 mw_L_13 vw_X8_size (fun _ _ hc => c_X8_size hc) rfl ⟨(Nat.le_of_ble_eq_true rfl), (Nat.le_of_ble_eq_true rfl)⟩ (Nat.le_of_ble_eq_true rfl) rfl (fun v6 s5 h => ?_)
      refine r_aload_n (pc := 238) dL_law_238 rfl rfl ?_
      refine r_tload_n (pc := 239) dL_law_239 rfl rfl ?_
      refine r_iload_n (pc := 240) dL_law_240 rfl rfl ?_
      refine r_iconst (pc := 241) dL_law_241 ?_
      refine r_iadd (pc := 242) dL_law_242 ?_
      refine r_saload (pc := 243) h dL_law_243 (fun v7 h => ?_)
      refine r_tload_n (pc := 244) dL_law_244 rfl rfl ?_
      refine r_iload_n (pc := 245) dL_law_245 rfl rfl ?_
      refine r_iconst (pc := 246) dL_law_246 ?_
      refine r_iadd (pc := 247) dL_law_247 ?_
      refine r_saload (pc := 248) h dL_law_248 (fun v8 h => ?_)
      obtain ⟨a9, ea9, g⟩ := e_nn_some h
      clear h
      subst ea9
      have h := g
      clear g
      refine r_callV (pc := 249) (fun v => some (sj_i v)) (As := [sj_i v7, sj_i v8]) (rest := [(sj_i v6)]) h dL_law_249 mw_L_17 vw_X9_size (fun _ _ hc => c_X9_size hc) rfl ⟨(Nat.le_of_ble_eq_true rfl), (Nat.le_of_ble_eq_true rfl)⟩ (Nat.le_of_ble_eq_true rfl) rfl (fun v11 s10 h => ?_)
      refine r_icmp_eq (pc := 252) (tgt := 1900) h dL_law_252 (by decide) (fun h => ?_) (fun h => ?_)
      · exact sj_weak (l2 := [some (sj_t 1000), some (sj_r (some a4)), some (sj_r (some a9)), some (sj_i x3)]) (⟨rfl, ⟨rfl, ⟨rfl, ⟨rfl, trivial⟩⟩⟩⟩) (t_L_law_1900 hk18 (some a4) (some a9) x3 s10 h)
      · refine r_iconst (pc := 255) dL_law_255 ?_
        exact r_zret (pc := 256) h rfl dL_law_256
    refine sj_if h (fun c1 h => ?_) (fun c1 h => ?_)
    · refine r_tcase (pc := 33) (tgt := 257) (j := 1) hr c1 dL_law_33 (by decide) (by decide) rfl (by decide) ?_
      refine r_aload_n (pc := 257) dL_law_257 rfl rfl ?_
      refine r_tload_n (pc := 258) dL_law_258 rfl rfl ?_
      refine r_iload_n (pc := 259) dL_law_259 rfl rfl ?_
      refine r_iconst (pc := 260) dL_law_260 ?_
      refine r_iadd (pc := 261) dL_law_261 ?_
      refine r_saload (pc := 262) h dL_law_262 (fun v12 h => ?_)
      refine r_tload_n (pc := 263) dL_law_263 rfl rfl ?_
      refine r_iload_n (pc := 264) dL_law_264 rfl rfl ?_
      refine r_iconst (pc := 265) dL_law_265 ?_
      refine r_iadd (pc := 266) dL_law_266 ?_
      refine r_saload (pc := 267) h dL_law_267 (fun v13 h => ?_)
      refine r_tload_n (pc := 268) dL_law_268 rfl rfl ?_
      refine r_iload_n (pc := 269) dL_law_269 rfl rfl ?_
      refine r_iconst (pc := 270) dL_law_270 ?_
      refine r_iadd (pc := 271) dL_law_271 ?_
      refine r_saload (pc := 272) h dL_law_272 (fun v14 h => ?_)
      obtain ⟨a15, ea15, g⟩ := e_nn_some h
      clear h
      subst ea15
      have h := g
      clear g
      refine r_callV (pc := 273) (fun v => some (sj_i v)) (As := [sj_i v12, sj_i v13, sj_i v14]) (rest := []) h dL_law_273 mw_L_18 vw_X8_tell (fun _ _ hc => c_X8_tell hc) rfl ⟨(Nat.le_of_ble_eq_true rfl), (Nat.le_of_ble_eq_true rfl)⟩ (Nat.le_of_ble_eq_true rfl) rfl (fun v17 s16 h => ?_)
      refine r_aload_n (pc := 276) dL_law_276 rfl rfl ?_
      refine r_tload_n (pc := 277) dL_law_277 rfl rfl ?_
      refine r_iload_n (pc := 278) dL_law_278 rfl rfl ?_
      refine r_iconst (pc := 279) dL_law_279 ?_
      refine r_iadd (pc := 280) dL_law_280 ?_
      refine r_saload (pc := 281) h dL_law_281 (fun v18 h => ?_)
      refine r_tload_n (pc := 282) dL_law_282 rfl rfl ?_
      refine r_iload_n (pc := 283) dL_law_283 rfl rfl ?_
      refine r_iconst (pc := 284) dL_law_284 ?_
      refine r_iadd (pc := 285) dL_law_285 ?_
      refine r_saload (pc := 286) h dL_law_286 (fun v19 h => ?_)
      refine r_tload_n (pc := 287) dL_law_287 rfl rfl ?_
      refine r_iload_n (pc := 288) dL_law_288 rfl rfl ?_
      refine r_iconst (pc := 289) dL_law_289 ?_
      refine r_iadd (pc := 290) dL_law_290 ?_
      refine r_saload (pc := 291) h dL_law_291 (fun v20 h => ?_)
      obtain ⟨a21, ea21, g⟩ := e_nn_some h
      clear h
      subst ea21
      have h := g
      clear g
      refine r_callV (pc := 292) (fun v => some (sj_i v)) (As := [sj_i v18, sj_i v19, sj_i v20]) (rest := [(sj_i v17)]) h dL_law_292 mw_L_22 vw_X9_tell (fun _ _ hc => c_X9_tell hc) rfl ⟨(Nat.le_of_ble_eq_true rfl), (Nat.le_of_ble_eq_true rfl)⟩ (Nat.le_of_ble_eq_true rfl) rfl (fun v23 s22 h => ?_)
      refine r_icmp_eq (pc := 295) (tgt := 1900) h dL_law_295 (by decide) (fun h => ?_) (fun h => ?_)
      · exact sj_weak (l2 := [some (sj_t 1000), some (sj_r (some a15)), some (sj_r (some a21)), some (sj_i x3)]) (⟨rfl, ⟨rfl, ⟨rfl, ⟨rfl, trivial⟩⟩⟩⟩) (t_L_law_1900 hk18 (some a15) (some a21) x3 s22 h)
      · refine r_iconst (pc := 298) dL_law_298 ?_
        exact r_zret (pc := 299) h rfl dL_law_299
    refine sj_if h (fun c2 h => ?_) (fun c2 h => ?_)
    · refine r_tcase (pc := 33) (tgt := 300) (j := 2) hr c2 dL_law_33 (by decide) (by decide) rfl (by decide) ?_
      refine r_aload_n (pc := 300) dL_law_300 rfl rfl ?_
      refine r_tload_n (pc := 301) dL_law_301 rfl rfl ?_
      refine r_iload_n (pc := 302) dL_law_302 rfl rfl ?_
      refine r_iconst (pc := 303) dL_law_303 ?_
      refine r_iadd (pc := 304) dL_law_304 ?_
      refine r_saload (pc := 305) h dL_law_305 (fun v24 h => ?_)
      refine r_tload_n (pc := 306) dL_law_306 rfl rfl ?_
      refine r_iload_n (pc := 307) dL_law_307 rfl rfl ?_
      refine r_iconst (pc := 308) dL_law_308 ?_
      refine r_iadd (pc := 309) dL_law_309 ?_
      refine r_saload (pc := 310) h dL_law_310 (fun v25 h => ?_)
      obtain ⟨a26, ea26, g⟩ := e_nn_some h
      clear h
      subst ea26
      have h := g
      clear g
      refine r_callV (pc := 311) (fun v => some (sj_i v)) (As := [sj_i v24, sj_i v25]) (rest := []) h dL_law_311 mw_L_23 vw_X8_dig (fun _ _ hc => c_X8_dig hc) rfl ⟨(Nat.le_of_ble_eq_true rfl), (Nat.le_of_ble_eq_true rfl)⟩ (Nat.le_of_ble_eq_true rfl) rfl (fun v28 s27 h => ?_)
      refine r_aload_n (pc := 314) dL_law_314 rfl rfl ?_
      refine r_tload_n (pc := 315) dL_law_315 rfl rfl ?_
      refine r_iload_n (pc := 316) dL_law_316 rfl rfl ?_
      refine r_iconst (pc := 317) dL_law_317 ?_
      refine r_iadd (pc := 318) dL_law_318 ?_
      refine r_saload (pc := 319) h dL_law_319 (fun v29 h => ?_)
      refine r_tload_n (pc := 320) dL_law_320 rfl rfl ?_
      refine r_iload_n (pc := 321) dL_law_321 rfl rfl ?_
      refine r_iconst (pc := 322) dL_law_322 ?_
      refine r_iadd (pc := 323) dL_law_323 ?_
      refine r_saload (pc := 324) h dL_law_324 (fun v30 h => ?_)
      obtain ⟨a31, ea31, g⟩ := e_nn_some h
      clear h
      subst ea31
      have h := g
      clear g
      refine r_callV (pc := 325) (fun v => some (sj_i v)) (As := [sj_i v29, sj_i v30]) (rest := [(sj_i v28)]) h dL_law_325 mw_L_27 vw_X9_dig (fun _ _ hc => c_X9_dig hc) rfl ⟨(Nat.le_of_ble_eq_true rfl), (Nat.le_of_ble_eq_true rfl)⟩ (Nat.le_of_ble_eq_true rfl) rfl (fun v33 s32 h => ?_)
      refine r_icmp_eq (pc := 328) (tgt := 1900) h dL_law_328 (by decide) (fun h => ?_) (fun h => ?_)
      · exact sj_weak (l2 := [some (sj_t 1000), some (sj_r (some a26)), some (sj_r (some a31)), some (sj_i x3)]) (⟨rfl, ⟨rfl, ⟨rfl, ⟨rfl, trivial⟩⟩⟩⟩) (t_L_law_1900 hk18 (some a26) (some a31) x3 s32 h)
      · refine r_iconst (pc := 331) dL_law_331 ?_
        exact r_zret (pc := 332) h rfl dL_law_332
    refine sj_if h (fun c3 h => ?_) (fun c3 h => ?_)
    · refine r_tcase (pc := 33) (tgt := 333) (j := 3) hr c3 dL_law_33 (by decide) (by decide) rfl (by decide) ?_
      refine r_aload_n (pc := 333) dL_law_333 rfl rfl ?_
      refine r_tload_n (pc := 334) dL_law_334 rfl rfl ?_
      refine r_iload_n (pc := 335) dL_law_335 rfl rfl ?_
      refine r_iconst (pc := 336) dL_law_336 ?_
      refine r_iadd (pc := 337) dL_law_337 ?_
      refine r_saload (pc := 338) h dL_law_338 (fun v34 h => ?_)
      refine r_tload_n (pc := 339) dL_law_339 rfl rfl ?_
      refine r_iload_n (pc := 340) dL_law_340 rfl rfl ?_
      refine r_iconst (pc := 341) dL_law_341 ?_
      refine r_iadd (pc := 342) dL_law_342 ?_
      refine r_saload (pc := 343) h dL_law_343 (fun v35 h => ?_)
      refine r_tload_n (pc := 344) dL_law_344 rfl rfl ?_
      refine r_iload_n (pc := 345) dL_law_345 rfl rfl ?_
      refine r_iconst (pc := 346) dL_law_346 ?_
      refine r_iadd (pc := 347) dL_law_347 ?_
      refine r_saload (pc := 348) h dL_law_348 (fun v36 h => ?_)
      refine r_tload_n (pc := 349) dL_law_349 rfl rfl ?_
      refine r_iload_n (pc := 350) dL_law_350 rfl rfl ?_
      refine r_iconst (pc := 351) dL_law_351 ?_
      refine r_iadd (pc := 352) dL_law_352 ?_
      refine r_saload (pc := 353) h dL_law_353 (fun v37 h => ?_)
      obtain ⟨a38, ea38, g⟩ := e_nn_some h
      clear h
      subst ea38
      have h := g
      clear g
      refine r_callV (pc := 354) (fun v => some (sj_i v)) (As := [sj_i v34, sj_i v35, sj_i v36, sj_i v37]) (rest := []) h dL_law_354 mw_L_28 vw_X8_soil (fun _ _ hc => c_X8_soil hc) rfl ⟨(Nat.le_of_ble_eq_true rfl), (Nat.le_of_ble_eq_true rfl)⟩ (Nat.le_of_ble_eq_true rfl) rfl (fun v40 s39 h => ?_)
      refine r_aload_n (pc := 357) dL_law_357 rfl rfl ?_
      refine r_tload_n (pc := 358) dL_law_358 rfl rfl ?_
      refine r_iload_n (pc := 359) dL_law_359 rfl rfl ?_
      refine r_iconst (pc := 360) dL_law_360 ?_
      refine r_iadd (pc := 361) dL_law_361 ?_
      refine r_saload (pc := 362) h dL_law_362 (fun v41 h => ?_)
      refine r_tload_n (pc := 363) dL_law_363 rfl rfl ?_
      refine r_iload_n (pc := 364) dL_law_364 rfl rfl ?_
      refine r_iconst (pc := 365) dL_law_365 ?_
      refine r_iadd (pc := 366) dL_law_366 ?_
      refine r_saload (pc := 367) h dL_law_367 (fun v42 h => ?_)
      refine r_tload_n (pc := 368) dL_law_368 rfl rfl ?_
      refine r_iload_n (pc := 369) dL_law_369 rfl rfl ?_
      refine r_iconst (pc := 370) dL_law_370 ?_
      refine r_iadd (pc := 371) dL_law_371 ?_
      refine r_saload (pc := 372) h dL_law_372 (fun v43 h => ?_)
      refine r_tload_n (pc := 373) dL_law_373 rfl rfl ?_
      refine r_iload_n (pc := 374) dL_law_374 rfl rfl ?_
      refine r_iconst (pc := 375) dL_law_375 ?_
      refine r_iadd (pc := 376) dL_law_376 ?_
      refine r_saload (pc := 377) h dL_law_377 (fun v44 h => ?_)
      obtain ⟨a45, ea45, g⟩ := e_nn_some h
      clear h
      subst ea45
      have h := g
      clear g
      refine r_callV (pc := 378) (fun v => some (sj_i v)) (As := [sj_i v41, sj_i v42, sj_i v43, sj_i v44]) (rest := [(sj_i v40)]) h dL_law_378 mw_L_32 vw_X9_soil (fun _ _ hc => c_X9_soil hc) rfl ⟨(Nat.le_of_ble_eq_true rfl), (Nat.le_of_ble_eq_true rfl)⟩ (Nat.le_of_ble_eq_true rfl) rfl (fun v47 s46 h => ?_)
      refine r_icmp_eq (pc := 381) (tgt := 1900) h dL_law_381 (by decide) (fun h => ?_) (fun h => ?_)
      · exact sj_weak (l2 := [some (sj_t 1000), some (sj_r (some a38)), some (sj_r (some a45)), some (sj_i x3)]) (⟨rfl, ⟨rfl, ⟨rfl, ⟨rfl, trivial⟩⟩⟩⟩) (t_L_law_1900 hk18 (some a38) (some a45) x3 s46 h)
      · refine r_iconst (pc := 384) dL_law_384 ?_
        exact r_zret (pc := 385) h rfl dL_law_385
    refine sj_if h (fun c4 h => ?_) (fun c4 h => ?_)
    · refine r_tcase (pc := 33) (tgt := 386) (j := 4) hr c4 dL_law_33 (by decide) (by decide) rfl (by decide) ?_
      refine r_aload_n (pc := 386) dL_law_386 rfl rfl ?_
      refine r_tload_n (pc := 387) dL_law_387 rfl rfl ?_
      refine r_iload_n (pc := 388) dL_law_388 rfl rfl ?_
      refine r_iconst (pc := 389) dL_law_389 ?_
      refine r_iadd (pc := 390) dL_law_390 ?_
      refine r_saload (pc := 391) h dL_law_391 (fun v48 h => ?_)
      obtain ⟨a49, ea49, g⟩ := e_nn_some h
      clear h
      subst ea49
      have h := g
      clear g
      refine r_callV (pc := 392) (fun v => some (sj_i v)) (As := [sj_i v48]) (rest := []) h dL_law_392 mw_L_33 vw_X8_quake (fun _ _ hc => c_X8_quake hc) rfl ⟨(Nat.le_of_ble_eq_true rfl), (Nat.le_of_ble_eq_true rfl)⟩ (Nat.le_of_ble_eq_true rfl) rfl (fun v51 s50 h => ?_)
      refine r_aload_n (pc := 395) dL_law_395 rfl rfl ?_
      refine r_tload_n (pc := 396) dL_law_396 rfl rfl ?_
      refine r_iload_n (pc := 397) dL_law_397 rfl rfl ?_
      refine r_iconst (pc := 398) dL_law_398 ?_
      refine r_iadd (pc := 399) dL_law_399 ?_
      refine r_saload (pc := 400) h dL_law_400 (fun v52 h => ?_)
      obtain ⟨a53, ea53, g⟩ := e_nn_some h
      clear h
      subst ea53
      have h := g
      clear g
      refine r_callV (pc := 401) (fun v => some (sj_i v)) (As := [sj_i v52]) (rest := [(sj_i v51)]) h dL_law_401 mw_L_37 vw_X9_quake (fun _ _ hc => c_X9_quake hc) rfl ⟨(Nat.le_of_ble_eq_true rfl), (Nat.le_of_ble_eq_true rfl)⟩ (Nat.le_of_ble_eq_true rfl) rfl (fun v55 s54 h => ?_)
      refine r_icmp_eq (pc := 404) (tgt := 1900) h dL_law_404 (by decide) (fun h => ?_) (fun h => ?_)
      · exact sj_weak (l2 := [some (sj_t 1000), some (sj_r (some a49)), some (sj_r (some a53)), some (sj_i x3)]) (⟨rfl, ⟨rfl, ⟨rfl, ⟨rfl, trivial⟩⟩⟩⟩) (t_L_law_1900 hk18 (some a49) (some a53) x3 s54 h)
      · refine r_iconst (pc := 407) dL_law_407 ?_
        exact r_zret (pc := 408) h rfl dL_law_408
    refine sj_if h (fun c5 h => ?_) (fun c5 h => ?_)
    · refine r_tcase (pc := 33) (tgt := 409) (j := 5) hr c5 dL_law_33 (by decide) (by decide) rfl (by decide) ?_
      refine r_aload_n (pc := 409) dL_law_409 rfl rfl ?_
      refine r_tload_n (pc := 410) dL_law_410 rfl rfl ?_
      refine r_iload_n (pc := 411) dL_law_411 rfl rfl ?_
      refine r_iconst (pc := 412) dL_law_412 ?_
      refine r_iadd (pc := 413) dL_law_413 ?_
      refine r_saload (pc := 414) h dL_law_414 (fun v56 h => ?_)
      refine r_tload_n (pc := 415) dL_law_415 rfl rfl ?_
      refine r_iload_n (pc := 416) dL_law_416 rfl rfl ?_
      refine r_iconst (pc := 417) dL_law_417 ?_
      refine r_iadd (pc := 418) dL_law_418 ?_
      refine r_saload (pc := 419) h dL_law_419 (fun v57 h => ?_)
      refine r_tload_n (pc := 420) dL_law_420 rfl rfl ?_
      refine r_iload_n (pc := 421) dL_law_421 rfl rfl ?_
      refine r_iconst (pc := 422) dL_law_422 ?_
      refine r_iadd (pc := 423) dL_law_423 ?_
      refine r_saload (pc := 424) h dL_law_424 (fun v58 h => ?_)
      refine r_tload_n (pc := 425) dL_law_425 rfl rfl ?_
      refine r_iload_n (pc := 426) dL_law_426 rfl rfl ?_
      refine r_iconst (pc := 427) dL_law_427 ?_
      refine r_iadd (pc := 428) dL_law_428 ?_
      refine r_saload (pc := 429) h dL_law_429 (fun v59 h => ?_)
      obtain ⟨a60, ea60, g⟩ := e_nn_some h
      clear h
      subst ea60
      have h := g
      clear g
      refine r_callV (pc := 430) (fun v => some (sj_i v)) (As := [sj_i v56, sj_i v57, sj_i v58, sj_i v59]) (rest := []) h dL_law_430 mw_L_38 vw_X8_anchor (fun _ _ hc => c_X8_anchor hc) rfl ⟨(Nat.le_of_ble_eq_true rfl), (Nat.le_of_ble_eq_true rfl)⟩ (Nat.le_of_ble_eq_true rfl) rfl (fun v62 s61 h => ?_)
      refine r_aload_n (pc := 433) dL_law_433 rfl rfl ?_
      refine r_tload_n (pc := 434) dL_law_434 rfl rfl ?_
      refine r_iload_n (pc := 435) dL_law_435 rfl rfl ?_
      refine r_iconst (pc := 436) dL_law_436 ?_
      refine r_iadd (pc := 437) dL_law_437 ?_
      refine r_saload (pc := 438) h dL_law_438 (fun v63 h => ?_)
      refine r_tload_n (pc := 439) dL_law_439 rfl rfl ?_
      refine r_iload_n (pc := 440) dL_law_440 rfl rfl ?_
      refine r_iconst (pc := 441) dL_law_441 ?_
      refine r_iadd (pc := 442) dL_law_442 ?_
      refine r_saload (pc := 443) h dL_law_443 (fun v64 h => ?_)
      refine r_tload_n (pc := 444) dL_law_444 rfl rfl ?_
      refine r_iload_n (pc := 445) dL_law_445 rfl rfl ?_
      refine r_iconst (pc := 446) dL_law_446 ?_
      refine r_iadd (pc := 447) dL_law_447 ?_
      refine r_saload (pc := 448) h dL_law_448 (fun v65 h => ?_)
      refine r_tload_n (pc := 449) dL_law_449 rfl rfl ?_
      refine r_iload_n (pc := 450) dL_law_450 rfl rfl ?_
      refine r_iconst (pc := 451) dL_law_451 ?_
      refine r_iadd (pc := 452) dL_law_452 ?_
      refine r_saload (pc := 453) h dL_law_453 (fun v66 h => ?_)
      obtain ⟨a67, ea67, g⟩ := e_nn_some h
      clear h
      subst ea67
      have h := g
      clear g
      refine r_callV (pc := 454) (fun v => some (sj_i v)) (As := [sj_i v63, sj_i v64, sj_i v65, sj_i v66]) (rest := [(sj_i v62)]) h dL_law_454 mw_L_41 vw_X9_anchor (fun _ _ hc => c_X9_anchor hc) rfl ⟨(Nat.le_of_ble_eq_true rfl), (Nat.le_of_ble_eq_true rfl)⟩ (Nat.le_of_ble_eq_true rfl) rfl (fun v69 s68 h => ?_)
      refine r_icmp_eq (pc := 457) (tgt := 1900) h dL_law_457 (by decide) (fun h => ?_) (fun h => ?_)
      · exact sj_weak (l2 := [some (sj_t 1000), some (sj_r (some a60)), some (sj_r (some a67)), some (sj_i x3)]) (⟨rfl, ⟨rfl, ⟨rfl, ⟨rfl, trivial⟩⟩⟩⟩) (t_L_law_1900 hk18 (some a60) (some a67) x3 s68 h)
      · refine r_iconst (pc := 460) dL_law_460 ?_
        exact r_zret (pc := 461) h rfl dL_law_461
    refine sj_if h (fun c6 h => ?_) (fun c6 h => ?_)
    · refine r_tcase (pc := 33) (tgt := 462) (j := 6) hr c6 dL_law_33 (by decide) (by decide) rfl (by decide) ?_
      refine r_aload_n (pc := 462) dL_law_462 rfl rfl ?_
      refine r_tload_n (pc := 463) dL_law_463 rfl rfl ?_
      refine r_iload_n (pc := 464) dL_law_464 rfl rfl ?_
      refine r_iconst (pc := 465) dL_law_465 ?_
      refine r_iadd (pc := 466) dL_law_466 ?_
      refine r_saload (pc := 467) h dL_law_467 (fun v70 h => ?_)
      refine r_tload_n (pc := 468) dL_law_468 rfl rfl ?_
      refine r_iload_n (pc := 469) dL_law_469 rfl rfl ?_
      refine r_iconst (pc := 470) dL_law_470 ?_
      refine r_iadd (pc := 471) dL_law_471 ?_
      refine r_saload (pc := 472) h dL_law_472 (fun v71 h => ?_)
      refine r_tload_n (pc := 473) dL_law_473 rfl rfl ?_
      refine r_iload_n (pc := 474) dL_law_474 rfl rfl ?_
      refine r_iconst (pc := 475) dL_law_475 ?_
      refine r_iadd (pc := 476) dL_law_476 ?_
      refine r_saload (pc := 477) h dL_law_477 (fun v72 h => ?_)
      refine r_tload_n (pc := 478) dL_law_478 rfl rfl ?_
      refine r_iload_n (pc := 479) dL_law_479 rfl rfl ?_
      refine r_iconst (pc := 480) dL_law_480 ?_
      refine r_iadd (pc := 481) dL_law_481 ?_
      refine r_saload (pc := 482) h dL_law_482 (fun v73 h => ?_)
      refine r_tload_n (pc := 483) dL_law_483 rfl rfl ?_
      refine r_iload_n (pc := 484) dL_law_484 rfl rfl ?_
      refine r_iconst (pc := 485) dL_law_485 ?_
      refine r_iadd (pc := 486) dL_law_486 ?_
      refine r_saload (pc := 487) h dL_law_487 (fun v74 h => ?_)
      obtain ⟨a75, ea75, g⟩ := e_nn_some h
      clear h
      subst ea75
      have h := g
      clear g
      refine r_callV (pc := 488) (fun v => some (sj_i v)) (As := [sj_i v70, sj_i v71, sj_i v72, sj_i v73, sj_i v74]) (rest := []) h dL_law_488 mw_L_42 vw_X8_feed (fun _ _ hc => c_X8_feed hc) rfl ⟨(Nat.le_of_ble_eq_true rfl), (Nat.le_of_ble_eq_true rfl)⟩ (Nat.le_of_ble_eq_true rfl) rfl (fun v77 s76 h => ?_)
      refine r_aload_n (pc := 491) dL_law_491 rfl rfl ?_
      refine r_tload_n (pc := 492) dL_law_492 rfl rfl ?_
      refine r_iload_n (pc := 493) dL_law_493 rfl rfl ?_
      refine r_iconst (pc := 494) dL_law_494 ?_
      refine r_iadd (pc := 495) dL_law_495 ?_
      refine r_saload (pc := 496) h dL_law_496 (fun v78 h => ?_)
      refine r_tload_n (pc := 497) dL_law_497 rfl rfl ?_
      refine r_iload_n (pc := 498) dL_law_498 rfl rfl ?_
      refine r_iconst (pc := 499) dL_law_499 ?_
      refine r_iadd (pc := 500) dL_law_500 ?_
      refine r_saload (pc := 501) h dL_law_501 (fun v79 h => ?_)
      refine r_tload_n (pc := 502) dL_law_502 rfl rfl ?_
      refine r_iload_n (pc := 503) dL_law_503 rfl rfl ?_
      refine r_iconst (pc := 504) dL_law_504 ?_
      refine r_iadd (pc := 505) dL_law_505 ?_
      refine r_saload (pc := 506) h dL_law_506 (fun v80 h => ?_)
      refine r_tload_n (pc := 507) dL_law_507 rfl rfl ?_
      refine r_iload_n (pc := 508) dL_law_508 rfl rfl ?_
      refine r_iconst (pc := 509) dL_law_509 ?_
      refine r_iadd (pc := 510) dL_law_510 ?_
      refine r_saload (pc := 511) h dL_law_511 (fun v81 h => ?_)
      refine r_tload_n (pc := 512) dL_law_512 rfl rfl ?_
      refine r_iload_n (pc := 513) dL_law_513 rfl rfl ?_
      refine r_iconst (pc := 514) dL_law_514 ?_
      refine r_iadd (pc := 515) dL_law_515 ?_
      refine r_saload (pc := 516) h dL_law_516 (fun v82 h => ?_)
      obtain ⟨a83, ea83, g⟩ := e_nn_some h
      clear h
      subst ea83
      have h := g
      clear g
      refine r_callV (pc := 517) (fun v => some (sj_i v)) (As := [sj_i v78, sj_i v79, sj_i v80, sj_i v81, sj_i v82]) (rest := [(sj_i v77)]) h dL_law_517 mw_L_46 vw_X9_feed (fun _ _ hc => c_X9_feed hc) rfl ⟨(Nat.le_of_ble_eq_true rfl), (Nat.le_of_ble_eq_true rfl)⟩ (Nat.le_of_ble_eq_true rfl) rfl (fun v85 s84 h => ?_)
      refine r_icmp_eq (pc := 520) (tgt := 1900) h dL_law_520 (by decide) (fun h => ?_) (fun h => ?_)
      · exact sj_weak (l2 := [some (sj_t 1000), some (sj_r (some a75)), some (sj_r (some a83)), some (sj_i x3)]) (⟨rfl, ⟨rfl, ⟨rfl, ⟨rfl, trivial⟩⟩⟩⟩) (t_L_law_1900 hk18 (some a75) (some a83) x3 s84 h)
      · refine r_iconst (pc := 523) dL_law_523 ?_
        exact r_zret (pc := 524) h rfl dL_law_524
    refine sj_if h (fun c7 h => ?_) (fun c7 h => ?_)
    · refine r_tcase (pc := 33) (tgt := 525) (j := 7) hr c7 dL_law_33 (by decide) (by decide) rfl (by decide) ?_
      refine r_aload_n (pc := 525) dL_law_525 rfl rfl ?_
      refine r_tload_n (pc := 526) dL_law_526 rfl rfl ?_
      refine r_iload_n (pc := 527) dL_law_527 rfl rfl ?_
      refine r_iconst (pc := 528) dL_law_528 ?_
      refine r_iadd (pc := 529) dL_law_529 ?_
      refine r_saload (pc := 530) h dL_law_530 (fun v86 h => ?_)
      obtain ⟨a87, ea87, g⟩ := e_nn_some h
      clear h
      subst ea87
      have h := g
      clear g
      refine r_callV (pc := 531) (fun v => some (sj_i v)) (As := [sj_i v86]) (rest := []) h dL_law_531 mw_L_47 vw_X8_end (fun _ _ hc => c_X8_end hc) rfl ⟨(Nat.le_of_ble_eq_true rfl), (Nat.le_of_ble_eq_true rfl)⟩ (Nat.le_of_ble_eq_true rfl) rfl (fun v89 s88 h => ?_)
      refine r_aload_n (pc := 534) dL_law_534 rfl rfl ?_
      refine r_tload_n (pc := 535) dL_law_535 rfl rfl ?_
      refine r_iload_n (pc := 536) dL_law_536 rfl rfl ?_
      refine r_iconst (pc := 537) dL_law_537 ?_
      refine r_iadd (pc := 538) dL_law_538 ?_
      refine r_saload (pc := 539) h dL_law_539 (fun v90 h => ?_)
      obtain ⟨a91, ea91, g⟩ := e_nn_some h
      clear h
      subst ea91
      have h := g
      clear g
      refine r_callV (pc := 540) (fun v => some (sj_i v)) (As := [sj_i v90]) (rest := [(sj_i v89)]) h dL_law_540 mw_L_50 vw_X9_end (fun _ _ hc => c_X9_end hc) rfl ⟨(Nat.le_of_ble_eq_true rfl), (Nat.le_of_ble_eq_true rfl)⟩ (Nat.le_of_ble_eq_true rfl) rfl (fun v93 s92 h => ?_)
      refine r_icmp_eq (pc := 543) (tgt := 1900) h dL_law_543 (by decide) (fun h => ?_) (fun h => ?_)
      · exact sj_weak (l2 := [some (sj_t 1000), some (sj_r (some a87)), some (sj_r (some a91)), some (sj_i x3)]) (⟨rfl, ⟨rfl, ⟨rfl, ⟨rfl, trivial⟩⟩⟩⟩) (t_L_law_1900 hk18 (some a87) (some a91) x3 s92 h)
      · refine r_iconst (pc := 546) dL_law_546 ?_
        exact r_zret (pc := 547) h rfl dL_law_547
    refine sj_if h (fun c8 h => ?_) (fun c8 h => ?_)
    · refine r_tcase (pc := 33) (tgt := 548) (j := 8) hr c8 dL_law_33 (by decide) (by decide) rfl (by decide) ?_
      refine r_aload_n (pc := 548) dL_law_548 rfl rfl ?_
      obtain ⟨a94, ea94, g⟩ := e_nn_some h
      clear h
      subst ea94
      have h := g
      clear g
      refine r_callV (pc := 549) (fun v => some (sj_i v)) (As := []) (rest := []) h dL_law_549 mw_L_51 vw_X8_text (fun _ _ hc => c_X8_text hc) rfl ⟨(Nat.le_of_ble_eq_true rfl), (Nat.le_of_ble_eq_true rfl)⟩ (Nat.le_of_ble_eq_true rfl) rfl (fun v96 s95 h => ?_)
      refine r_aload_n (pc := 552) dL_law_552 rfl rfl ?_
      obtain ⟨a97, ea97, g⟩ := e_nn_some h
      clear h
      subst ea97
      have h := g
      clear g
      refine r_callV (pc := 553) (fun v => some (sj_i v)) (As := []) (rest := [(sj_i v96)]) h dL_law_553 mw_L_55 vw_X9_text (fun _ _ hc => c_X9_text hc) rfl ⟨(Nat.le_of_ble_eq_true rfl), (Nat.le_of_ble_eq_true rfl)⟩ (Nat.le_of_ble_eq_true rfl) rfl (fun v99 s98 h => ?_)
      refine r_icmp_eq (pc := 556) (tgt := 1900) h dL_law_556 (by decide) (fun h => ?_) (fun h => ?_)
      · exact sj_weak (l2 := [some (sj_t 1000), some (sj_r (some a94)), some (sj_r (some a97)), some (sj_i x3)]) (⟨rfl, ⟨rfl, ⟨rfl, ⟨rfl, trivial⟩⟩⟩⟩) (t_L_law_1900 hk18 (some a94) (some a97) x3 s98 h)
      · refine r_iconst (pc := 559) dL_law_559 ?_
        exact r_zret (pc := 560) h rfl dL_law_560
    refine sj_if h (fun c9 h => ?_) (fun c9 h => ?_)
    · refine r_tcase (pc := 33) (tgt := 561) (j := 9) hr c9 dL_law_33 (by decide) (by decide) rfl (by decide) ?_
      refine r_aload_n (pc := 561) dL_law_561 rfl rfl ?_
      refine r_tload_n (pc := 562) dL_law_562 rfl rfl ?_
      refine r_iload_n (pc := 563) dL_law_563 rfl rfl ?_
      refine r_iconst (pc := 564) dL_law_564 ?_
      refine r_iadd (pc := 565) dL_law_565 ?_
      refine r_saload (pc := 566) h dL_law_566 (fun v100 h => ?_)
      obtain ⟨a101, ea101, g⟩ := e_nn_some h
      clear h
      subst ea101
      have h := g
      clear g
      refine r_callV (pc := 567) (fun v => some (sj_i v)) (As := [sj_i v100]) (rest := []) h dL_law_567 mw_L_56 vw_X8_fault (fun _ _ hc => c_X8_fault hc) rfl ⟨(Nat.le_of_ble_eq_true rfl), (Nat.le_of_ble_eq_true rfl)⟩ (Nat.le_of_ble_eq_true rfl) rfl (fun v103 s102 h => ?_)
      refine r_aload_n (pc := 570) dL_law_570 rfl rfl ?_
      refine r_tload_n (pc := 571) dL_law_571 rfl rfl ?_
      refine r_iload_n (pc := 572) dL_law_572 rfl rfl ?_
      refine r_iconst (pc := 573) dL_law_573 ?_
      refine r_iadd (pc := 574) dL_law_574 ?_
      refine r_saload (pc := 575) h dL_law_575 (fun v104 h => ?_)
      obtain ⟨a105, ea105, g⟩ := e_nn_some h
      clear h
      subst ea105
      have h := g
      clear g
      refine r_callV (pc := 576) (fun v => some (sj_i v)) (As := [sj_i v104]) (rest := [(sj_i v103)]) h dL_law_576 mw_L_60 vw_X9_fault (fun _ _ hc => c_X9_fault hc) rfl ⟨(Nat.le_of_ble_eq_true rfl), (Nat.le_of_ble_eq_true rfl)⟩ (Nat.le_of_ble_eq_true rfl) rfl (fun v107 s106 h => ?_)
      refine r_icmp_eq (pc := 579) (tgt := 1900) h dL_law_579 (by decide) (fun h => ?_) (fun h => ?_)
      · exact sj_weak (l2 := [some (sj_t 1000), some (sj_r (some a101)), some (sj_r (some a105)), some (sj_i x3)]) (⟨rfl, ⟨rfl, ⟨rfl, ⟨rfl, trivial⟩⟩⟩⟩) (t_L_law_1900 hk18 (some a101) (some a105) x3 s106 h)
      · refine r_iconst (pc := 582) dL_law_582 ?_
        exact r_zret (pc := 583) h rfl dL_law_583
    refine sj_if h (fun c10 h => ?_) (fun c10 h => ?_)
    · refine r_tcase (pc := 33) (tgt := 584) (j := 10) hr c10 dL_law_33 (by decide) (by decide) rfl (by decide) ?_
      refine r_aload_n (pc := 584) dL_law_584 rfl rfl ?_
      refine r_tload_n (pc := 585) dL_law_585 rfl rfl ?_
      refine r_iload_n (pc := 586) dL_law_586 rfl rfl ?_
      refine r_iconst (pc := 587) dL_law_587 ?_
      refine r_iadd (pc := 588) dL_law_588 ?_
      refine r_saload (pc := 589) h dL_law_589 (fun v108 h => ?_)
      refine r_tload_n (pc := 590) dL_law_590 rfl rfl ?_
      refine r_iload_n (pc := 591) dL_law_591 rfl rfl ?_
      refine r_iconst (pc := 592) dL_law_592 ?_
      refine r_iadd (pc := 593) dL_law_593 ?_
      refine r_saload (pc := 594) h dL_law_594 (fun v109 h => ?_)
      refine r_tload_n (pc := 595) dL_law_595 rfl rfl ?_
      refine r_iload_n (pc := 596) dL_law_596 rfl rfl ?_
      refine r_iconst (pc := 597) dL_law_597 ?_
      refine r_iadd (pc := 598) dL_law_598 ?_
      refine r_saload (pc := 599) h dL_law_599 (fun v110 h => ?_)
      refine r_tload_n (pc := 600) dL_law_600 rfl rfl ?_
      refine r_iload_n (pc := 601) dL_law_601 rfl rfl ?_
      refine r_iconst (pc := 602) dL_law_602 ?_
      refine r_iadd (pc := 603) dL_law_603 ?_
      refine r_saload (pc := 604) h dL_law_604 (fun v111 h => ?_)
      refine r_if_eq (pc := 605) (tgt := 612) h dL_law_605 (by decide) (fun h => ?_) (fun h => ?_)
      · refine r_iconst (pc := 612) dL_law_612 ?_
        exact sj_weak (l2 := [some (sj_t 1000), some (sj_r x1), some (sj_r x2), some (sj_i x3)]) (⟨rfl, ⟨rfl, ⟨rfl, ⟨rfl, trivial⟩⟩⟩⟩) (t_L_law_613 hk18 x1 x2 x3 0 v110 v109 v108 x1 s h)
      · refine r_iconst (pc := 608) dL_law_608 ?_
        refine r_goto (pc := 609) (tgt := 613) dL_law_609 (by decide) ?_
        exact sj_weak (l2 := [some (sj_t 1000), some (sj_r x1), some (sj_r x2), some (sj_i x3)]) (⟨rfl, ⟨rfl, ⟨rfl, ⟨rfl, trivial⟩⟩⟩⟩) (t_L_law_613 hk18 x1 x2 x3 1 v110 v109 v108 x1 s h)
    refine sj_if h (fun c11 h => ?_) (fun c11 h => ?_)
    · refine r_tcase (pc := 33) (tgt := 653) (j := 11) hr c11 dL_law_33 (by decide) (by decide) rfl (by decide) ?_
      refine r_aload_n (pc := 653) dL_law_653 rfl rfl ?_
      refine r_tload_n (pc := 654) dL_law_654 rfl rfl ?_
      refine r_iload_n (pc := 655) dL_law_655 rfl rfl ?_
      refine r_iconst (pc := 656) dL_law_656 ?_
      refine r_iadd (pc := 657) dL_law_657 ?_
      refine r_saload (pc := 658) h dL_law_658 (fun v112 h => ?_)
      refine r_tload_n (pc := 659) dL_law_659 rfl rfl ?_
      refine r_iload_n (pc := 660) dL_law_660 rfl rfl ?_
      refine r_iconst (pc := 661) dL_law_661 ?_
      refine r_iadd (pc := 662) dL_law_662 ?_
      refine r_saload (pc := 663) h dL_law_663 (fun v113 h => ?_)
      obtain ⟨a114, ea114, g⟩ := e_nn_some h
      clear h
      subst ea114
      have h := g
      clear g
      refine r_callV (pc := 664) (fun v => some (sj_i v)) (As := [sj_i v112, sj_i v113]) (rest := []) h dL_law_664 mw_L_66 vw_X8_point (fun _ _ hc => c_X8_point hc) rfl ⟨(Nat.le_of_ble_eq_true rfl), (Nat.le_of_ble_eq_true rfl)⟩ (Nat.le_of_ble_eq_true rfl) rfl (fun v116 s115 h => ?_)
      refine r_aload_n (pc := 667) dL_law_667 rfl rfl ?_
      refine r_tload_n (pc := 668) dL_law_668 rfl rfl ?_
      refine r_iload_n (pc := 669) dL_law_669 rfl rfl ?_
      refine r_iconst (pc := 670) dL_law_670 ?_
      refine r_iadd (pc := 671) dL_law_671 ?_
      refine r_saload (pc := 672) h dL_law_672 (fun v117 h => ?_)
      refine r_tload_n (pc := 673) dL_law_673 rfl rfl ?_
      refine r_iload_n (pc := 674) dL_law_674 rfl rfl ?_
      refine r_iconst (pc := 675) dL_law_675 ?_
      refine r_iadd (pc := 676) dL_law_676 ?_
      refine r_saload (pc := 677) h dL_law_677 (fun v118 h => ?_)
      obtain ⟨a119, ea119, g⟩ := e_nn_some h
      clear h
      subst ea119
      have h := g
      clear g
      refine r_callV (pc := 678) (fun v => some (sj_i v)) (As := [sj_i v117, sj_i v118]) (rest := [(sj_i v116)]) h dL_law_678 mw_L_69 vw_X9_point (fun _ _ hc => c_X9_point hc) rfl ⟨(Nat.le_of_ble_eq_true rfl), (Nat.le_of_ble_eq_true rfl)⟩ (Nat.le_of_ble_eq_true rfl) rfl (fun v121 s120 h => ?_)
      refine r_icmp_eq (pc := 681) (tgt := 1900) h dL_law_681 (by decide) (fun h => ?_) (fun h => ?_)
      · exact sj_weak (l2 := [some (sj_t 1000), some (sj_r (some a114)), some (sj_r (some a119)), some (sj_i x3)]) (⟨rfl, ⟨rfl, ⟨rfl, ⟨rfl, trivial⟩⟩⟩⟩) (t_L_law_1900 hk18 (some a114) (some a119) x3 s120 h)
      · refine r_iconst (pc := 684) dL_law_684 ?_
        exact r_zret (pc := 685) h rfl dL_law_685
    refine sj_if h (fun c12 h => ?_) (fun c12 h => ?_)
    · refine r_tcase (pc := 33) (tgt := 686) (j := 12) hr c12 dL_law_33 (by decide) (by decide) rfl (by decide) ?_
      refine r_aload_n (pc := 686) dL_law_686 rfl rfl ?_
      refine r_tload_n (pc := 687) dL_law_687 rfl rfl ?_
      refine r_iload_n (pc := 688) dL_law_688 rfl rfl ?_
      refine r_iconst (pc := 689) dL_law_689 ?_
      refine r_iadd (pc := 690) dL_law_690 ?_
      refine r_saload (pc := 691) h dL_law_691 (fun v122 h => ?_)
      refine r_if_eq (pc := 692) (tgt := 699) h dL_law_692 (by decide) (fun h => ?_) (fun h => ?_)
      · refine r_iconst (pc := 699) dL_law_699 ?_
        exact sj_weak (l2 := [some (sj_t 1000), some (sj_r x1), some (sj_r x2), some (sj_i x3)]) (⟨rfl, ⟨rfl, ⟨rfl, ⟨rfl, trivial⟩⟩⟩⟩) (t_L_law_700 hk18 x1 x2 x3 0 x1 s h)
      · refine r_iconst (pc := 695) dL_law_695 ?_
        refine r_goto (pc := 696) (tgt := 700) dL_law_696 (by decide) ?_
        exact sj_weak (l2 := [some (sj_t 1000), some (sj_r x1), some (sj_r x2), some (sj_i x3)]) (⟨rfl, ⟨rfl, ⟨rfl, ⟨rfl, trivial⟩⟩⟩⟩) (t_L_law_700 hk18 x1 x2 x3 1 x1 s h)
    refine sj_if h (fun c13 h => ?_) (fun c13 h => ?_)
    · refine r_tcase (pc := 33) (tgt := 725) (j := 13) hr c13 dL_law_33 (by decide) (by decide) rfl (by decide) ?_
      refine r_aload_n (pc := 725) dL_law_725 rfl rfl ?_
      refine r_tload_n (pc := 726) dL_law_726 rfl rfl ?_
      refine r_iload_n (pc := 727) dL_law_727 rfl rfl ?_
      refine r_iconst (pc := 728) dL_law_728 ?_
      refine r_iadd (pc := 729) dL_law_729 ?_
      refine r_saload (pc := 730) h dL_law_730 (fun v123 h => ?_)
      refine r_tload_n (pc := 731) dL_law_731 rfl rfl ?_
      refine r_iload_n (pc := 732) dL_law_732 rfl rfl ?_
      refine r_iconst (pc := 733) dL_law_733 ?_
      refine r_iadd (pc := 734) dL_law_734 ?_
      refine r_saload (pc := 735) h dL_law_735 (fun v124 h => ?_)
      refine r_if_eq (pc := 736) (tgt := 743) h dL_law_736 (by decide) (fun h => ?_) (fun h => ?_)
      · refine r_iconst (pc := 743) dL_law_743 ?_
        exact sj_weak (l2 := [some (sj_t 1000), some (sj_r x1), some (sj_r x2), some (sj_i x3)]) (⟨rfl, ⟨rfl, ⟨rfl, ⟨rfl, trivial⟩⟩⟩⟩) (t_L_law_744 hk18 x1 x2 x3 0 v123 x1 s h)
      · refine r_iconst (pc := 739) dL_law_739 ?_
        refine r_goto (pc := 740) (tgt := 744) dL_law_740 (by decide) ?_
        exact sj_weak (l2 := [some (sj_t 1000), some (sj_r x1), some (sj_r x2), some (sj_i x3)]) (⟨rfl, ⟨rfl, ⟨rfl, ⟨rfl, trivial⟩⟩⟩⟩) (t_L_law_744 hk18 x1 x2 x3 1 v123 x1 s h)
    refine sj_if h (fun c14 h => ?_) (fun c14 h => ?_)
    · refine r_tcase (pc := 33) (tgt := 774) (j := 14) hr c14 dL_law_33 (by decide) (by decide) rfl (by decide) ?_
      refine r_aload_n (pc := 774) dL_law_774 rfl rfl ?_
      obtain ⟨a125, ea125, g⟩ := e_nn_some h
      clear h
      subst ea125
      have h := g
      clear g
      refine r_callV (pc := 775) (fun v => some (sj_i v)) (As := []) (rest := []) h dL_law_775 mw_L_80 vw_X8_undo (fun _ _ hc => c_X8_undo hc) rfl ⟨(Nat.le_of_ble_eq_true rfl), (Nat.le_of_ble_eq_true rfl)⟩ (Nat.le_of_ble_eq_true rfl) rfl (fun v127 s126 h => ?_)
      refine r_aload_n (pc := 778) dL_law_778 rfl rfl ?_
      obtain ⟨a128, ea128, g⟩ := e_nn_some h
      clear h
      subst ea128
      have h := g
      clear g
      refine r_callV (pc := 779) (fun v => some (sj_i v)) (As := []) (rest := [(sj_i v127)]) h dL_law_779 mw_L_83 vw_X9_undo (fun _ _ hc => c_X9_undo hc) rfl ⟨(Nat.le_of_ble_eq_true rfl), (Nat.le_of_ble_eq_true rfl)⟩ (Nat.le_of_ble_eq_true rfl) rfl (fun v130 s129 h => ?_)
      refine r_icmp_eq (pc := 782) (tgt := 1900) h dL_law_782 (by decide) (fun h => ?_) (fun h => ?_)
      · exact sj_weak (l2 := [some (sj_t 1000), some (sj_r (some a125)), some (sj_r (some a128)), some (sj_i x3)]) (⟨rfl, ⟨rfl, ⟨rfl, ⟨rfl, trivial⟩⟩⟩⟩) (t_L_law_1900 hk18 (some a125) (some a128) x3 s129 h)
      · refine r_iconst (pc := 785) dL_law_785 ?_
        exact r_zret (pc := 786) h rfl dL_law_786
    refine sj_if h (fun c15 h => ?_) (fun c15 h => ?_)
    · refine r_tcase (pc := 33) (tgt := 787) (j := 15) hr c15 dL_law_33 (by decide) (by decide) rfl (by decide) ?_
      refine r_aload_n (pc := 787) dL_law_787 rfl rfl ?_
      refine r_tload_n (pc := 788) dL_law_788 rfl rfl ?_
      refine r_iload_n (pc := 789) dL_law_789 rfl rfl ?_
      refine r_iconst (pc := 790) dL_law_790 ?_
      refine r_iadd (pc := 791) dL_law_791 ?_
      refine r_saload (pc := 792) h dL_law_792 (fun v131 h => ?_)
      refine r_tload_n (pc := 793) dL_law_793 rfl rfl ?_
      refine r_iload_n (pc := 794) dL_law_794 rfl rfl ?_
      refine r_iconst (pc := 795) dL_law_795 ?_
      refine r_iadd (pc := 796) dL_law_796 ?_
      refine r_saload (pc := 797) h dL_law_797 (fun v132 h => ?_)
      obtain ⟨a133, ea133, g⟩ := e_nn_some h
      clear h
      subst ea133
      have h := g
      clear g
      refine r_callV (pc := 798) (fun v => some (sj_i v)) (As := [sj_i v131, sj_i v132]) (rest := []) h dL_law_798 mw_L_84 vw_X8_column (fun _ _ hc => c_X8_column hc) rfl ⟨(Nat.le_of_ble_eq_true rfl), (Nat.le_of_ble_eq_true rfl)⟩ (Nat.le_of_ble_eq_true rfl) rfl (fun v135 s134 h => ?_)
      refine r_aload_n (pc := 801) dL_law_801 rfl rfl ?_
      refine r_tload_n (pc := 802) dL_law_802 rfl rfl ?_
      refine r_iload_n (pc := 803) dL_law_803 rfl rfl ?_
      refine r_iconst (pc := 804) dL_law_804 ?_
      refine r_iadd (pc := 805) dL_law_805 ?_
      refine r_saload (pc := 806) h dL_law_806 (fun v136 h => ?_)
      refine r_tload_n (pc := 807) dL_law_807 rfl rfl ?_
      refine r_iload_n (pc := 808) dL_law_808 rfl rfl ?_
      refine r_iconst (pc := 809) dL_law_809 ?_
      refine r_iadd (pc := 810) dL_law_810 ?_
      refine r_saload (pc := 811) h dL_law_811 (fun v137 h => ?_)
      obtain ⟨a138, ea138, g⟩ := e_nn_some h
      clear h
      subst ea138
      have h := g
      clear g
      refine r_callV (pc := 812) (fun v => some (sj_i v)) (As := [sj_i v136, sj_i v137]) (rest := [(sj_i v135)]) h dL_law_812 mw_L_87 vw_X9_column (fun _ _ hc => c_X9_column hc) rfl ⟨(Nat.le_of_ble_eq_true rfl), (Nat.le_of_ble_eq_true rfl)⟩ (Nat.le_of_ble_eq_true rfl) rfl (fun v140 s139 h => ?_)
      refine r_icmp_eq (pc := 815) (tgt := 1900) h dL_law_815 (by decide) (fun h => ?_) (fun h => ?_)
      · exact sj_weak (l2 := [some (sj_t 1000), some (sj_r (some a133)), some (sj_r (some a138)), some (sj_i x3)]) (⟨rfl, ⟨rfl, ⟨rfl, ⟨rfl, trivial⟩⟩⟩⟩) (t_L_law_1900 hk18 (some a133) (some a138) x3 s139 h)
      · refine r_iconst (pc := 818) dL_law_818 ?_
        exact r_zret (pc := 819) h rfl dL_law_819
    refine sj_if h (fun c16 h => ?_) (fun c16 h => ?_)
    · refine r_tcase (pc := 33) (tgt := 820) (j := 16) hr c16 dL_law_33 (by decide) (by decide) rfl (by decide) ?_
      refine r_aload_n (pc := 820) dL_law_820 rfl rfl ?_
      refine r_tload_n (pc := 821) dL_law_821 rfl rfl ?_
      refine r_iload_n (pc := 822) dL_law_822 rfl rfl ?_
      refine r_iconst (pc := 823) dL_law_823 ?_
      refine r_iadd (pc := 824) dL_law_824 ?_
      refine r_saload (pc := 825) h dL_law_825 (fun v141 h => ?_)
      refine r_tload_n (pc := 826) dL_law_826 rfl rfl ?_
      refine r_iload_n (pc := 827) dL_law_827 rfl rfl ?_
      refine r_iconst (pc := 828) dL_law_828 ?_
      refine r_iadd (pc := 829) dL_law_829 ?_
      refine r_saload (pc := 830) h dL_law_830 (fun v142 h => ?_)
      obtain ⟨a143, ea143, g⟩ := e_nn_some h
      clear h
      subst ea143
      have h := g
      clear g
      refine r_callV (pc := 831) (fun v => some (sj_i v)) (As := [sj_i v141, sj_i v142]) (rest := []) h dL_law_831 mw_L_88 vw_X8_layer (fun _ _ hc => c_X8_layer hc) rfl ⟨(Nat.le_of_ble_eq_true rfl), (Nat.le_of_ble_eq_true rfl)⟩ (Nat.le_of_ble_eq_true rfl) rfl (fun v145 s144 h => ?_)
      refine r_aload_n (pc := 834) dL_law_834 rfl rfl ?_
      refine r_tload_n (pc := 835) dL_law_835 rfl rfl ?_
      refine r_iload_n (pc := 836) dL_law_836 rfl rfl ?_
      refine r_iconst (pc := 837) dL_law_837 ?_
      refine r_iadd (pc := 838) dL_law_838 ?_
      refine r_saload (pc := 839) h dL_law_839 (fun v146 h => ?_)
      refine r_tload_n (pc := 840) dL_law_840 rfl rfl ?_
      refine r_iload_n (pc := 841) dL_law_841 rfl rfl ?_
      refine r_iconst (pc := 842) dL_law_842 ?_
      refine r_iadd (pc := 843) dL_law_843 ?_
      refine r_saload (pc := 844) h dL_law_844 (fun v147 h => ?_)
      obtain ⟨a148, ea148, g⟩ := e_nn_some h
      clear h
      subst ea148
      have h := g
      clear g
      refine r_callV (pc := 845) (fun v => some (sj_i v)) (As := [sj_i v146, sj_i v147]) (rest := [(sj_i v145)]) h dL_law_845 mw_L_91 vw_X9_layer (fun _ _ hc => c_X9_layer hc) rfl ⟨(Nat.le_of_ble_eq_true rfl), (Nat.le_of_ble_eq_true rfl)⟩ (Nat.le_of_ble_eq_true rfl) rfl (fun v150 s149 h => ?_)
      refine r_icmp_eq (pc := 848) (tgt := 1900) h dL_law_848 (by decide) (fun h => ?_) (fun h => ?_)
      · exact sj_weak (l2 := [some (sj_t 1000), some (sj_r (some a143)), some (sj_r (some a148)), some (sj_i x3)]) (⟨rfl, ⟨rfl, ⟨rfl, ⟨rfl, trivial⟩⟩⟩⟩) (t_L_law_1900 hk18 (some a143) (some a148) x3 s149 h)
      · refine r_iconst (pc := 851) dL_law_851 ?_
        exact r_zret (pc := 852) h rfl dL_law_852
    refine sj_if h (fun c17 h => ?_) (fun c17 h => ?_)
    · refine r_tcase (pc := 33) (tgt := 853) (j := 17) hr c17 dL_law_33 (by decide) (by decide) rfl (by decide) ?_
      refine r_aload_n (pc := 853) dL_law_853 rfl rfl ?_
      refine r_tload_n (pc := 854) dL_law_854 rfl rfl ?_
      refine r_iload_n (pc := 855) dL_law_855 rfl rfl ?_
      refine r_iconst (pc := 856) dL_law_856 ?_
      refine r_iadd (pc := 857) dL_law_857 ?_
      refine r_saload (pc := 858) h dL_law_858 (fun v151 h => ?_)
      refine r_tload_n (pc := 859) dL_law_859 rfl rfl ?_
      refine r_iload_n (pc := 860) dL_law_860 rfl rfl ?_
      refine r_iconst (pc := 861) dL_law_861 ?_
      refine r_iadd (pc := 862) dL_law_862 ?_
      refine r_saload (pc := 863) h dL_law_863 (fun v152 h => ?_)
      obtain ⟨a153, ea153, g⟩ := e_nn_some h
      clear h
      subst ea153
      have h := g
      clear g
      refine r_callV (pc := 864) (fun v => some (sj_i v)) (As := [sj_i v151, sj_i v152]) (rest := []) h dL_law_864 mw_L_92 vw_X8_anchored (fun _ _ hc => c_X8_anchored hc) rfl ⟨(Nat.le_of_ble_eq_true rfl), (Nat.le_of_ble_eq_true rfl)⟩ (Nat.le_of_ble_eq_true rfl) rfl (fun v155 s154 h => ?_)
      refine r_aload_n (pc := 867) dL_law_867 rfl rfl ?_
      refine r_tload_n (pc := 868) dL_law_868 rfl rfl ?_
      refine r_iload_n (pc := 869) dL_law_869 rfl rfl ?_
      refine r_iconst (pc := 870) dL_law_870 ?_
      refine r_iadd (pc := 871) dL_law_871 ?_
      refine r_saload (pc := 872) h dL_law_872 (fun v156 h => ?_)
      refine r_tload_n (pc := 873) dL_law_873 rfl rfl ?_
      refine r_iload_n (pc := 874) dL_law_874 rfl rfl ?_
      refine r_iconst (pc := 875) dL_law_875 ?_
      refine r_iadd (pc := 876) dL_law_876 ?_
      refine r_saload (pc := 877) h dL_law_877 (fun v157 h => ?_)
      obtain ⟨a158, ea158, g⟩ := e_nn_some h
      clear h
      subst ea158
      have h := g
      clear g
      refine r_callV (pc := 878) (fun v => some (sj_i v)) (As := [sj_i v156, sj_i v157]) (rest := [(sj_i v155)]) h dL_law_878 mw_L_95 vw_X9_anchored (fun _ _ hc => c_X9_anchored hc) rfl ⟨(Nat.le_of_ble_eq_true rfl), (Nat.le_of_ble_eq_true rfl)⟩ (Nat.le_of_ble_eq_true rfl) rfl (fun v160 s159 h => ?_)
      refine r_icmp_eq (pc := 881) (tgt := 1900) h dL_law_881 (by decide) (fun h => ?_) (fun h => ?_)
      · exact sj_weak (l2 := [some (sj_t 1000), some (sj_r (some a153)), some (sj_r (some a158)), some (sj_i x3)]) (⟨rfl, ⟨rfl, ⟨rfl, ⟨rfl, trivial⟩⟩⟩⟩) (t_L_law_1900 hk18 (some a153) (some a158) x3 s159 h)
      · refine r_iconst (pc := 884) dL_law_884 ?_
        exact r_zret (pc := 885) h rfl dL_law_885
    refine sj_if h (fun c18 h => ?_) (fun c18 h => ?_)
    · refine r_tcase (pc := 33) (tgt := 886) (j := 18) hr c18 dL_law_33 (by decide) (by decide) rfl (by decide) ?_
      refine r_aload_n (pc := 886) dL_law_886 rfl rfl ?_
      refine r_tload_n (pc := 887) dL_law_887 rfl rfl ?_
      refine r_iload_n (pc := 888) dL_law_888 rfl rfl ?_
      refine r_iconst (pc := 889) dL_law_889 ?_
      refine r_iadd (pc := 890) dL_law_890 ?_
      refine r_saload (pc := 891) h dL_law_891 (fun v161 h => ?_)
      refine r_tload_n (pc := 892) dL_law_892 rfl rfl ?_
      refine r_iload_n (pc := 893) dL_law_893 rfl rfl ?_
      refine r_iconst (pc := 894) dL_law_894 ?_
      refine r_iadd (pc := 895) dL_law_895 ?_
      refine r_saload (pc := 896) h dL_law_896 (fun v162 h => ?_)
      obtain ⟨a163, ea163, g⟩ := e_nn_some h
      clear h
      subst ea163
      have h := g
      clear g
      refine r_callV (pc := 897) (fun v => some (sj_j v)) (As := [sj_i v161, sj_i v162]) (rest := []) h dL_law_897 mw_L_96 vw_X8_slice (fun _ _ hc => c_X8_slice hc) rfl ⟨(Nat.le_of_ble_eq_true rfl), (Nat.le_of_ble_eq_true rfl)⟩ (Nat.le_of_ble_eq_true rfl) rfl (fun v165 s164 h => ?_)
      refine r_aload_n (pc := 900) dL_law_900 rfl rfl ?_
      refine r_tload_n (pc := 901) dL_law_901 rfl rfl ?_
      refine r_iload_n (pc := 902) dL_law_902 rfl rfl ?_
      refine r_iconst (pc := 903) dL_law_903 ?_
      refine r_iadd (pc := 904) dL_law_904 ?_
      refine r_saload (pc := 905) h dL_law_905 (fun v166 h => ?_)
      refine r_tload_n (pc := 906) dL_law_906 rfl rfl ?_
      refine r_iload_n (pc := 907) dL_law_907 rfl rfl ?_
      refine r_iconst (pc := 908) dL_law_908 ?_
      refine r_iadd (pc := 909) dL_law_909 ?_
      refine r_saload (pc := 910) h dL_law_910 (fun v167 h => ?_)
      obtain ⟨a168, ea168, g⟩ := e_nn_some h
      clear h
      subst ea168
      have h := g
      clear g
      refine r_callV (pc := 911) (fun v => some (sj_j v)) (As := [sj_i v166, sj_i v167]) (rest := [(sj_j v165)]) h dL_law_911 mw_L_100 vw_X9_slice (fun _ _ hc => c_X9_slice hc) rfl ⟨(Nat.le_of_ble_eq_true rfl), (Nat.le_of_ble_eq_true rfl)⟩ (Nat.le_of_ble_eq_true rfl) rfl (fun v170 s169 h => ?_)
      refine r_leq (pc := 914) (tgt := 1900) h dL_law_914 rfl dL_law_915 (by decide) (fun h => ?_) (fun h => ?_)
      · exact sj_weak (l2 := [some (sj_t 1000), some (sj_r (some a163)), some (sj_r (some a168)), some (sj_i x3)]) (⟨rfl, ⟨rfl, ⟨rfl, ⟨rfl, trivial⟩⟩⟩⟩) (t_L_law_1900 hk18 (some a163) (some a168) x3 s169 h)
      · refine r_iconst (pc := 918) dL_law_918 ?_
        exact r_zret (pc := 919) h rfl dL_law_919
    refine sj_if h (fun c19 h => ?_) (fun c19 h => ?_)
    · refine r_tcase (pc := 33) (tgt := 920) (j := 19) hr c19 dL_law_33 (by decide) (by decide) rfl (by decide) ?_
      refine r_aload_n (pc := 920) dL_law_920 rfl rfl ?_
      refine r_tload_n (pc := 921) dL_law_921 rfl rfl ?_
      refine r_iload_n (pc := 922) dL_law_922 rfl rfl ?_
      refine r_iconst (pc := 923) dL_law_923 ?_
      refine r_iadd (pc := 924) dL_law_924 ?_
      refine r_saload (pc := 925) h dL_law_925 (fun v171 h => ?_)
      refine r_tload_n (pc := 926) dL_law_926 rfl rfl ?_
      refine r_iload_n (pc := 927) dL_law_927 rfl rfl ?_
      refine r_iconst (pc := 928) dL_law_928 ?_
      refine r_iadd (pc := 929) dL_law_929 ?_
      refine r_saload (pc := 930) h dL_law_930 (fun v172 h => ?_)
      obtain ⟨a173, ea173, g⟩ := e_nn_some h
      clear h
      subst ea173
      have h := g
      clear g
      refine r_callV (pc := 931) (fun v => some (sj_j v)) (As := [sj_i v171, sj_i v172]) (rest := []) h dL_law_931 mw_L_101 vw_X8_rubs (fun _ _ hc => c_X8_rubs hc) rfl ⟨(Nat.le_of_ble_eq_true rfl), (Nat.le_of_ble_eq_true rfl)⟩ (Nat.le_of_ble_eq_true rfl) rfl (fun v175 s174 h => ?_)
      refine r_aload_n (pc := 934) dL_law_934 rfl rfl ?_
      refine r_tload_n (pc := 935) dL_law_935 rfl rfl ?_
      refine r_iload_n (pc := 936) dL_law_936 rfl rfl ?_
      refine r_iconst (pc := 937) dL_law_937 ?_
      refine r_iadd (pc := 938) dL_law_938 ?_
      refine r_saload (pc := 939) h dL_law_939 (fun v176 h => ?_)
      refine r_tload_n (pc := 940) dL_law_940 rfl rfl ?_
      refine r_iload_n (pc := 941) dL_law_941 rfl rfl ?_
      refine r_iconst (pc := 942) dL_law_942 ?_
      refine r_iadd (pc := 943) dL_law_943 ?_
      refine r_saload (pc := 944) h dL_law_944 (fun v177 h => ?_)
      obtain ⟨a178, ea178, g⟩ := e_nn_some h
      clear h
      subst ea178
      have h := g
      clear g
      refine r_callV (pc := 945) (fun v => some (sj_j v)) (As := [sj_i v176, sj_i v177]) (rest := [(sj_j v175)]) h dL_law_945 mw_L_104 vw_X9_rubs (fun _ _ hc => c_X9_rubs hc) rfl ⟨(Nat.le_of_ble_eq_true rfl), (Nat.le_of_ble_eq_true rfl)⟩ (Nat.le_of_ble_eq_true rfl) rfl (fun v180 s179 h => ?_)
      refine r_leq (pc := 948) (tgt := 1900) h dL_law_948 rfl dL_law_949 (by decide) (fun h => ?_) (fun h => ?_)
      · exact sj_weak (l2 := [some (sj_t 1000), some (sj_r (some a173)), some (sj_r (some a178)), some (sj_i x3)]) (⟨rfl, ⟨rfl, ⟨rfl, ⟨rfl, trivial⟩⟩⟩⟩) (t_L_law_1900 hk18 (some a173) (some a178) x3 s179 h)
      · refine r_iconst (pc := 952) dL_law_952 ?_
        exact r_zret (pc := 953) h rfl dL_law_953
    refine sj_if h (fun c20 h => ?_) (fun c20 h => ?_)
    · refine r_tcase (pc := 33) (tgt := 954) (j := 20) hr c20 dL_law_33 (by decide) (by decide) rfl (by decide) ?_
      refine r_aload_n (pc := 954) dL_law_954 rfl rfl ?_
      refine r_tload_n (pc := 955) dL_law_955 rfl rfl ?_
      refine r_iload_n (pc := 956) dL_law_956 rfl rfl ?_
      refine r_iconst (pc := 957) dL_law_957 ?_
      refine r_iadd (pc := 958) dL_law_958 ?_
      refine r_saload (pc := 959) h dL_law_959 (fun v181 h => ?_)
      obtain ⟨a182, ea182, g⟩ := e_nn_some h
      clear h
      subst ea182
      have h := g
      clear g
      refine r_callV (pc := 960) (fun v => some (sj_i v)) (As := [sj_i v181]) (rest := []) h dL_law_960 mw_L_105 vw_X8_stands (fun _ _ hc => c_X8_stands hc) rfl ⟨(Nat.le_of_ble_eq_true rfl), (Nat.le_of_ble_eq_true rfl)⟩ (Nat.le_of_ble_eq_true rfl) rfl (fun v184 s183 h => ?_)
      refine r_aload_n (pc := 963) dL_law_963 rfl rfl ?_
      refine r_tload_n (pc := 964) dL_law_964 rfl rfl ?_
      refine r_iload_n (pc := 965) dL_law_965 rfl rfl ?_
      refine r_iconst (pc := 966) dL_law_966 ?_
      refine r_iadd (pc := 967) dL_law_967 ?_
      refine r_saload (pc := 968) h dL_law_968 (fun v185 h => ?_)
      obtain ⟨a186, ea186, g⟩ := e_nn_some h
      clear h
      subst ea186
      have h := g
      clear g
      refine r_callV (pc := 969) (fun v => some (sj_i v)) (As := [sj_i v185]) (rest := [(sj_i v184)]) h dL_law_969 mw_L_108 vw_X9_stands (fun _ _ hc => c_X9_stands hc) rfl ⟨(Nat.le_of_ble_eq_true rfl), (Nat.le_of_ble_eq_true rfl)⟩ (Nat.le_of_ble_eq_true rfl) rfl (fun v188 s187 h => ?_)
      refine r_icmp_eq (pc := 972) (tgt := 1900) h dL_law_972 (by decide) (fun h => ?_) (fun h => ?_)
      · exact sj_weak (l2 := [some (sj_t 1000), some (sj_r (some a182)), some (sj_r (some a186)), some (sj_i x3)]) (⟨rfl, ⟨rfl, ⟨rfl, ⟨rfl, trivial⟩⟩⟩⟩) (t_L_law_1900 hk18 (some a182) (some a186) x3 s187 h)
      · refine r_iconst (pc := 975) dL_law_975 ?_
        exact r_zret (pc := 976) h rfl dL_law_976
    refine sj_if h (fun c21 h => ?_) (fun c21 h => ?_)
    · refine r_tcase (pc := 33) (tgt := 977) (j := 21) hr c21 dL_law_33 (by decide) (by decide) rfl (by decide) ?_
      refine r_aload_n (pc := 977) dL_law_977 rfl rfl ?_
      obtain ⟨a189, ea189, g⟩ := e_nn_some h
      clear h
      subst ea189
      have h := g
      clear g
      refine r_callV (pc := 978) (fun v => some (sj_i v)) (As := []) (rest := []) h dL_law_978 mw_L_109 vw_X8_factor (fun _ _ hc => c_X8_factor hc) rfl ⟨(Nat.le_of_ble_eq_true rfl), (Nat.le_of_ble_eq_true rfl)⟩ (Nat.le_of_ble_eq_true rfl) rfl (fun v191 s190 h => ?_)
      refine r_aload_n (pc := 981) dL_law_981 rfl rfl ?_
      obtain ⟨a192, ea192, g⟩ := e_nn_some h
      clear h
      subst ea192
      have h := g
      clear g
      refine r_callV (pc := 982) (fun v => some (sj_i v)) (As := []) (rest := [(sj_i v191)]) h dL_law_982 mw_L_112 vw_X9_factor (fun _ _ hc => c_X9_factor hc) rfl ⟨(Nat.le_of_ble_eq_true rfl), (Nat.le_of_ble_eq_true rfl)⟩ (Nat.le_of_ble_eq_true rfl) rfl (fun v194 s193 h => ?_)
      refine r_icmp_eq (pc := 985) (tgt := 1900) h dL_law_985 (by decide) (fun h => ?_) (fun h => ?_)
      · exact sj_weak (l2 := [some (sj_t 1000), some (sj_r (some a189)), some (sj_r (some a192)), some (sj_i x3)]) (⟨rfl, ⟨rfl, ⟨rfl, ⟨rfl, trivial⟩⟩⟩⟩) (t_L_law_1900 hk18 (some a189) (some a192) x3 s193 h)
      · refine r_iconst (pc := 988) dL_law_988 ?_
        exact r_zret (pc := 989) h rfl dL_law_989
    refine sj_if h (fun c22 h => ?_) (fun c22 h => ?_)
    · refine r_tcase (pc := 33) (tgt := 990) (j := 22) hr c22 dL_law_33 (by decide) (by decide) rfl (by decide) ?_
      refine r_aload_n (pc := 990) dL_law_990 rfl rfl ?_
      refine r_tload_n (pc := 991) dL_law_991 rfl rfl ?_
      refine r_iload_n (pc := 992) dL_law_992 rfl rfl ?_
      refine r_iconst (pc := 993) dL_law_993 ?_
      refine r_iadd (pc := 994) dL_law_994 ?_
      refine r_saload (pc := 995) h dL_law_995 (fun v195 h => ?_)
      obtain ⟨a196, ea196, g⟩ := e_nn_some h
      clear h
      subst ea196
      have h := g
      clear g
      refine r_callV (pc := 996) (fun v => some (sj_j v)) (As := [sj_i v195]) (rest := []) h dL_law_996 mw_L_113 vw_X8_sum (fun _ _ hc => c_X8_sum hc) rfl ⟨(Nat.le_of_ble_eq_true rfl), (Nat.le_of_ble_eq_true rfl)⟩ (Nat.le_of_ble_eq_true rfl) rfl (fun v198 s197 h => ?_)
      refine r_aload_n (pc := 999) dL_law_999 rfl rfl ?_
      refine r_tload_n (pc := 1000) dL_law_1000 rfl rfl ?_
      refine r_iload_n (pc := 1001) dL_law_1001 rfl rfl ?_
      refine r_iconst (pc := 1002) dL_law_1002 ?_
      refine r_iadd (pc := 1003) dL_law_1003 ?_
      refine r_saload (pc := 1004) h dL_law_1004 (fun v199 h => ?_)
      obtain ⟨a200, ea200, g⟩ := e_nn_some h
      clear h
      subst ea200
      have h := g
      clear g
      refine r_callV (pc := 1005) (fun v => some (sj_j v)) (As := [sj_i v199]) (rest := [(sj_j v198)]) h dL_law_1005 mw_L_117 vw_X9_sum (fun _ _ hc => c_X9_sum hc) rfl ⟨(Nat.le_of_ble_eq_true rfl), (Nat.le_of_ble_eq_true rfl)⟩ (Nat.le_of_ble_eq_true rfl) rfl (fun v202 s201 h => ?_)
      refine r_leq (pc := 1008) (tgt := 1900) h dL_law_1008 rfl dL_law_1009 (by decide) (fun h => ?_) (fun h => ?_)
      · exact sj_weak (l2 := [some (sj_t 1000), some (sj_r (some a196)), some (sj_r (some a200)), some (sj_i x3)]) (⟨rfl, ⟨rfl, ⟨rfl, ⟨rfl, trivial⟩⟩⟩⟩) (t_L_law_1900 hk18 (some a196) (some a200) x3 s201 h)
      · refine r_iconst (pc := 1012) dL_law_1012 ?_
        exact r_zret (pc := 1013) h rfl dL_law_1013
    refine sj_if h (fun c23 h => ?_) (fun c23 h => ?_)
    · refine r_tcase (pc := 33) (tgt := 1014) (j := 23) hr c23 dL_law_33 (by decide) (by decide) rfl (by decide) ?_
      refine r_aload_n (pc := 1014) dL_law_1014 rfl rfl ?_
      obtain ⟨a203, ea203, g⟩ := e_nn_some h
      clear h
      subst ea203
      have h := g
      clear g
      refine r_callV (pc := 1015) (fun v => some (sj_i v)) (As := []) (rest := []) h dL_law_1015 mw_L_118 vw_X8_dry (fun _ _ hc => c_X8_dry hc) rfl ⟨(Nat.le_of_ble_eq_true rfl), (Nat.le_of_ble_eq_true rfl)⟩ (Nat.le_of_ble_eq_true rfl) rfl (fun v205 s204 h => ?_)
      refine r_aload_n (pc := 1018) dL_law_1018 rfl rfl ?_
      obtain ⟨a206, ea206, g⟩ := e_nn_some h
      clear h
      subst ea206
      have h := g
      clear g
      refine r_callV (pc := 1019) (fun v => some (sj_i v)) (As := []) (rest := [(sj_i v205)]) h dL_law_1019 mw_L_121 vw_X9_dry (fun _ _ hc => c_X9_dry hc) rfl ⟨(Nat.le_of_ble_eq_true rfl), (Nat.le_of_ble_eq_true rfl)⟩ (Nat.le_of_ble_eq_true rfl) rfl (fun v208 s207 h => ?_)
      refine r_icmp_eq (pc := 1022) (tgt := 1900) h dL_law_1022 (by decide) (fun h => ?_) (fun h => ?_)
      · exact sj_weak (l2 := [some (sj_t 1000), some (sj_r (some a203)), some (sj_r (some a206)), some (sj_i x3)]) (⟨rfl, ⟨rfl, ⟨rfl, ⟨rfl, trivial⟩⟩⟩⟩) (t_L_law_1900 hk18 (some a203) (some a206) x3 s207 h)
      · refine r_iconst (pc := 1025) dL_law_1025 ?_
        exact r_zret (pc := 1026) h rfl dL_law_1026
    refine sj_if h (fun c24 h => ?_) (fun c24 h => ?_)
    · refine r_tcase (pc := 33) (tgt := 1027) (j := 24) hr c24 dL_law_33 (by decide) (by decide) rfl (by decide) ?_
      refine r_aload_n (pc := 1027) dL_law_1027 rfl rfl ?_
      refine r_tload_n (pc := 1028) dL_law_1028 rfl rfl ?_
      refine r_iload_n (pc := 1029) dL_law_1029 rfl rfl ?_
      refine r_iconst (pc := 1030) dL_law_1030 ?_
      refine r_iadd (pc := 1031) dL_law_1031 ?_
      refine r_saload (pc := 1032) h dL_law_1032 (fun v209 h => ?_)
      obtain ⟨a210, ea210, g⟩ := e_nn_some h
      clear h
      subst ea210
      have h := g
      clear g
      refine r_callV (pc := 1033) (fun v => some (sj_i v)) (As := [sj_i v209]) (rest := []) h dL_law_1033 mw_L_122 vw_X8_bears (fun _ _ hc => c_X8_bears hc) rfl ⟨(Nat.le_of_ble_eq_true rfl), (Nat.le_of_ble_eq_true rfl)⟩ (Nat.le_of_ble_eq_true rfl) rfl (fun v212 s211 h => ?_)
      refine r_aload_n (pc := 1036) dL_law_1036 rfl rfl ?_
      refine r_tload_n (pc := 1037) dL_law_1037 rfl rfl ?_
      refine r_iload_n (pc := 1038) dL_law_1038 rfl rfl ?_
      refine r_iconst (pc := 1039) dL_law_1039 ?_
      refine r_iadd (pc := 1040) dL_law_1040 ?_
      refine r_saload (pc := 1041) h dL_law_1041 (fun v213 h => ?_)
      obtain ⟨a214, ea214, g⟩ := e_nn_some h
      clear h
      subst ea214
      have h := g
      clear g
      refine r_callV (pc := 1042) (fun v => some (sj_i v)) (As := [sj_i v213]) (rest := [(sj_i v212)]) h dL_law_1042 mw_L_125 vw_X9_bears (fun _ _ hc => c_X9_bears hc) rfl ⟨(Nat.le_of_ble_eq_true rfl), (Nat.le_of_ble_eq_true rfl)⟩ (Nat.le_of_ble_eq_true rfl) rfl (fun v216 s215 h => ?_)
      refine r_icmp_eq (pc := 1045) (tgt := 1900) h dL_law_1045 (by decide) (fun h => ?_) (fun h => ?_)
      · exact sj_weak (l2 := [some (sj_t 1000), some (sj_r (some a210)), some (sj_r (some a214)), some (sj_i x3)]) (⟨rfl, ⟨rfl, ⟨rfl, ⟨rfl, trivial⟩⟩⟩⟩) (t_L_law_1900 hk18 (some a210) (some a214) x3 s215 h)
      · refine r_iconst (pc := 1048) dL_law_1048 ?_
        exact r_zret (pc := 1049) h rfl dL_law_1049
    refine sj_if h (fun c25 h => ?_) (fun c25 h => ?_)
    · refine r_tcase (pc := 33) (tgt := 1050) (j := 25) hr c25 dL_law_33 (by decide) (by decide) rfl (by decide) ?_
      refine r_aload_n (pc := 1050) dL_law_1050 rfl rfl ?_
      refine r_tload_n (pc := 1051) dL_law_1051 rfl rfl ?_
      refine r_iload_n (pc := 1052) dL_law_1052 rfl rfl ?_
      refine r_iconst (pc := 1053) dL_law_1053 ?_
      refine r_iadd (pc := 1054) dL_law_1054 ?_
      refine r_saload (pc := 1055) h dL_law_1055 (fun v217 h => ?_)
      obtain ⟨a218, ea218, g⟩ := e_nn_some h
      clear h
      subst ea218
      have h := g
      clear g
      refine r_callV (pc := 1056) (fun v => some (sj_i v)) (As := [sj_i v217]) (rest := []) h dL_law_1056 mw_L_126 vw_X8_needs (fun _ _ hc => c_X8_needs hc) rfl ⟨(Nat.le_of_ble_eq_true rfl), (Nat.le_of_ble_eq_true rfl)⟩ (Nat.le_of_ble_eq_true rfl) rfl (fun v220 s219 h => ?_)
      refine r_aload_n (pc := 1059) dL_law_1059 rfl rfl ?_
      refine r_tload_n (pc := 1060) dL_law_1060 rfl rfl ?_
      refine r_iload_n (pc := 1061) dL_law_1061 rfl rfl ?_
      refine r_iconst (pc := 1062) dL_law_1062 ?_
      refine r_iadd (pc := 1063) dL_law_1063 ?_
      refine r_saload (pc := 1064) h dL_law_1064 (fun v221 h => ?_)
      obtain ⟨a222, ea222, g⟩ := e_nn_some h
      clear h
      subst ea222
      have h := g
      clear g
      refine r_callV (pc := 1065) (fun v => some (sj_i v)) (As := [sj_i v221]) (rest := [(sj_i v220)]) h dL_law_1065 mw_L_129 vw_X9_needs (fun _ _ hc => c_X9_needs hc) rfl ⟨(Nat.le_of_ble_eq_true rfl), (Nat.le_of_ble_eq_true rfl)⟩ (Nat.le_of_ble_eq_true rfl) rfl (fun v224 s223 h => ?_)
      refine r_icmp_eq (pc := 1068) (tgt := 1900) h dL_law_1068 (by decide) (fun h => ?_) (fun h => ?_)
      · exact sj_weak (l2 := [some (sj_t 1000), some (sj_r (some a218)), some (sj_r (some a222)), some (sj_i x3)]) (⟨rfl, ⟨rfl, ⟨rfl, ⟨rfl, trivial⟩⟩⟩⟩) (t_L_law_1900 hk18 (some a218) (some a222) x3 s223 h)
      · refine r_iconst (pc := 1071) dL_law_1071 ?_
        exact r_zret (pc := 1072) h rfl dL_law_1072
    refine sj_if h (fun c26 h => ?_) (fun c26 h => ?_)
    · refine r_tcase (pc := 33) (tgt := 1073) (j := 26) hr c26 dL_law_33 (by decide) (by decide) rfl (by decide) ?_
      refine r_aload_n (pc := 1073) dL_law_1073 rfl rfl ?_
      refine r_tload_n (pc := 1074) dL_law_1074 rfl rfl ?_
      refine r_iload_n (pc := 1075) dL_law_1075 rfl rfl ?_
      refine r_iconst (pc := 1076) dL_law_1076 ?_
      refine r_iadd (pc := 1077) dL_law_1077 ?_
      refine r_saload (pc := 1078) h dL_law_1078 (fun v225 h => ?_)
      obtain ⟨a226, ea226, g⟩ := e_nn_some h
      clear h
      subst ea226
      have h := g
      clear g
      refine r_callV (pc := 1079) (fun v => some (sj_i v)) (As := [sj_i v225]) (rest := []) h dL_law_1079 mw_L_130 vw_X8_pull (fun _ _ hc => c_X8_pull hc) rfl ⟨(Nat.le_of_ble_eq_true rfl), (Nat.le_of_ble_eq_true rfl)⟩ (Nat.le_of_ble_eq_true rfl) rfl (fun v228 s227 h => ?_)
      refine r_aload_n (pc := 1082) dL_law_1082 rfl rfl ?_
      refine r_tload_n (pc := 1083) dL_law_1083 rfl rfl ?_
      refine r_iload_n (pc := 1084) dL_law_1084 rfl rfl ?_
      refine r_iconst (pc := 1085) dL_law_1085 ?_
      refine r_iadd (pc := 1086) dL_law_1086 ?_
      refine r_saload (pc := 1087) h dL_law_1087 (fun v229 h => ?_)
      obtain ⟨a230, ea230, g⟩ := e_nn_some h
      clear h
      subst ea230
      have h := g
      clear g
      refine r_callV (pc := 1088) (fun v => some (sj_i v)) (As := [sj_i v229]) (rest := [(sj_i v228)]) h dL_law_1088 mw_L_133 vw_X9_pull (fun _ _ hc => c_X9_pull hc) rfl ⟨(Nat.le_of_ble_eq_true rfl), (Nat.le_of_ble_eq_true rfl)⟩ (Nat.le_of_ble_eq_true rfl) rfl (fun v232 s231 h => ?_)
      refine r_icmp_eq (pc := 1091) (tgt := 1900) h dL_law_1091 (by decide) (fun h => ?_) (fun h => ?_)
      · exact sj_weak (l2 := [some (sj_t 1000), some (sj_r (some a226)), some (sj_r (some a230)), some (sj_i x3)]) (⟨rfl, ⟨rfl, ⟨rfl, ⟨rfl, trivial⟩⟩⟩⟩) (t_L_law_1900 hk18 (some a226) (some a230) x3 s231 h)
      · refine r_iconst (pc := 1094) dL_law_1094 ?_
        exact r_zret (pc := 1095) h rfl dL_law_1095
    refine sj_if h (fun c27 h => ?_) (fun c27 h => ?_)
    · refine r_tcase (pc := 33) (tgt := 1096) (j := 27) hr c27 dL_law_33 (by decide) (by decide) rfl (by decide) ?_
      refine r_aload_n (pc := 1096) dL_law_1096 rfl rfl ?_
      refine r_tload_n (pc := 1097) dL_law_1097 rfl rfl ?_
      refine r_iload_n (pc := 1098) dL_law_1098 rfl rfl ?_
      refine r_iconst (pc := 1099) dL_law_1099 ?_
      refine r_iadd (pc := 1100) dL_law_1100 ?_
      refine r_saload (pc := 1101) h dL_law_1101 (fun v233 h => ?_)
      refine r_tload_n (pc := 1102) dL_law_1102 rfl rfl ?_
      refine r_iload_n (pc := 1103) dL_law_1103 rfl rfl ?_
      refine r_iconst (pc := 1104) dL_law_1104 ?_
      refine r_iadd (pc := 1105) dL_law_1105 ?_
      refine r_saload (pc := 1106) h dL_law_1106 (fun v234 h => ?_)
      refine r_tload_n (pc := 1107) dL_law_1107 rfl rfl ?_
      refine r_iload_n (pc := 1108) dL_law_1108 rfl rfl ?_
      refine r_iconst (pc := 1109) dL_law_1109 ?_
      refine r_iadd (pc := 1110) dL_law_1110 ?_
      refine r_saload (pc := 1111) h dL_law_1111 (fun v235 h => ?_)
      refine r_tload_n (pc := 1112) dL_law_1112 rfl rfl ?_
      refine r_iload_n (pc := 1113) dL_law_1113 rfl rfl ?_
      refine r_iconst (pc := 1114) dL_law_1114 ?_
      refine r_iadd (pc := 1115) dL_law_1115 ?_
      refine r_saload (pc := 1116) h dL_law_1116 (fun v236 h => ?_)
      refine r_if_eq (pc := 1117) (tgt := 1124) h dL_law_1117 (by decide) (fun h => ?_) (fun h => ?_)
      · refine r_iconst (pc := 1124) dL_law_1124 ?_
        exact sj_weak (l2 := [some (sj_t 1000), some (sj_r x1), some (sj_r x2), some (sj_i x3)]) (⟨rfl, ⟨rfl, ⟨rfl, ⟨rfl, trivial⟩⟩⟩⟩) (t_L_law_1125 hk18 x1 x2 x3 0 v235 v234 v233 x1 s h)
      · refine r_iconst (pc := 1120) dL_law_1120 ?_
        refine r_goto (pc := 1121) (tgt := 1125) dL_law_1121 (by decide) ?_
        exact sj_weak (l2 := [some (sj_t 1000), some (sj_r x1), some (sj_r x2), some (sj_i x3)]) (⟨rfl, ⟨rfl, ⟨rfl, ⟨rfl, trivial⟩⟩⟩⟩) (t_L_law_1125 hk18 x1 x2 x3 1 v235 v234 v233 x1 s h)
    refine sj_if h (fun c28 h => ?_) (fun c28 h => ?_)
    · refine r_tcase (pc := 33) (tgt := 1165) (j := 28) hr c28 dL_law_33 (by decide) (by decide) rfl (by decide) ?_
      refine r_aload_n (pc := 1165) dL_law_1165 rfl rfl ?_
      refine r_tload_n (pc := 1166) dL_law_1166 rfl rfl ?_
      refine r_iload_n (pc := 1167) dL_law_1167 rfl rfl ?_
      refine r_iconst (pc := 1168) dL_law_1168 ?_
      refine r_iadd (pc := 1169) dL_law_1169 ?_
      refine r_saload (pc := 1170) h dL_law_1170 (fun v237 h => ?_)
      refine r_tload_n (pc := 1171) dL_law_1171 rfl rfl ?_
      refine r_iload_n (pc := 1172) dL_law_1172 rfl rfl ?_
      refine r_iconst (pc := 1173) dL_law_1173 ?_
      refine r_iadd (pc := 1174) dL_law_1174 ?_
      refine r_saload (pc := 1175) h dL_law_1175 (fun v238 h => ?_)
      refine r_tload_n (pc := 1176) dL_law_1176 rfl rfl ?_
      refine r_iload_n (pc := 1177) dL_law_1177 rfl rfl ?_
      refine r_iconst (pc := 1178) dL_law_1178 ?_
      refine r_iadd (pc := 1179) dL_law_1179 ?_
      refine r_saload (pc := 1180) h dL_law_1180 (fun v239 h => ?_)
      refine r_tload_n (pc := 1181) dL_law_1181 rfl rfl ?_
      refine r_iload_n (pc := 1182) dL_law_1182 rfl rfl ?_
      refine r_iconst (pc := 1183) dL_law_1183 ?_
      refine r_iadd (pc := 1184) dL_law_1184 ?_
      refine r_saload (pc := 1185) h dL_law_1185 (fun v240 h => ?_)
      refine r_tload_n (pc := 1186) dL_law_1186 rfl rfl ?_
      refine r_iload_n (pc := 1187) dL_law_1187 rfl rfl ?_
      refine r_iconst (pc := 1188) dL_law_1188 ?_
      refine r_iadd (pc := 1189) dL_law_1189 ?_
      refine r_saload (pc := 1190) h dL_law_1190 (fun v241 h => ?_)
      refine r_if_eq (pc := 1191) (tgt := 1198) h dL_law_1191 (by decide) (fun h => ?_) (fun h => ?_)
      · refine r_iconst (pc := 1198) dL_law_1198 ?_
        exact sj_weak (l2 := [some (sj_t 1000), some (sj_r x1), some (sj_r x2), some (sj_i x3)]) (⟨rfl, ⟨rfl, ⟨rfl, ⟨rfl, trivial⟩⟩⟩⟩) (t_L_law_1199 hk18 x1 x2 x3 0 v240 v239 v238 v237 x1 s h)
      · refine r_iconst (pc := 1194) dL_law_1194 ?_
        refine r_goto (pc := 1195) (tgt := 1199) dL_law_1195 (by decide) ?_
        exact sj_weak (l2 := [some (sj_t 1000), some (sj_r x1), some (sj_r x2), some (sj_i x3)]) (⟨rfl, ⟨rfl, ⟨rfl, ⟨rfl, trivial⟩⟩⟩⟩) (t_L_law_1199 hk18 x1 x2 x3 1 v240 v239 v238 v237 x1 s h)
    refine sj_if h (fun c29 h => ?_) (fun c29 h => ?_)
    · refine r_tcase (pc := 33) (tgt := 1256) (j := 29) hr c29 dL_law_33 (by decide) (by decide) rfl (by decide) ?_
      refine r_aload_n (pc := 1256) dL_law_1256 rfl rfl ?_
      refine r_tload_n (pc := 1257) dL_law_1257 rfl rfl ?_
      refine r_iload_n (pc := 1258) dL_law_1258 rfl rfl ?_
      refine r_iconst (pc := 1259) dL_law_1259 ?_
      refine r_iadd (pc := 1260) dL_law_1260 ?_
      refine r_saload (pc := 1261) h dL_law_1261 (fun v242 h => ?_)
      refine r_tload_n (pc := 1262) dL_law_1262 rfl rfl ?_
      refine r_iload_n (pc := 1263) dL_law_1263 rfl rfl ?_
      refine r_iconst (pc := 1264) dL_law_1264 ?_
      refine r_iadd (pc := 1265) dL_law_1265 ?_
      refine r_saload (pc := 1266) h dL_law_1266 (fun v243 h => ?_)
      refine r_if_eq (pc := 1267) (tgt := 1274) h dL_law_1267 (by decide) (fun h => ?_) (fun h => ?_)
      · refine r_iconst (pc := 1274) dL_law_1274 ?_
        exact sj_weak (l2 := [some (sj_t 1000), some (sj_r x1), some (sj_r x2), some (sj_i x3)]) (⟨rfl, ⟨rfl, ⟨rfl, ⟨rfl, trivial⟩⟩⟩⟩) (t_L_law_1275 hk18 x1 x2 x3 0 v242 x1 s h)
      · refine r_iconst (pc := 1270) dL_law_1270 ?_
        refine r_goto (pc := 1271) (tgt := 1275) dL_law_1271 (by decide) ?_
        exact sj_weak (l2 := [some (sj_t 1000), some (sj_r x1), some (sj_r x2), some (sj_i x3)]) (⟨rfl, ⟨rfl, ⟨rfl, ⟨rfl, trivial⟩⟩⟩⟩) (t_L_law_1275 hk18 x1 x2 x3 1 v242 x1 s h)
    refine sj_if h (fun c30 h => ?_) (fun c30 h => ?_)
    · refine r_tcase (pc := 33) (tgt := 1315) (j := 30) hr c30 dL_law_33 (by decide) (by decide) rfl (by decide) ?_
      refine r_aload_n (pc := 1315) dL_law_1315 rfl rfl ?_
      refine r_tload_n (pc := 1316) dL_law_1316 rfl rfl ?_
      refine r_iload_n (pc := 1317) dL_law_1317 rfl rfl ?_
      refine r_iconst (pc := 1318) dL_law_1318 ?_
      refine r_iadd (pc := 1319) dL_law_1319 ?_
      refine r_saload (pc := 1320) h dL_law_1320 (fun v244 h => ?_)
      refine r_tload_n (pc := 1321) dL_law_1321 rfl rfl ?_
      refine r_iload_n (pc := 1322) dL_law_1322 rfl rfl ?_
      refine r_iconst (pc := 1323) dL_law_1323 ?_
      refine r_iadd (pc := 1324) dL_law_1324 ?_
      refine r_saload (pc := 1325) h dL_law_1325 (fun v245 h => ?_)
      refine r_tload_n (pc := 1326) dL_law_1326 rfl rfl ?_
      refine r_iload_n (pc := 1327) dL_law_1327 rfl rfl ?_
      refine r_iconst (pc := 1328) dL_law_1328 ?_
      refine r_iadd (pc := 1329) dL_law_1329 ?_
      refine r_saload (pc := 1330) h dL_law_1330 (fun v246 h => ?_)
      refine r_tload_n (pc := 1331) dL_law_1331 rfl rfl ?_
      refine r_iload_n (pc := 1332) dL_law_1332 rfl rfl ?_
      refine r_iconst (pc := 1333) dL_law_1333 ?_
      refine r_iadd (pc := 1334) dL_law_1334 ?_
      refine r_saload (pc := 1335) h dL_law_1335 (fun v247 h => ?_)
      refine r_tload_n (pc := 1336) dL_law_1336 rfl rfl ?_
      refine r_iload_n (pc := 1337) dL_law_1337 rfl rfl ?_
      refine r_iconst (pc := 1338) dL_law_1338 ?_
      refine r_iadd (pc := 1339) dL_law_1339 ?_
      refine r_saload (pc := 1340) h dL_law_1340 (fun v248 h => ?_)
      refine r_tload_n (pc := 1341) dL_law_1341 rfl rfl ?_
      refine r_iload_n (pc := 1342) dL_law_1342 rfl rfl ?_
      refine r_bipush (pc := 1343) dL_law_1343 ⟨by decide, by decide⟩ ?_
      refine r_iadd (pc := 1345) dL_law_1345 ?_
      refine r_saload (pc := 1346) h dL_law_1346 (fun v249 h => ?_)
      refine r_if_eq (pc := 1347) (tgt := 1354) h dL_law_1347 (by decide) (fun h => ?_) (fun h => ?_)
      · refine r_iconst (pc := 1354) dL_law_1354 ?_
        exact sj_weak (l2 := [some (sj_t 1000), some (sj_r x1), some (sj_r x2), some (sj_i x3)]) (⟨rfl, ⟨rfl, ⟨rfl, ⟨rfl, trivial⟩⟩⟩⟩) (t_L_law_1355 hk18 x1 x2 x3 0 v248 v247 v246 v245 v244 x1 s h)
      · refine r_iconst (pc := 1350) dL_law_1350 ?_
        refine r_goto (pc := 1351) (tgt := 1355) dL_law_1351 (by decide) ?_
        exact sj_weak (l2 := [some (sj_t 1000), some (sj_r x1), some (sj_r x2), some (sj_i x3)]) (⟨rfl, ⟨rfl, ⟨rfl, ⟨rfl, trivial⟩⟩⟩⟩) (t_L_law_1355 hk18 x1 x2 x3 1 v248 v247 v246 v245 v244 x1 s h)
    refine sj_if h (fun c31 h => ?_) (fun c31 h => ?_)
    · refine r_tcase (pc := 33) (tgt := 1406) (j := 31) hr c31 dL_law_33 (by decide) (by decide) rfl (by decide) ?_
      refine r_aload_n (pc := 1406) dL_law_1406 rfl rfl ?_
      obtain ⟨a250, ea250, g⟩ := e_nn_some h
      clear h
      subst ea250
      have h := g
      clear g
      refine r_callV (pc := 1407) (fun v => some (sj_i v)) (As := []) (rest := []) h dL_law_1407 mw_L_153 vw_X8_mirror (fun _ _ hc => c_X8_mirror hc) rfl ⟨(Nat.le_of_ble_eq_true rfl), (Nat.le_of_ble_eq_true rfl)⟩ (Nat.le_of_ble_eq_true rfl) rfl (fun v252 s251 h => ?_)
      refine r_aload_n (pc := 1410) dL_law_1410 rfl rfl ?_
      obtain ⟨a253, ea253, g⟩ := e_nn_some h
      clear h
      subst ea253
      have h := g
      clear g
      refine r_callV (pc := 1411) (fun v => some (sj_i v)) (As := []) (rest := [(sj_i v252)]) h dL_law_1411 mw_L_157 vw_X9_mirror (fun _ _ hc => c_X9_mirror hc) rfl ⟨(Nat.le_of_ble_eq_true rfl), (Nat.le_of_ble_eq_true rfl)⟩ (Nat.le_of_ble_eq_true rfl) rfl (fun v255 s254 h => ?_)
      refine r_icmp_eq (pc := 1414) (tgt := 1900) h dL_law_1414 (by decide) (fun h => ?_) (fun h => ?_)
      · exact sj_weak (l2 := [some (sj_t 1000), some (sj_r (some a250)), some (sj_r (some a253)), some (sj_i x3)]) (⟨rfl, ⟨rfl, ⟨rfl, ⟨rfl, trivial⟩⟩⟩⟩) (t_L_law_1900 hk18 (some a250) (some a253) x3 s254 h)
      · refine r_iconst (pc := 1417) dL_law_1417 ?_
        exact r_zret (pc := 1418) h rfl dL_law_1418
    refine sj_if h (fun c32 h => ?_) (fun c32 h => ?_)
    · refine r_tcase (pc := 33) (tgt := 1419) (j := 32) hr c32 dL_law_33 (by decide) (by decide) rfl (by decide) ?_
      refine r_aload_n (pc := 1419) dL_law_1419 rfl rfl ?_
      refine r_tload_n (pc := 1420) dL_law_1420 rfl rfl ?_
      refine r_iload_n (pc := 1421) dL_law_1421 rfl rfl ?_
      refine r_iconst (pc := 1422) dL_law_1422 ?_
      refine r_iadd (pc := 1423) dL_law_1423 ?_
      refine r_saload (pc := 1424) h dL_law_1424 (fun v256 h => ?_)
      refine r_tload_n (pc := 1425) dL_law_1425 rfl rfl ?_
      refine r_iload_n (pc := 1426) dL_law_1426 rfl rfl ?_
      refine r_iconst (pc := 1427) dL_law_1427 ?_
      refine r_iadd (pc := 1428) dL_law_1428 ?_
      refine r_saload (pc := 1429) h dL_law_1429 (fun v257 h => ?_)
      refine r_tload_n (pc := 1430) dL_law_1430 rfl rfl ?_
      refine r_iload_n (pc := 1431) dL_law_1431 rfl rfl ?_
      refine r_iconst (pc := 1432) dL_law_1432 ?_
      refine r_iadd (pc := 1433) dL_law_1433 ?_
      refine r_saload (pc := 1434) h dL_law_1434 (fun v258 h => ?_)
      obtain ⟨a259, ea259, g⟩ := e_nn_some h
      clear h
      subst ea259
      have h := g
      clear g
      refine r_callV (pc := 1435) (fun v => some (sj_i v)) (As := [sj_i v256, sj_i v257, sj_i v258]) (rest := []) h dL_law_1435 mw_L_158 vw_X8_berm (fun _ _ hc => c_X8_berm hc) rfl ⟨(Nat.le_of_ble_eq_true rfl), (Nat.le_of_ble_eq_true rfl)⟩ (Nat.le_of_ble_eq_true rfl) rfl (fun v261 s260 h => ?_)
      refine r_aload_n (pc := 1438) dL_law_1438 rfl rfl ?_
      refine r_tload_n (pc := 1439) dL_law_1439 rfl rfl ?_
      refine r_iload_n (pc := 1440) dL_law_1440 rfl rfl ?_
      refine r_iconst (pc := 1441) dL_law_1441 ?_
      refine r_iadd (pc := 1442) dL_law_1442 ?_
      refine r_saload (pc := 1443) h dL_law_1443 (fun v262 h => ?_)
      refine r_tload_n (pc := 1444) dL_law_1444 rfl rfl ?_
      refine r_iload_n (pc := 1445) dL_law_1445 rfl rfl ?_
      refine r_iconst (pc := 1446) dL_law_1446 ?_
      refine r_iadd (pc := 1447) dL_law_1447 ?_
      refine r_saload (pc := 1448) h dL_law_1448 (fun v263 h => ?_)
      refine r_tload_n (pc := 1449) dL_law_1449 rfl rfl ?_
      refine r_iload_n (pc := 1450) dL_law_1450 rfl rfl ?_
      refine r_iconst (pc := 1451) dL_law_1451 ?_
      refine r_iadd (pc := 1452) dL_law_1452 ?_
      refine r_saload (pc := 1453) h dL_law_1453 (fun v264 h => ?_)
      obtain ⟨a265, ea265, g⟩ := e_nn_some h
      clear h
      subst ea265
      have h := g
      clear g
      refine r_callV (pc := 1454) (fun v => some (sj_i v)) (As := [sj_i v262, sj_i v263, sj_i v264]) (rest := [(sj_i v261)]) h dL_law_1454 mw_L_162 vw_X9_berm (fun _ _ hc => c_X9_berm hc) rfl ⟨(Nat.le_of_ble_eq_true rfl), (Nat.le_of_ble_eq_true rfl)⟩ (Nat.le_of_ble_eq_true rfl) rfl (fun v267 s266 h => ?_)
      refine r_icmp_eq (pc := 1457) (tgt := 1900) h dL_law_1457 (by decide) (fun h => ?_) (fun h => ?_)
      · exact sj_weak (l2 := [some (sj_t 1000), some (sj_r (some a259)), some (sj_r (some a265)), some (sj_i x3)]) (⟨rfl, ⟨rfl, ⟨rfl, ⟨rfl, trivial⟩⟩⟩⟩) (t_L_law_1900 hk18 (some a259) (some a265) x3 s266 h)
      · refine r_iconst (pc := 1460) dL_law_1460 ?_
        exact r_zret (pc := 1461) h rfl dL_law_1461
    refine sj_if h (fun c33 h => ?_) (fun c33 h => ?_)
    · refine r_tcase (pc := 33) (tgt := 1462) (j := 33) hr c33 dL_law_33 (by decide) (by decide) rfl (by decide) ?_
      refine r_aload_n (pc := 1462) dL_law_1462 rfl rfl ?_
      refine r_tload_n (pc := 1463) dL_law_1463 rfl rfl ?_
      refine r_iload_n (pc := 1464) dL_law_1464 rfl rfl ?_
      refine r_iconst (pc := 1465) dL_law_1465 ?_
      refine r_iadd (pc := 1466) dL_law_1466 ?_
      refine r_saload (pc := 1467) h dL_law_1467 (fun v268 h => ?_)
      obtain ⟨a269, ea269, g⟩ := e_nn_some h
      clear h
      subst ea269
      have h := g
      clear g
      refine r_callV (pc := 1468) (fun v => some (sj_i v)) (As := [sj_i v268]) (rest := []) h dL_law_1468 mw_L_163 vw_X8_shape (fun _ _ hc => c_X8_shape hc) rfl ⟨(Nat.le_of_ble_eq_true rfl), (Nat.le_of_ble_eq_true rfl)⟩ (Nat.le_of_ble_eq_true rfl) rfl (fun v271 s270 h => ?_)
      refine r_aload_n (pc := 1471) dL_law_1471 rfl rfl ?_
      refine r_tload_n (pc := 1472) dL_law_1472 rfl rfl ?_
      refine r_iload_n (pc := 1473) dL_law_1473 rfl rfl ?_
      refine r_iconst (pc := 1474) dL_law_1474 ?_
      refine r_iadd (pc := 1475) dL_law_1475 ?_
      refine r_saload (pc := 1476) h dL_law_1476 (fun v272 h => ?_)
      obtain ⟨a273, ea273, g⟩ := e_nn_some h
      clear h
      subst ea273
      have h := g
      clear g
      refine r_callV (pc := 1477) (fun v => some (sj_i v)) (As := [sj_i v272]) (rest := [(sj_i v271)]) h dL_law_1477 mw_L_166 vw_X9_shape (fun _ _ hc => c_X9_shape hc) rfl ⟨(Nat.le_of_ble_eq_true rfl), (Nat.le_of_ble_eq_true rfl)⟩ (Nat.le_of_ble_eq_true rfl) rfl (fun v275 s274 h => ?_)
      refine r_icmp_eq (pc := 1480) (tgt := 1900) h dL_law_1480 (by decide) (fun h => ?_) (fun h => ?_)
      · exact sj_weak (l2 := [some (sj_t 1000), some (sj_r (some a269)), some (sj_r (some a273)), some (sj_i x3)]) (⟨rfl, ⟨rfl, ⟨rfl, ⟨rfl, trivial⟩⟩⟩⟩) (t_L_law_1900 hk18 (some a269) (some a273) x3 s274 h)
      · refine r_iconst (pc := 1483) dL_law_1483 ?_
        exact r_zret (pc := 1484) h rfl dL_law_1484
    refine sj_if h (fun c34 h => ?_) (fun c34 h => ?_)
    · refine r_tcase (pc := 33) (tgt := 1485) (j := 34) hr c34 dL_law_33 (by decide) (by decide) rfl (by decide) ?_
      refine r_aload_n (pc := 1485) dL_law_1485 rfl rfl ?_
      refine r_tload_n (pc := 1486) dL_law_1486 rfl rfl ?_
      refine r_iload_n (pc := 1487) dL_law_1487 rfl rfl ?_
      refine r_iconst (pc := 1488) dL_law_1488 ?_
      refine r_iadd (pc := 1489) dL_law_1489 ?_
      refine r_saload (pc := 1490) h dL_law_1490 (fun v276 h => ?_)
      refine r_tload_n (pc := 1491) dL_law_1491 rfl rfl ?_
      refine r_iload_n (pc := 1492) dL_law_1492 rfl rfl ?_
      refine r_iconst (pc := 1493) dL_law_1493 ?_
      refine r_iadd (pc := 1494) dL_law_1494 ?_
      refine r_saload (pc := 1495) h dL_law_1495 (fun v277 h => ?_)
      obtain ⟨a278, ea278, g⟩ := e_nn_some h
      clear h
      subst ea278
      have h := g
      clear g
      refine r_callV (pc := 1496) (fun v => some (sj_j v)) (As := [sj_i v276, sj_i v277]) (rest := []) h dL_law_1496 mw_L_167 vw_X8_thrust (fun _ _ hc => c_X8_thrust hc) rfl ⟨(Nat.le_of_ble_eq_true rfl), (Nat.le_of_ble_eq_true rfl)⟩ (Nat.le_of_ble_eq_true rfl) rfl (fun v280 s279 h => ?_)
      refine r_aload_n (pc := 1499) dL_law_1499 rfl rfl ?_
      refine r_tload_n (pc := 1500) dL_law_1500 rfl rfl ?_
      refine r_iload_n (pc := 1501) dL_law_1501 rfl rfl ?_
      refine r_iconst (pc := 1502) dL_law_1502 ?_
      refine r_iadd (pc := 1503) dL_law_1503 ?_
      refine r_saload (pc := 1504) h dL_law_1504 (fun v281 h => ?_)
      refine r_tload_n (pc := 1505) dL_law_1505 rfl rfl ?_
      refine r_iload_n (pc := 1506) dL_law_1506 rfl rfl ?_
      refine r_iconst (pc := 1507) dL_law_1507 ?_
      refine r_iadd (pc := 1508) dL_law_1508 ?_
      refine r_saload (pc := 1509) h dL_law_1509 (fun v282 h => ?_)
      obtain ⟨a283, ea283, g⟩ := e_nn_some h
      clear h
      subst ea283
      have h := g
      clear g
      refine r_callV (pc := 1510) (fun v => some (sj_j v)) (As := [sj_i v281, sj_i v282]) (rest := [(sj_j v280)]) h dL_law_1510 mw_L_170 vw_X9_thrust (fun _ _ hc => c_X9_thrust hc) rfl ⟨(Nat.le_of_ble_eq_true rfl), (Nat.le_of_ble_eq_true rfl)⟩ (Nat.le_of_ble_eq_true rfl) rfl (fun v285 s284 h => ?_)
      refine r_leq (pc := 1513) (tgt := 1900) h dL_law_1513 rfl dL_law_1514 (by decide) (fun h => ?_) (fun h => ?_)
      · exact sj_weak (l2 := [some (sj_t 1000), some (sj_r (some a278)), some (sj_r (some a283)), some (sj_i x3)]) (⟨rfl, ⟨rfl, ⟨rfl, ⟨rfl, trivial⟩⟩⟩⟩) (t_L_law_1900 hk18 (some a278) (some a283) x3 s284 h)
      · refine r_iconst (pc := 1517) dL_law_1517 ?_
        exact r_zret (pc := 1518) h rfl dL_law_1518
    refine sj_if h (fun c35 h => ?_) (fun c35 h => ?_)
    · refine r_tcase (pc := 33) (tgt := 1519) (j := 35) hr c35 dL_law_33 (by decide) (by decide) rfl (by decide) ?_
      refine r_aload_n (pc := 1519) dL_law_1519 rfl rfl ?_
      refine r_tload_n (pc := 1520) dL_law_1520 rfl rfl ?_
      refine r_iload_n (pc := 1521) dL_law_1521 rfl rfl ?_
      refine r_iconst (pc := 1522) dL_law_1522 ?_
      refine r_iadd (pc := 1523) dL_law_1523 ?_
      refine r_saload (pc := 1524) h dL_law_1524 (fun v286 h => ?_)
      obtain ⟨a287, ea287, g⟩ := e_nn_some h
      clear h
      subst ea287
      have h := g
      clear g
      refine r_callV (pc := 1525) (fun v => some (sj_i v)) (As := [sj_i v286]) (rest := []) h dL_law_1525 mw_L_171 vw_X8_crest (fun _ _ hc => c_X8_crest hc) rfl ⟨(Nat.le_of_ble_eq_true rfl), (Nat.le_of_ble_eq_true rfl)⟩ (Nat.le_of_ble_eq_true rfl) rfl (fun v289 s288 h => ?_)
      refine r_aload_n (pc := 1528) dL_law_1528 rfl rfl ?_
      refine r_tload_n (pc := 1529) dL_law_1529 rfl rfl ?_
      refine r_iload_n (pc := 1530) dL_law_1530 rfl rfl ?_
      refine r_iconst (pc := 1531) dL_law_1531 ?_
      refine r_iadd (pc := 1532) dL_law_1532 ?_
      refine r_saload (pc := 1533) h dL_law_1533 (fun v290 h => ?_)
      obtain ⟨a291, ea291, g⟩ := e_nn_some h
      clear h
      subst ea291
      have h := g
      clear g
      refine r_callV (pc := 1534) (fun v => some (sj_i v)) (As := [sj_i v290]) (rest := [(sj_i v289)]) h dL_law_1534 mw_L_174 vw_X9_crest (fun _ _ hc => c_X9_crest hc) rfl ⟨(Nat.le_of_ble_eq_true rfl), (Nat.le_of_ble_eq_true rfl)⟩ (Nat.le_of_ble_eq_true rfl) rfl (fun v293 s292 h => ?_)
      refine r_icmp_eq (pc := 1537) (tgt := 1900) h dL_law_1537 (by decide) (fun h => ?_) (fun h => ?_)
      · exact sj_weak (l2 := [some (sj_t 1000), some (sj_r (some a287)), some (sj_r (some a291)), some (sj_i x3)]) (⟨rfl, ⟨rfl, ⟨rfl, ⟨rfl, trivial⟩⟩⟩⟩) (t_L_law_1900 hk18 (some a287) (some a291) x3 s292 h)
      · refine r_iconst (pc := 1540) dL_law_1540 ?_
        exact r_zret (pc := 1541) h rfl dL_law_1541
    refine sj_if h (fun c36 h => ?_) (fun c36 h => ?_)
    · refine r_tcase (pc := 33) (tgt := 1542) (j := 36) hr c36 dL_law_33 (by decide) (by decide) rfl (by decide) ?_
      refine r_aload_n (pc := 1542) dL_law_1542 rfl rfl ?_
      refine r_tload_n (pc := 1543) dL_law_1543 rfl rfl ?_
      refine r_iload_n (pc := 1544) dL_law_1544 rfl rfl ?_
      refine r_iconst (pc := 1545) dL_law_1545 ?_
      refine r_iadd (pc := 1546) dL_law_1546 ?_
      refine r_saload (pc := 1547) h dL_law_1547 (fun v294 h => ?_)
      refine r_tload_n (pc := 1548) dL_law_1548 rfl rfl ?_
      refine r_iload_n (pc := 1549) dL_law_1549 rfl rfl ?_
      refine r_iconst (pc := 1550) dL_law_1550 ?_
      refine r_iadd (pc := 1551) dL_law_1551 ?_
      refine r_saload (pc := 1552) h dL_law_1552 (fun v295 h => ?_)
      refine r_tload_n (pc := 1553) dL_law_1553 rfl rfl ?_
      refine r_iload_n (pc := 1554) dL_law_1554 rfl rfl ?_
      refine r_iconst (pc := 1555) dL_law_1555 ?_
      refine r_iadd (pc := 1556) dL_law_1556 ?_
      refine r_saload (pc := 1557) h dL_law_1557 (fun v296 h => ?_)
      refine r_tload_n (pc := 1558) dL_law_1558 rfl rfl ?_
      refine r_iload_n (pc := 1559) dL_law_1559 rfl rfl ?_
      refine r_iconst (pc := 1560) dL_law_1560 ?_
      refine r_iadd (pc := 1561) dL_law_1561 ?_
      refine r_saload (pc := 1562) h dL_law_1562 (fun v297 h => ?_)
      refine r_tload_n (pc := 1563) dL_law_1563 rfl rfl ?_
      refine r_iload_n (pc := 1564) dL_law_1564 rfl rfl ?_
      refine r_iconst (pc := 1565) dL_law_1565 ?_
      refine r_iadd (pc := 1566) dL_law_1566 ?_
      refine r_saload (pc := 1567) h dL_law_1567 (fun v298 h => ?_)
      refine r_tload_n (pc := 1568) dL_law_1568 rfl rfl ?_
      refine r_iload_n (pc := 1569) dL_law_1569 rfl rfl ?_
      refine r_bipush (pc := 1570) dL_law_1570 ⟨by decide, by decide⟩ ?_
      refine r_iadd (pc := 1572) dL_law_1572 ?_
      refine r_saload (pc := 1573) h dL_law_1573 (fun v299 h => ?_)
      refine r_if_eq (pc := 1574) (tgt := 1581) h dL_law_1574 (by decide) (fun h => ?_) (fun h => ?_)
      · refine r_iconst (pc := 1581) dL_law_1581 ?_
        exact sj_weak (l2 := [some (sj_t 1000), some (sj_r x1), some (sj_r x2), some (sj_i x3)]) (⟨rfl, ⟨rfl, ⟨rfl, ⟨rfl, trivial⟩⟩⟩⟩) (t_L_law_1582 hk18 x1 x2 x3 0 v298 v297 v296 v295 v294 x1 s h)
      · refine r_iconst (pc := 1577) dL_law_1577 ?_
        refine r_goto (pc := 1578) (tgt := 1582) dL_law_1578 (by decide) ?_
        exact sj_weak (l2 := [some (sj_t 1000), some (sj_r x1), some (sj_r x2), some (sj_i x3)]) (⟨rfl, ⟨rfl, ⟨rfl, ⟨rfl, trivial⟩⟩⟩⟩) (t_L_law_1582 hk18 x1 x2 x3 1 v298 v297 v296 v295 v294 x1 s h)
    refine sj_if h (fun c37 h => ?_) (fun c37 h => ?_)
    · refine r_tcase (pc := 33) (tgt := 1633) (j := 37) hr c37 dL_law_33 (by decide) (by decide) rfl (by decide) ?_
      refine r_aload_n (pc := 1633) dL_law_1633 rfl rfl ?_
      refine r_tload_n (pc := 1634) dL_law_1634 rfl rfl ?_
      refine r_iload_n (pc := 1635) dL_law_1635 rfl rfl ?_
      refine r_iconst (pc := 1636) dL_law_1636 ?_
      refine r_iadd (pc := 1637) dL_law_1637 ?_
      refine r_saload (pc := 1638) h dL_law_1638 (fun v300 h => ?_)
      refine r_tload_n (pc := 1639) dL_law_1639 rfl rfl ?_
      refine r_iload_n (pc := 1640) dL_law_1640 rfl rfl ?_
      refine r_iconst (pc := 1641) dL_law_1641 ?_
      refine r_iadd (pc := 1642) dL_law_1642 ?_
      refine r_saload (pc := 1643) h dL_law_1643 (fun v301 h => ?_)
      refine r_tload_n (pc := 1644) dL_law_1644 rfl rfl ?_
      refine r_iload_n (pc := 1645) dL_law_1645 rfl rfl ?_
      refine r_iconst (pc := 1646) dL_law_1646 ?_
      refine r_iadd (pc := 1647) dL_law_1647 ?_
      refine r_saload (pc := 1648) h dL_law_1648 (fun v302 h => ?_)
      refine r_tload_n (pc := 1649) dL_law_1649 rfl rfl ?_
      refine r_iload_n (pc := 1650) dL_law_1650 rfl rfl ?_
      refine r_iconst (pc := 1651) dL_law_1651 ?_
      refine r_iadd (pc := 1652) dL_law_1652 ?_
      refine r_saload (pc := 1653) h dL_law_1653 (fun v303 h => ?_)
      refine r_tload_n (pc := 1654) dL_law_1654 rfl rfl ?_
      refine r_iload_n (pc := 1655) dL_law_1655 rfl rfl ?_
      refine r_iconst (pc := 1656) dL_law_1656 ?_
      refine r_iadd (pc := 1657) dL_law_1657 ?_
      refine r_saload (pc := 1658) h dL_law_1658 (fun v304 h => ?_)
      refine r_if_eq (pc := 1659) (tgt := 1666) h dL_law_1659 (by decide) (fun h => ?_) (fun h => ?_)
      · refine r_iconst (pc := 1666) dL_law_1666 ?_
        exact sj_weak (l2 := [some (sj_t 1000), some (sj_r x1), some (sj_r x2), some (sj_i x3)]) (⟨rfl, ⟨rfl, ⟨rfl, ⟨rfl, trivial⟩⟩⟩⟩) (t_L_law_1667 hk18 x1 x2 x3 0 v303 v302 v301 v300 x1 s h)
      · refine r_iconst (pc := 1662) dL_law_1662 ?_
        refine r_goto (pc := 1663) (tgt := 1667) dL_law_1663 (by decide) ?_
        exact sj_weak (l2 := [some (sj_t 1000), some (sj_r x1), some (sj_r x2), some (sj_i x3)]) (⟨rfl, ⟨rfl, ⟨rfl, ⟨rfl, trivial⟩⟩⟩⟩) (t_L_law_1667 hk18 x1 x2 x3 1 v303 v302 v301 v300 x1 s h)
    refine sj_if h (fun c38 h => ?_) (fun c38 h => ?_)
    · refine r_tcase (pc := 33) (tgt := 1736) (j := 38) hr c38 dL_law_33 (by decide) (by decide) rfl (by decide) ?_
      refine r_aload_n (pc := 1736) dL_law_1736 rfl rfl ?_
      refine r_tload_n (pc := 1737) dL_law_1737 rfl rfl ?_
      refine r_iload_n (pc := 1738) dL_law_1738 rfl rfl ?_
      refine r_iconst (pc := 1739) dL_law_1739 ?_
      refine r_iadd (pc := 1740) dL_law_1740 ?_
      refine r_saload (pc := 1741) h dL_law_1741 (fun v305 h => ?_)
      obtain ⟨a306, ea306, g⟩ := e_nn_some h
      clear h
      subst ea306
      have h := g
      clear g
      refine r_callV (pc := 1742) (fun v => some (sj_i v)) (As := [sj_i v305]) (rest := []) h dL_law_1742 mw_L_184 vw_X8_state (fun _ _ hc => c_X8_state hc) rfl ⟨(Nat.le_of_ble_eq_true rfl), (Nat.le_of_ble_eq_true rfl)⟩ (Nat.le_of_ble_eq_true rfl) rfl (fun v308 s307 h => ?_)
      refine r_aload_n (pc := 1745) dL_law_1745 rfl rfl ?_
      refine r_tload_n (pc := 1746) dL_law_1746 rfl rfl ?_
      refine r_iload_n (pc := 1747) dL_law_1747 rfl rfl ?_
      refine r_iconst (pc := 1748) dL_law_1748 ?_
      refine r_iadd (pc := 1749) dL_law_1749 ?_
      refine r_saload (pc := 1750) h dL_law_1750 (fun v309 h => ?_)
      obtain ⟨a310, ea310, g⟩ := e_nn_some h
      clear h
      subst ea310
      have h := g
      clear g
      refine r_callV (pc := 1751) (fun v => some (sj_i v)) (As := [sj_i v309]) (rest := [(sj_i v308)]) h dL_law_1751 mw_L_187 vw_X9_state (fun _ _ hc => c_X9_state hc) rfl ⟨(Nat.le_of_ble_eq_true rfl), (Nat.le_of_ble_eq_true rfl)⟩ (Nat.le_of_ble_eq_true rfl) rfl (fun v312 s311 h => ?_)
      refine r_icmp_eq (pc := 1754) (tgt := 1900) h dL_law_1754 (by decide) (fun h => ?_) (fun h => ?_)
      · exact sj_weak (l2 := [some (sj_t 1000), some (sj_r (some a306)), some (sj_r (some a310)), some (sj_i x3)]) (⟨rfl, ⟨rfl, ⟨rfl, ⟨rfl, trivial⟩⟩⟩⟩) (t_L_law_1900 hk18 (some a306) (some a310) x3 s311 h)
      · refine r_iconst (pc := 1757) dL_law_1757 ?_
        exact r_zret (pc := 1758) h rfl dL_law_1758
    refine sj_if h (fun c39 h => ?_) (fun c39 h => ?_)
    · refine r_tcase (pc := 33) (tgt := 1759) (j := 39) hr c39 dL_law_33 (by decide) (by decide) rfl (by decide) ?_
      refine r_aload_n (pc := 1759) dL_law_1759 rfl rfl ?_
      refine r_tload_n (pc := 1760) dL_law_1760 rfl rfl ?_
      refine r_iload_n (pc := 1761) dL_law_1761 rfl rfl ?_
      refine r_iconst (pc := 1762) dL_law_1762 ?_
      refine r_iadd (pc := 1763) dL_law_1763 ?_
      refine r_saload (pc := 1764) h dL_law_1764 (fun v313 h => ?_)
      refine r_tload_n (pc := 1765) dL_law_1765 rfl rfl ?_
      refine r_iload_n (pc := 1766) dL_law_1766 rfl rfl ?_
      refine r_iconst (pc := 1767) dL_law_1767 ?_
      refine r_iadd (pc := 1768) dL_law_1768 ?_
      refine r_saload (pc := 1769) h dL_law_1769 (fun v314 h => ?_)
      refine r_tload_n (pc := 1770) dL_law_1770 rfl rfl ?_
      refine r_iload_n (pc := 1771) dL_law_1771 rfl rfl ?_
      refine r_iconst (pc := 1772) dL_law_1772 ?_
      refine r_iadd (pc := 1773) dL_law_1773 ?_
      refine r_saload (pc := 1774) h dL_law_1774 (fun v315 h => ?_)
      obtain ⟨a316, ea316, g⟩ := e_nn_some h
      clear h
      subst ea316
      have h := g
      clear g
      refine r_callV (pc := 1775) (fun v => some (sj_i v)) (As := [sj_i v313, sj_i v314, sj_i v315]) (rest := []) h dL_law_1775 mw_L_188 vw_X8_chance (fun _ _ hc => c_X8_chance hc) rfl ⟨(Nat.le_of_ble_eq_true rfl), (Nat.le_of_ble_eq_true rfl)⟩ (Nat.le_of_ble_eq_true rfl) rfl (fun v318 s317 h => ?_)
      refine r_aload_n (pc := 1778) dL_law_1778 rfl rfl ?_
      refine r_tload_n (pc := 1779) dL_law_1779 rfl rfl ?_
      refine r_iload_n (pc := 1780) dL_law_1780 rfl rfl ?_
      refine r_iconst (pc := 1781) dL_law_1781 ?_
      refine r_iadd (pc := 1782) dL_law_1782 ?_
      refine r_saload (pc := 1783) h dL_law_1783 (fun v319 h => ?_)
      refine r_tload_n (pc := 1784) dL_law_1784 rfl rfl ?_
      refine r_iload_n (pc := 1785) dL_law_1785 rfl rfl ?_
      refine r_iconst (pc := 1786) dL_law_1786 ?_
      refine r_iadd (pc := 1787) dL_law_1787 ?_
      refine r_saload (pc := 1788) h dL_law_1788 (fun v320 h => ?_)
      refine r_tload_n (pc := 1789) dL_law_1789 rfl rfl ?_
      refine r_iload_n (pc := 1790) dL_law_1790 rfl rfl ?_
      refine r_iconst (pc := 1791) dL_law_1791 ?_
      refine r_iadd (pc := 1792) dL_law_1792 ?_
      refine r_saload (pc := 1793) h dL_law_1793 (fun v321 h => ?_)
      obtain ⟨a322, ea322, g⟩ := e_nn_some h
      clear h
      subst ea322
      have h := g
      clear g
      refine r_callV (pc := 1794) (fun v => some (sj_i v)) (As := [sj_i v319, sj_i v320, sj_i v321]) (rest := [(sj_i v318)]) h dL_law_1794 mw_L_191 vw_X9_chance (fun _ _ hc => c_X9_chance hc) rfl ⟨(Nat.le_of_ble_eq_true rfl), (Nat.le_of_ble_eq_true rfl)⟩ (Nat.le_of_ble_eq_true rfl) rfl (fun v324 s323 h => ?_)
      refine r_icmp_eq (pc := 1797) (tgt := 1900) h dL_law_1797 (by decide) (fun h => ?_) (fun h => ?_)
      · exact sj_weak (l2 := [some (sj_t 1000), some (sj_r (some a316)), some (sj_r (some a322)), some (sj_i x3)]) (⟨rfl, ⟨rfl, ⟨rfl, ⟨rfl, trivial⟩⟩⟩⟩) (t_L_law_1900 hk18 (some a316) (some a322) x3 s323 h)
      · refine r_iconst (pc := 1800) dL_law_1800 ?_
        exact r_zret (pc := 1801) h rfl dL_law_1801
    refine sj_if h (fun c40 h => ?_) (fun c40 h => ?_)
    · refine r_tcase (pc := 33) (tgt := 1802) (j := 40) hr c40 dL_law_33 (by decide) (by decide) rfl (by decide) ?_
      refine r_aload_n (pc := 1802) dL_law_1802 rfl rfl ?_
      obtain ⟨a325, ea325, g⟩ := e_nn_some h
      clear h
      subst ea325
      have h := g
      clear g
      refine r_callV (pc := 1803) (fun v => some (sj_i v)) (As := []) (rest := []) h dL_law_1803 mw_L_192 vw_X8_report (fun _ _ hc => c_X8_report hc) rfl ⟨(Nat.le_of_ble_eq_true rfl), (Nat.le_of_ble_eq_true rfl)⟩ (Nat.le_of_ble_eq_true rfl) rfl (fun v327 s326 h => ?_)
      refine r_aload_n (pc := 1806) dL_law_1806 rfl rfl ?_
      obtain ⟨a328, ea328, g⟩ := e_nn_some h
      clear h
      subst ea328
      have h := g
      clear g
      refine r_callV (pc := 1807) (fun v => some (sj_i v)) (As := []) (rest := [(sj_i v327)]) h dL_law_1807 mw_L_195 vw_X9_report (fun _ _ hc => c_X9_report hc) rfl ⟨(Nat.le_of_ble_eq_true rfl), (Nat.le_of_ble_eq_true rfl)⟩ (Nat.le_of_ble_eq_true rfl) rfl (fun v330 s329 h => ?_)
      refine r_icmp_eq (pc := 1810) (tgt := 1900) h dL_law_1810 (by decide) (fun h => ?_) (fun h => ?_)
      · exact sj_weak (l2 := [some (sj_t 1000), some (sj_r (some a325)), some (sj_r (some a328)), some (sj_i x3)]) (⟨rfl, ⟨rfl, ⟨rfl, ⟨rfl, trivial⟩⟩⟩⟩) (t_L_law_1900 hk18 (some a325) (some a328) x3 s329 h)
      · refine r_iconst (pc := 1813) dL_law_1813 ?_
        exact r_zret (pc := 1814) h rfl dL_law_1814
    refine sj_if h (fun c41 h => ?_) (fun c41 h => ?_)
    · refine r_tcase (pc := 33) (tgt := 1815) (j := 41) hr c41 dL_law_33 (by decide) (by decide) rfl (by decide) ?_
      refine r_aload_n (pc := 1815) dL_law_1815 rfl rfl ?_
      refine r_tload_n (pc := 1816) dL_law_1816 rfl rfl ?_
      refine r_iload_n (pc := 1817) dL_law_1817 rfl rfl ?_
      refine r_iconst (pc := 1818) dL_law_1818 ?_
      refine r_iadd (pc := 1819) dL_law_1819 ?_
      refine r_saload (pc := 1820) h dL_law_1820 (fun v331 h => ?_)
      obtain ⟨a332, ea332, g⟩ := e_nn_some h
      clear h
      subst ea332
      have h := g
      clear g
      refine r_callV (pc := 1821) (fun v => some (sj_i v)) (As := [sj_i v331]) (rest := []) h dL_law_1821 mw_L_196 vw_X8_sign (fun _ _ hc => c_X8_sign hc) rfl ⟨(Nat.le_of_ble_eq_true rfl), (Nat.le_of_ble_eq_true rfl)⟩ (Nat.le_of_ble_eq_true rfl) rfl (fun v334 s333 h => ?_)
      refine r_aload_n (pc := 1824) dL_law_1824 rfl rfl ?_
      refine r_tload_n (pc := 1825) dL_law_1825 rfl rfl ?_
      refine r_iload_n (pc := 1826) dL_law_1826 rfl rfl ?_
      refine r_iconst (pc := 1827) dL_law_1827 ?_
      refine r_iadd (pc := 1828) dL_law_1828 ?_
      refine r_saload (pc := 1829) h dL_law_1829 (fun v335 h => ?_)
      obtain ⟨a336, ea336, g⟩ := e_nn_some h
      clear h
      subst ea336
      have h := g
      clear g
      refine r_callV (pc := 1830) (fun v => some (sj_i v)) (As := [sj_i v335]) (rest := [(sj_i v334)]) h dL_law_1830 mw_L_199 vw_X9_sign (fun _ _ hc => c_X9_sign hc) rfl ⟨(Nat.le_of_ble_eq_true rfl), (Nat.le_of_ble_eq_true rfl)⟩ (Nat.le_of_ble_eq_true rfl) rfl (fun v338 s337 h => ?_)
      refine r_icmp_eq (pc := 1833) (tgt := 1900) h dL_law_1833 (by decide) (fun h => ?_) (fun h => ?_)
      · exact sj_weak (l2 := [some (sj_t 1000), some (sj_r (some a332)), some (sj_r (some a336)), some (sj_i x3)]) (⟨rfl, ⟨rfl, ⟨rfl, ⟨rfl, trivial⟩⟩⟩⟩) (t_L_law_1900 hk18 (some a332) (some a336) x3 s337 h)
      · refine r_iconst (pc := 1836) dL_law_1836 ?_
        exact r_zret (pc := 1837) h rfl dL_law_1837
    refine sj_if h (fun c42 h => ?_) (fun c42 h => ?_)
    · refine r_tcase (pc := 33) (tgt := 1838) (j := 42) hr c42 dL_law_33 (by decide) (by decide) rfl (by decide) ?_
      refine r_aload_n (pc := 1838) dL_law_1838 rfl rfl ?_
      refine r_tload_n (pc := 1839) dL_law_1839 rfl rfl ?_
      refine r_iload_n (pc := 1840) dL_law_1840 rfl rfl ?_
      refine r_iconst (pc := 1841) dL_law_1841 ?_
      refine r_iadd (pc := 1842) dL_law_1842 ?_
      refine r_saload (pc := 1843) h dL_law_1843 (fun v339 h => ?_)
      refine r_if_eq (pc := 1844) (tgt := 1851) h dL_law_1844 (by decide) (fun h => ?_) (fun h => ?_)
      · refine r_iconst (pc := 1851) dL_law_1851 ?_
        exact sj_weak (l2 := [some (sj_t 1000), some (sj_r x1), some (sj_r x2), some (sj_i x3)]) (⟨rfl, ⟨rfl, ⟨rfl, ⟨rfl, trivial⟩⟩⟩⟩) (t_L_law_1852 hk18 x1 x2 x3 0 x1 s h)
      · refine r_iconst (pc := 1847) dL_law_1847 ?_
        refine r_goto (pc := 1848) (tgt := 1852) dL_law_1848 (by decide) ?_
        exact sj_weak (l2 := [some (sj_t 1000), some (sj_r x1), some (sj_r x2), some (sj_i x3)]) (⟨rfl, ⟨rfl, ⟨rfl, ⟨rfl, trivial⟩⟩⟩⟩) (t_L_law_1852 hk18 x1 x2 x3 1 x1 s h)
    refine sj_if h (fun c43 h => ?_) (fun c43 h => ?_)
    · refine r_tcase (pc := 33) (tgt := 1877) (j := 43) hr c43 dL_law_33 (by decide) (by decide) rfl (by decide) ?_
      refine r_aload_n (pc := 1877) dL_law_1877 rfl rfl ?_
      refine r_tload_n (pc := 1878) dL_law_1878 rfl rfl ?_
      refine r_iload_n (pc := 1879) dL_law_1879 rfl rfl ?_
      refine r_iconst (pc := 1880) dL_law_1880 ?_
      refine r_iadd (pc := 1881) dL_law_1881 ?_
      refine r_saload (pc := 1882) h dL_law_1882 (fun v340 h => ?_)
      obtain ⟨a341, ea341, g⟩ := e_nn_some h
      clear h
      subst ea341
      have h := g
      clear g
      refine r_callV (pc := 1883) (fun v => some (sj_i v)) (As := [sj_i v340]) (rest := []) h dL_law_1883 mw_L_205 vw_X8_look (fun _ _ hc => c_X8_look hc) rfl ⟨(Nat.le_of_ble_eq_true rfl), (Nat.le_of_ble_eq_true rfl)⟩ (Nat.le_of_ble_eq_true rfl) rfl (fun v343 s342 h => ?_)
      refine r_aload_n (pc := 1886) dL_law_1886 rfl rfl ?_
      refine r_tload_n (pc := 1887) dL_law_1887 rfl rfl ?_
      refine r_iload_n (pc := 1888) dL_law_1888 rfl rfl ?_
      refine r_iconst (pc := 1889) dL_law_1889 ?_
      refine r_iadd (pc := 1890) dL_law_1890 ?_
      refine r_saload (pc := 1891) h dL_law_1891 (fun v344 h => ?_)
      obtain ⟨a345, ea345, g⟩ := e_nn_some h
      clear h
      subst ea345
      have h := g
      clear g
      refine r_callV (pc := 1892) (fun v => some (sj_i v)) (As := [sj_i v344]) (rest := [(sj_i v343)]) h dL_law_1892 mw_L_208 vw_X9_look (fun _ _ hc => c_X9_look hc) rfl ⟨(Nat.le_of_ble_eq_true rfl), (Nat.le_of_ble_eq_true rfl)⟩ (Nat.le_of_ble_eq_true rfl) rfl (fun v347 s346 h => ?_)
      refine r_icmp_eq (pc := 1895) (tgt := 1900) h dL_law_1895 (by decide) (fun h => ?_) (fun h => ?_)
      · exact sj_weak (l2 := [some (sj_t 1000), some (sj_r (some a341)), some (sj_r (some a345)), some (sj_i x3)]) (⟨rfl, ⟨rfl, ⟨rfl, ⟨rfl, trivial⟩⟩⟩⟩) (t_L_law_1900 hk18 (some a341) (some a345) x3 s346 h)
      · refine r_iconst (pc := 1898) dL_law_1898 ?_
        exact r_zret (pc := 1899) h rfl dL_law_1899
    refine r_tdflt (pc := 33) (tgt := 1900) hr dL_law_33 (by omega) (by decide) ?_
    exact sj_weak (l2 := [some (sj_t 1000), some (sj_r x1), some (sj_r x2), some (sj_i x3)]) (⟨rfl, ⟨rfl, ⟨rfl, ⟨rfl, trivial⟩⟩⟩⟩) (t_L_law_1900 hk18 x1 x2 x3 s h)
set_option maxHeartbeats 4000000 in
theorem t_L_law_18 {X : sj_X} {s0 : sj_Mem} {N : Nat} {q : Int × sj_Mem} :
    ∀ (n : Nat) (x1 : Option Nat) (x2 : Option Nat) (x3 : Int) (s : sj_Mem), f_L_law_18 N (sj_scL X) (sj_scx X) n x1 x2 x3 s = some q → sj_T X m_L_law s0 (some (sj_i q.1), q.2) 18 [some (sj_t 1000), some (sj_r x1), some (sj_r x2), some (sj_i x3)] [] s := by
  intro n
  induction n with
  | zero => intro x1 x2 x3 s h; exact nomatch h
  | succ n ih => intro x1 x2 x3 s h; exact t_L_law_18_b (N := N) ih x1 x2 x3 s h
set_option maxHeartbeats 4000000 in
theorem t_L_law_0 {X : sj_X} {s0 : sj_Mem} {N : Nat} {q : Int × sj_Mem} :
    ∀ (s : sj_Mem), f_L_law N (sj_scL X) (sj_scx X) s = some q → sj_T X m_L_law s0 (some (sj_i q.1), q.2) 0 [some (sj_t 1000), none, none, none] [] s := by
  intro  s h
  unfold f_L_law at h
  refine r_new (pc := 0) h dL_law_0 nw_L_7 (fun a1 s2 h => ?_)
  refine r_dup (pc := 3) dL_law_3 rfl ?_
  refine r_callI (pc := 4) (fun _ => none) (As := []) (rest := [(sj_r (some a1))]) (b := a1) h dL_law_4 mw_L_9 ⟨kw_21, rfl, rfl⟩ (fun _ _ hc => c_X8_init hc) rfl ⟨(Nat.le_of_ble_eq_true rfl), (Nat.le_of_ble_eq_true rfl)⟩ (Nat.le_of_ble_eq_true rfl) rfl (fun _u s3 h => ?_)
  refine r_astore_n (ln := [some (sj_t 1000), some (sj_r (some a1)), none, none]) (pc := 7) dL_law_7 rfl (Nat.le_of_ble_eq_true rfl) rfl ?_
  refine r_new (pc := 8) h dL_law_8 nw_L_10 (fun a4 s5 h => ?_)
  refine r_dup (pc := 11) dL_law_11 rfl ?_
  refine r_callI (pc := 12) (fun _ => none) (As := []) (rest := [(sj_r (some a4))]) (b := a4) h dL_law_12 mw_L_12 ⟨kw_1100, rfl, rfl⟩ (fun _ _ hc => c_X9_init hc) rfl ⟨(Nat.le_of_ble_eq_true rfl), (Nat.le_of_ble_eq_true rfl)⟩ (Nat.le_of_ble_eq_true rfl) rfl (fun _u s6 h => ?_)
  refine r_astore_n (ln := [some (sj_t 1000), some (sj_r (some a1)), some (sj_r (some a4)), none]) (pc := 15) dL_law_15 rfl (Nat.le_of_ble_eq_true rfl) rfl ?_
  refine r_iconst (pc := 16) dL_law_16 ?_
  refine r_istore_n (ln := [some (sj_t 1000), some (sj_r (some a1)), some (sj_r (some a4)), some (sj_i 0)]) (pc := 17) dL_law_17 rfl (Nat.le_of_ble_eq_true rfl) rfl ?_
  exact sj_weak (l2 := [some (sj_t 1000), some (sj_r (some a1)), some (sj_r (some a4)), some (sj_i 0)]) (⟨rfl, ⟨rfl, ⟨rfl, ⟨rfl, trivial⟩⟩⟩⟩) (t_L_law_18 N (some a1) (some a4) 0 s6 h)
