/-! the law, decoded -/
theorem d_law_0 : decode code 0 = .ok (.new 7, 3) := by decide +kernel
theorem d_law_3 : decode code 3 = .ok (.dup, 1) := by decide +kernel
theorem d_law_4 : decode code 4 = .ok (.invokespecial 9, 3) := by decide +kernel
theorem d_law_7 : decode code 7 = .ok (.astore_n 1, 1) := by decide +kernel
theorem d_law_8 : decode code 8 = .ok (.new 10, 3) := by decide +kernel
theorem d_law_11 : decode code 11 = .ok (.dup, 1) := by decide +kernel
theorem d_law_12 : decode code 12 = .ok (.invokespecial 12, 3) := by decide +kernel
theorem d_law_15 : decode code 15 = .ok (.astore_n 2, 1) := by decide +kernel
theorem d_law_16 : decode code 16 = .ok (.iconst 0, 1) := by decide +kernel
theorem d_law_17 : decode code 17 = .ok (.istore_n 3, 1) := by decide +kernel
theorem d_law_18 : decode code 18 = .ok (.iload_n 3, 1) := by decide +kernel
theorem d_law_19 : decode code 19 = .ok (.aload_n 0, 1) := by decide +kernel
theorem d_law_20 : decode code 20 = .ok (.arraylength, 1) := by decide +kernel
theorem d_law_21 : decode code 21 = .ok (.bipush 6, 2) := by decide +kernel
theorem d_law_23 : decode code 23 = .ok (.isub, 1) := by decide +kernel
theorem d_law_24 : decode code 24 = .ok (.if_icmp .gt 1360, 3) := by decide +kernel
theorem d_law_27 : decode code 27 = .ok (.aload_n 0, 1) := by decide +kernel
theorem d_law_28 : decode code 28 = .ok (.iload_n 3, 1) := by decide +kernel
theorem d_law_29 : decode code 29 = .ok (.iaload, 1) := by decide +kernel
theorem d_law_30 : decode code 30 = .ok (.bipush 63, 2) := by decide +kernel
theorem d_law_32 : decode code 32 = .ok (.iand, 1) := by decide +kernel
theorem d_law_33 : decode code 33 = .ok (.tableswitch 1345 0 37 #[167, 230, 253, 266, 289, 312, 355, 414, 447, 470, 513, 553, 567, 607, 640, 683, 716, 739, 772, 795, 818, 851, 874, 897, 920, 989, 1012, 1045, 1058, 1071, 1085, 1108, 1121, 1144, 1207, 1266, 1289, 1312], 167) := by decide +kernel
theorem d_law_200 : decode code 200 = .ok (.aload_n 1, 1) := by decide +kernel
theorem d_law_201 : decode code 201 = .ok (.aload_n 0, 1) := by decide +kernel
theorem d_law_202 : decode code 202 = .ok (.iload_n 3, 1) := by decide +kernel
theorem d_law_203 : decode code 203 = .ok (.iconst 1, 1) := by decide +kernel
theorem d_law_204 : decode code 204 = .ok (.iadd, 1) := by decide +kernel
theorem d_law_205 : decode code 205 = .ok (.iaload, 1) := by decide +kernel
theorem d_law_206 : decode code 206 = .ok (.aload_n 0, 1) := by decide +kernel
theorem d_law_207 : decode code 207 = .ok (.iload_n 3, 1) := by decide +kernel
theorem d_law_208 : decode code 208 = .ok (.iconst 2, 1) := by decide +kernel
theorem d_law_209 : decode code 209 = .ok (.iadd, 1) := by decide +kernel
theorem d_law_210 : decode code 210 = .ok (.iaload, 1) := by decide +kernel
theorem d_law_211 : decode code 211 = .ok (.aload_n 0, 1) := by decide +kernel
theorem d_law_212 : decode code 212 = .ok (.iload_n 3, 1) := by decide +kernel
theorem d_law_213 : decode code 213 = .ok (.iconst 3, 1) := by decide +kernel
theorem d_law_214 : decode code 214 = .ok (.iadd, 1) := by decide +kernel
theorem d_law_215 : decode code 215 = .ok (.iaload, 1) := by decide +kernel
theorem d_law_216 : decode code 216 = .ok (.aload_n 0, 1) := by decide +kernel
theorem d_law_217 : decode code 217 = .ok (.iload_n 3, 1) := by decide +kernel
theorem d_law_218 : decode code 218 = .ok (.iconst 4, 1) := by decide +kernel
theorem d_law_219 : decode code 219 = .ok (.iadd, 1) := by decide +kernel
theorem d_law_220 : decode code 220 = .ok (.iaload, 1) := by decide +kernel
theorem d_law_221 : decode code 221 = .ok (.aload_n 0, 1) := by decide +kernel
theorem d_law_222 : decode code 222 = .ok (.iload_n 3, 1) := by decide +kernel
theorem d_law_223 : decode code 223 = .ok (.iconst 5, 1) := by decide +kernel
theorem d_law_224 : decode code 224 = .ok (.iadd, 1) := by decide +kernel
theorem d_law_225 : decode code 225 = .ok (.iaload, 1) := by decide +kernel
theorem d_law_226 : decode code 226 = .ok (.invokevirtual 13, 3) := by decide +kernel
theorem d_law_229 : decode code 229 = .ok (.aload_n 2, 1) := by decide +kernel
theorem d_law_230 : decode code 230 = .ok (.aload_n 0, 1) := by decide +kernel
theorem d_law_231 : decode code 231 = .ok (.iload_n 3, 1) := by decide +kernel
theorem d_law_232 : decode code 232 = .ok (.iconst 1, 1) := by decide +kernel
theorem d_law_233 : decode code 233 = .ok (.iadd, 1) := by decide +kernel
theorem d_law_234 : decode code 234 = .ok (.iaload, 1) := by decide +kernel
theorem d_law_235 : decode code 235 = .ok (.aload_n 0, 1) := by decide +kernel
theorem d_law_236 : decode code 236 = .ok (.iload_n 3, 1) := by decide +kernel
theorem d_law_237 : decode code 237 = .ok (.iconst 2, 1) := by decide +kernel
theorem d_law_238 : decode code 238 = .ok (.iadd, 1) := by decide +kernel
theorem d_law_239 : decode code 239 = .ok (.iaload, 1) := by decide +kernel
theorem d_law_240 : decode code 240 = .ok (.aload_n 0, 1) := by decide +kernel
theorem d_law_241 : decode code 241 = .ok (.iload_n 3, 1) := by decide +kernel
theorem d_law_242 : decode code 242 = .ok (.iconst 3, 1) := by decide +kernel
theorem d_law_243 : decode code 243 = .ok (.iadd, 1) := by decide +kernel
theorem d_law_244 : decode code 244 = .ok (.iaload, 1) := by decide +kernel
theorem d_law_245 : decode code 245 = .ok (.aload_n 0, 1) := by decide +kernel
theorem d_law_246 : decode code 246 = .ok (.iload_n 3, 1) := by decide +kernel
theorem d_law_247 : decode code 247 = .ok (.iconst 4, 1) := by decide +kernel
theorem d_law_248 : decode code 248 = .ok (.iadd, 1) := by decide +kernel
theorem d_law_249 : decode code 249 = .ok (.iaload, 1) := by decide +kernel
theorem d_law_250 : decode code 250 = .ok (.aload_n 0, 1) := by decide +kernel
theorem d_law_251 : decode code 251 = .ok (.iload_n 3, 1) := by decide +kernel
theorem d_law_252 : decode code 252 = .ok (.iconst 5, 1) := by decide +kernel
theorem d_law_253 : decode code 253 = .ok (.iadd, 1) := by decide +kernel
theorem d_law_254 : decode code 254 = .ok (.iaload, 1) := by decide +kernel
theorem d_law_255 : decode code 255 = .ok (.invokevirtual 17, 3) := by decide +kernel
theorem d_law_258 : decode code 258 = .ok (.if_icmp .eq 1120, 3) := by decide +kernel
theorem d_law_261 : decode code 261 = .ok (.iconst 0, 1) := by decide +kernel
theorem d_law_262 : decode code 262 = .ok (.ireturn, 1) := by decide +kernel
theorem d_law_263 : decode code 263 = .ok (.aload_n 1, 1) := by decide +kernel
theorem d_law_264 : decode code 264 = .ok (.aload_n 0, 1) := by decide +kernel
theorem d_law_265 : decode code 265 = .ok (.iload_n 3, 1) := by decide +kernel
theorem d_law_266 : decode code 266 = .ok (.iconst 1, 1) := by decide +kernel
theorem d_law_267 : decode code 267 = .ok (.iadd, 1) := by decide +kernel
theorem d_law_268 : decode code 268 = .ok (.iaload, 1) := by decide +kernel
theorem d_law_269 : decode code 269 = .ok (.invokevirtual 18, 3) := by decide +kernel
theorem d_law_272 : decode code 272 = .ok (.aload_n 2, 1) := by decide +kernel
theorem d_law_273 : decode code 273 = .ok (.aload_n 0, 1) := by decide +kernel
theorem d_law_274 : decode code 274 = .ok (.iload_n 3, 1) := by decide +kernel
theorem d_law_275 : decode code 275 = .ok (.iconst 1, 1) := by decide +kernel
theorem d_law_276 : decode code 276 = .ok (.iadd, 1) := by decide +kernel
theorem d_law_277 : decode code 277 = .ok (.iaload, 1) := by decide +kernel
theorem d_law_278 : decode code 278 = .ok (.invokevirtual 22, 3) := by decide +kernel
theorem d_law_281 : decode code 281 = .ok (.if_icmp .eq 1097, 3) := by decide +kernel
theorem d_law_284 : decode code 284 = .ok (.iconst 0, 1) := by decide +kernel
theorem d_law_285 : decode code 285 = .ok (.ireturn, 1) := by decide +kernel
theorem d_law_286 : decode code 286 = .ok (.aload_n 1, 1) := by decide +kernel
theorem d_law_287 : decode code 287 = .ok (.invokevirtual 23, 3) := by decide +kernel
theorem d_law_290 : decode code 290 = .ok (.aload_n 2, 1) := by decide +kernel
theorem d_law_291 : decode code 291 = .ok (.invokevirtual 27, 3) := by decide +kernel
theorem d_law_294 : decode code 294 = .ok (.if_icmp .eq 1084, 3) := by decide +kernel
theorem d_law_297 : decode code 297 = .ok (.iconst 0, 1) := by decide +kernel
theorem d_law_298 : decode code 298 = .ok (.ireturn, 1) := by decide +kernel
theorem d_law_299 : decode code 299 = .ok (.aload_n 1, 1) := by decide +kernel
theorem d_law_300 : decode code 300 = .ok (.aload_n 0, 1) := by decide +kernel
theorem d_law_301 : decode code 301 = .ok (.iload_n 3, 1) := by decide +kernel
theorem d_law_302 : decode code 302 = .ok (.iconst 1, 1) := by decide +kernel
theorem d_law_303 : decode code 303 = .ok (.iadd, 1) := by decide +kernel
theorem d_law_304 : decode code 304 = .ok (.iaload, 1) := by decide +kernel
theorem d_law_305 : decode code 305 = .ok (.invokevirtual 28, 3) := by decide +kernel
theorem d_law_308 : decode code 308 = .ok (.aload_n 2, 1) := by decide +kernel
theorem d_law_309 : decode code 309 = .ok (.aload_n 0, 1) := by decide +kernel
theorem d_law_310 : decode code 310 = .ok (.iload_n 3, 1) := by decide +kernel
theorem d_law_311 : decode code 311 = .ok (.iconst 1, 1) := by decide +kernel
theorem d_law_312 : decode code 312 = .ok (.iadd, 1) := by decide +kernel
theorem d_law_313 : decode code 313 = .ok (.iaload, 1) := by decide +kernel
theorem d_law_314 : decode code 314 = .ok (.invokevirtual 32, 3) := by decide +kernel
theorem d_law_317 : decode code 317 = .ok (.if_icmp .eq 1061, 3) := by decide +kernel
theorem d_law_320 : decode code 320 = .ok (.iconst 0, 1) := by decide +kernel
theorem d_law_321 : decode code 321 = .ok (.ireturn, 1) := by decide +kernel
theorem d_law_322 : decode code 322 = .ok (.aload_n 1, 1) := by decide +kernel
theorem d_law_323 : decode code 323 = .ok (.aload_n 0, 1) := by decide +kernel
theorem d_law_324 : decode code 324 = .ok (.iload_n 3, 1) := by decide +kernel
theorem d_law_325 : decode code 325 = .ok (.iconst 1, 1) := by decide +kernel
theorem d_law_326 : decode code 326 = .ok (.iadd, 1) := by decide +kernel
theorem d_law_327 : decode code 327 = .ok (.iaload, 1) := by decide +kernel
theorem d_law_328 : decode code 328 = .ok (.invokevirtual 33, 3) := by decide +kernel
theorem d_law_331 : decode code 331 = .ok (.aload_n 2, 1) := by decide +kernel
theorem d_law_332 : decode code 332 = .ok (.aload_n 0, 1) := by decide +kernel
theorem d_law_333 : decode code 333 = .ok (.iload_n 3, 1) := by decide +kernel
theorem d_law_334 : decode code 334 = .ok (.iconst 1, 1) := by decide +kernel
theorem d_law_335 : decode code 335 = .ok (.iadd, 1) := by decide +kernel
theorem d_law_336 : decode code 336 = .ok (.iaload, 1) := by decide +kernel
theorem d_law_337 : decode code 337 = .ok (.invokevirtual 36, 3) := by decide +kernel
theorem d_law_340 : decode code 340 = .ok (.if_icmp .eq 1038, 3) := by decide +kernel
theorem d_law_343 : decode code 343 = .ok (.iconst 0, 1) := by decide +kernel
theorem d_law_344 : decode code 344 = .ok (.ireturn, 1) := by decide +kernel
theorem d_law_345 : decode code 345 = .ok (.aload_n 1, 1) := by decide +kernel
theorem d_law_346 : decode code 346 = .ok (.aload_n 0, 1) := by decide +kernel
theorem d_law_347 : decode code 347 = .ok (.iload_n 3, 1) := by decide +kernel
theorem d_law_348 : decode code 348 = .ok (.iconst 1, 1) := by decide +kernel
theorem d_law_349 : decode code 349 = .ok (.iadd, 1) := by decide +kernel
theorem d_law_350 : decode code 350 = .ok (.iaload, 1) := by decide +kernel
theorem d_law_351 : decode code 351 = .ok (.aload_n 0, 1) := by decide +kernel
theorem d_law_352 : decode code 352 = .ok (.iload_n 3, 1) := by decide +kernel
theorem d_law_353 : decode code 353 = .ok (.iconst 2, 1) := by decide +kernel
theorem d_law_354 : decode code 354 = .ok (.iadd, 1) := by decide +kernel
theorem d_law_355 : decode code 355 = .ok (.iaload, 1) := by decide +kernel
theorem d_law_356 : decode code 356 = .ok (.aload_n 0, 1) := by decide +kernel
theorem d_law_357 : decode code 357 = .ok (.iload_n 3, 1) := by decide +kernel
theorem d_law_358 : decode code 358 = .ok (.iconst 3, 1) := by decide +kernel
theorem d_law_359 : decode code 359 = .ok (.iadd, 1) := by decide +kernel
theorem d_law_360 : decode code 360 = .ok (.iaload, 1) := by decide +kernel
theorem d_law_361 : decode code 361 = .ok (.invokevirtual 37, 3) := by decide +kernel
theorem d_law_364 : decode code 364 = .ok (.aload_n 2, 1) := by decide +kernel
theorem d_law_365 : decode code 365 = .ok (.aload_n 0, 1) := by decide +kernel
theorem d_law_366 : decode code 366 = .ok (.iload_n 3, 1) := by decide +kernel
theorem d_law_367 : decode code 367 = .ok (.iconst 1, 1) := by decide +kernel
theorem d_law_368 : decode code 368 = .ok (.iadd, 1) := by decide +kernel
theorem d_law_369 : decode code 369 = .ok (.iaload, 1) := by decide +kernel
theorem d_law_370 : decode code 370 = .ok (.aload_n 0, 1) := by decide +kernel
theorem d_law_371 : decode code 371 = .ok (.iload_n 3, 1) := by decide +kernel
theorem d_law_372 : decode code 372 = .ok (.iconst 2, 1) := by decide +kernel
theorem d_law_373 : decode code 373 = .ok (.iadd, 1) := by decide +kernel
theorem d_law_374 : decode code 374 = .ok (.iaload, 1) := by decide +kernel
theorem d_law_375 : decode code 375 = .ok (.aload_n 0, 1) := by decide +kernel
theorem d_law_376 : decode code 376 = .ok (.iload_n 3, 1) := by decide +kernel
theorem d_law_377 : decode code 377 = .ok (.iconst 3, 1) := by decide +kernel
theorem d_law_378 : decode code 378 = .ok (.iadd, 1) := by decide +kernel
theorem d_law_379 : decode code 379 = .ok (.iaload, 1) := by decide +kernel
theorem d_law_380 : decode code 380 = .ok (.invokevirtual 41, 3) := by decide +kernel
theorem d_law_383 : decode code 383 = .ok (.if_icmp .eq 995, 3) := by decide +kernel
theorem d_law_386 : decode code 386 = .ok (.iconst 0, 1) := by decide +kernel
theorem d_law_387 : decode code 387 = .ok (.ireturn, 1) := by decide +kernel
theorem d_law_388 : decode code 388 = .ok (.aload_n 1, 1) := by decide +kernel
theorem d_law_389 : decode code 389 = .ok (.aload_n 0, 1) := by decide +kernel
theorem d_law_390 : decode code 390 = .ok (.iload_n 3, 1) := by decide +kernel
theorem d_law_391 : decode code 391 = .ok (.iconst 1, 1) := by decide +kernel
theorem d_law_392 : decode code 392 = .ok (.iadd, 1) := by decide +kernel
theorem d_law_393 : decode code 393 = .ok (.iaload, 1) := by decide +kernel
theorem d_law_394 : decode code 394 = .ok (.aload_n 0, 1) := by decide +kernel
theorem d_law_395 : decode code 395 = .ok (.iload_n 3, 1) := by decide +kernel
theorem d_law_396 : decode code 396 = .ok (.iconst 2, 1) := by decide +kernel
theorem d_law_397 : decode code 397 = .ok (.iadd, 1) := by decide +kernel
theorem d_law_398 : decode code 398 = .ok (.iaload, 1) := by decide +kernel
theorem d_law_399 : decode code 399 = .ok (.aload_n 0, 1) := by decide +kernel
theorem d_law_400 : decode code 400 = .ok (.iload_n 3, 1) := by decide +kernel
theorem d_law_401 : decode code 401 = .ok (.iconst 3, 1) := by decide +kernel
theorem d_law_402 : decode code 402 = .ok (.iadd, 1) := by decide +kernel
theorem d_law_403 : decode code 403 = .ok (.iaload, 1) := by decide +kernel
theorem d_law_404 : decode code 404 = .ok (.ifCond .eq 7, 3) := by decide +kernel
theorem d_law_407 : decode code 407 = .ok (.iconst 1, 1) := by decide +kernel
theorem d_law_408 : decode code 408 = .ok (.goto 4, 3) := by decide +kernel
theorem d_law_411 : decode code 411 = .ok (.iconst 0, 1) := by decide +kernel
theorem d_law_412 : decode code 412 = .ok (.invokevirtual 42, 3) := by decide +kernel
theorem d_law_415 : decode code 415 = .ok (.aload_n 2, 1) := by decide +kernel
theorem d_law_416 : decode code 416 = .ok (.aload_n 0, 1) := by decide +kernel
theorem d_law_417 : decode code 417 = .ok (.iload_n 3, 1) := by decide +kernel
theorem d_law_418 : decode code 418 = .ok (.iconst 1, 1) := by decide +kernel
theorem d_law_419 : decode code 419 = .ok (.iadd, 1) := by decide +kernel
theorem d_law_420 : decode code 420 = .ok (.iaload, 1) := by decide +kernel
theorem d_law_421 : decode code 421 = .ok (.aload_n 0, 1) := by decide +kernel
theorem d_law_422 : decode code 422 = .ok (.iload_n 3, 1) := by decide +kernel
theorem d_law_423 : decode code 423 = .ok (.iconst 2, 1) := by decide +kernel
theorem d_law_424 : decode code 424 = .ok (.iadd, 1) := by decide +kernel
theorem d_law_425 : decode code 425 = .ok (.iaload, 1) := by decide +kernel
theorem d_law_426 : decode code 426 = .ok (.aload_n 0, 1) := by decide +kernel
theorem d_law_427 : decode code 427 = .ok (.iload_n 3, 1) := by decide +kernel
theorem d_law_428 : decode code 428 = .ok (.iconst 3, 1) := by decide +kernel
theorem d_law_429 : decode code 429 = .ok (.iadd, 1) := by decide +kernel
theorem d_law_430 : decode code 430 = .ok (.iaload, 1) := by decide +kernel
theorem d_law_431 : decode code 431 = .ok (.ifCond .eq 7, 3) := by decide +kernel
theorem d_law_434 : decode code 434 = .ok (.iconst 1, 1) := by decide +kernel
theorem d_law_435 : decode code 435 = .ok (.goto 4, 3) := by decide +kernel
theorem d_law_438 : decode code 438 = .ok (.iconst 0, 1) := by decide +kernel
theorem d_law_439 : decode code 439 = .ok (.invokevirtual 46, 3) := by decide +kernel
theorem d_law_442 : decode code 442 = .ok (.if_icmp .eq 936, 3) := by decide +kernel
theorem d_law_445 : decode code 445 = .ok (.iconst 0, 1) := by decide +kernel
theorem d_law_446 : decode code 446 = .ok (.ireturn, 1) := by decide +kernel
theorem d_law_447 : decode code 447 = .ok (.aload_n 1, 1) := by decide +kernel
theorem d_law_448 : decode code 448 = .ok (.aload_n 0, 1) := by decide +kernel
theorem d_law_449 : decode code 449 = .ok (.iload_n 3, 1) := by decide +kernel
theorem d_law_450 : decode code 450 = .ok (.iconst 1, 1) := by decide +kernel
theorem d_law_451 : decode code 451 = .ok (.iadd, 1) := by decide +kernel
theorem d_law_452 : decode code 452 = .ok (.iaload, 1) := by decide +kernel
theorem d_law_453 : decode code 453 = .ok (.aload_n 0, 1) := by decide +kernel
theorem d_law_454 : decode code 454 = .ok (.iload_n 3, 1) := by decide +kernel
theorem d_law_455 : decode code 455 = .ok (.iconst 2, 1) := by decide +kernel
theorem d_law_456 : decode code 456 = .ok (.iadd, 1) := by decide +kernel
theorem d_law_457 : decode code 457 = .ok (.iaload, 1) := by decide +kernel
theorem d_law_458 : decode code 458 = .ok (.invokevirtual 47, 3) := by decide +kernel
theorem d_law_461 : decode code 461 = .ok (.aload_n 2, 1) := by decide +kernel
theorem d_law_462 : decode code 462 = .ok (.aload_n 0, 1) := by decide +kernel
theorem d_law_463 : decode code 463 = .ok (.iload_n 3, 1) := by decide +kernel
theorem d_law_464 : decode code 464 = .ok (.iconst 1, 1) := by decide +kernel
theorem d_law_465 : decode code 465 = .ok (.iadd, 1) := by decide +kernel
theorem d_law_466 : decode code 466 = .ok (.iaload, 1) := by decide +kernel
theorem d_law_467 : decode code 467 = .ok (.aload_n 0, 1) := by decide +kernel
theorem d_law_468 : decode code 468 = .ok (.iload_n 3, 1) := by decide +kernel
theorem d_law_469 : decode code 469 = .ok (.iconst 2, 1) := by decide +kernel
theorem d_law_470 : decode code 470 = .ok (.iadd, 1) := by decide +kernel
theorem d_law_471 : decode code 471 = .ok (.iaload, 1) := by decide +kernel
theorem d_law_472 : decode code 472 = .ok (.invokevirtual 51, 3) := by decide +kernel
theorem d_law_475 : decode code 475 = .ok (.if_icmp .eq 903, 3) := by decide +kernel
theorem d_law_478 : decode code 478 = .ok (.iconst 0, 1) := by decide +kernel
theorem d_law_479 : decode code 479 = .ok (.ireturn, 1) := by decide +kernel
theorem d_law_480 : decode code 480 = .ok (.aload_n 1, 1) := by decide +kernel
theorem d_law_481 : decode code 481 = .ok (.aload_n 0, 1) := by decide +kernel
theorem d_law_482 : decode code 482 = .ok (.iload_n 3, 1) := by decide +kernel
theorem d_law_483 : decode code 483 = .ok (.iconst 1, 1) := by decide +kernel
theorem d_law_484 : decode code 484 = .ok (.iadd, 1) := by decide +kernel
theorem d_law_485 : decode code 485 = .ok (.iaload, 1) := by decide +kernel
theorem d_law_486 : decode code 486 = .ok (.invokevirtual 52, 3) := by decide +kernel
theorem d_law_489 : decode code 489 = .ok (.aload_n 2, 1) := by decide +kernel
theorem d_law_490 : decode code 490 = .ok (.aload_n 0, 1) := by decide +kernel
theorem d_law_491 : decode code 491 = .ok (.iload_n 3, 1) := by decide +kernel
theorem d_law_492 : decode code 492 = .ok (.iconst 1, 1) := by decide +kernel
theorem d_law_493 : decode code 493 = .ok (.iadd, 1) := by decide +kernel
theorem d_law_494 : decode code 494 = .ok (.iaload, 1) := by decide +kernel
theorem d_law_495 : decode code 495 = .ok (.invokevirtual 55, 3) := by decide +kernel
theorem d_law_498 : decode code 498 = .ok (.if_icmp .eq 880, 3) := by decide +kernel
theorem d_law_501 : decode code 501 = .ok (.iconst 0, 1) := by decide +kernel
theorem d_law_502 : decode code 502 = .ok (.ireturn, 1) := by decide +kernel
theorem d_law_503 : decode code 503 = .ok (.aload_n 1, 1) := by decide +kernel
theorem d_law_504 : decode code 504 = .ok (.aload_n 0, 1) := by decide +kernel
theorem d_law_505 : decode code 505 = .ok (.iload_n 3, 1) := by decide +kernel
theorem d_law_506 : decode code 506 = .ok (.iconst 1, 1) := by decide +kernel
theorem d_law_507 : decode code 507 = .ok (.iadd, 1) := by decide +kernel
theorem d_law_508 : decode code 508 = .ok (.iaload, 1) := by decide +kernel
theorem d_law_509 : decode code 509 = .ok (.aload_n 0, 1) := by decide +kernel
theorem d_law_510 : decode code 510 = .ok (.iload_n 3, 1) := by decide +kernel
theorem d_law_511 : decode code 511 = .ok (.iconst 2, 1) := by decide +kernel
theorem d_law_512 : decode code 512 = .ok (.iadd, 1) := by decide +kernel
theorem d_law_513 : decode code 513 = .ok (.iaload, 1) := by decide +kernel
theorem d_law_514 : decode code 514 = .ok (.aload_n 0, 1) := by decide +kernel
theorem d_law_515 : decode code 515 = .ok (.iload_n 3, 1) := by decide +kernel
theorem d_law_516 : decode code 516 = .ok (.iconst 3, 1) := by decide +kernel
theorem d_law_517 : decode code 517 = .ok (.iadd, 1) := by decide +kernel
theorem d_law_518 : decode code 518 = .ok (.iaload, 1) := by decide +kernel
theorem d_law_519 : decode code 519 = .ok (.invokevirtual 56, 3) := by decide +kernel
theorem d_law_522 : decode code 522 = .ok (.aload_n 2, 1) := by decide +kernel
theorem d_law_523 : decode code 523 = .ok (.aload_n 0, 1) := by decide +kernel
theorem d_law_524 : decode code 524 = .ok (.iload_n 3, 1) := by decide +kernel
theorem d_law_525 : decode code 525 = .ok (.iconst 1, 1) := by decide +kernel
theorem d_law_526 : decode code 526 = .ok (.iadd, 1) := by decide +kernel
theorem d_law_527 : decode code 527 = .ok (.iaload, 1) := by decide +kernel
theorem d_law_528 : decode code 528 = .ok (.aload_n 0, 1) := by decide +kernel
theorem d_law_529 : decode code 529 = .ok (.iload_n 3, 1) := by decide +kernel
theorem d_law_530 : decode code 530 = .ok (.iconst 2, 1) := by decide +kernel
theorem d_law_531 : decode code 531 = .ok (.iadd, 1) := by decide +kernel
theorem d_law_532 : decode code 532 = .ok (.iaload, 1) := by decide +kernel
theorem d_law_533 : decode code 533 = .ok (.aload_n 0, 1) := by decide +kernel
theorem d_law_534 : decode code 534 = .ok (.iload_n 3, 1) := by decide +kernel
theorem d_law_535 : decode code 535 = .ok (.iconst 3, 1) := by decide +kernel
theorem d_law_536 : decode code 536 = .ok (.iadd, 1) := by decide +kernel
theorem d_law_537 : decode code 537 = .ok (.iaload, 1) := by decide +kernel
theorem d_law_538 : decode code 538 = .ok (.invokevirtual 59, 3) := by decide +kernel
theorem d_law_541 : decode code 541 = .ok (.if_icmp .eq 837, 3) := by decide +kernel
theorem d_law_544 : decode code 544 = .ok (.iconst 0, 1) := by decide +kernel
theorem d_law_545 : decode code 545 = .ok (.ireturn, 1) := by decide +kernel
theorem d_law_546 : decode code 546 = .ok (.aload_n 1, 1) := by decide +kernel
theorem d_law_547 : decode code 547 = .ok (.aload_n 0, 1) := by decide +kernel
theorem d_law_548 : decode code 548 = .ok (.iload_n 3, 1) := by decide +kernel
theorem d_law_549 : decode code 549 = .ok (.iconst 1, 1) := by decide +kernel
theorem d_law_550 : decode code 550 = .ok (.iadd, 1) := by decide +kernel
theorem d_law_551 : decode code 551 = .ok (.iaload, 1) := by decide +kernel
theorem d_law_552 : decode code 552 = .ok (.ifCond .eq 7, 3) := by decide +kernel
theorem d_law_555 : decode code 555 = .ok (.iconst 1, 1) := by decide +kernel
theorem d_law_556 : decode code 556 = .ok (.goto 4, 3) := by decide +kernel
theorem d_law_559 : decode code 559 = .ok (.iconst 0, 1) := by decide +kernel
theorem d_law_560 : decode code 560 = .ok (.invokevirtual 60, 3) := by decide +kernel
theorem d_law_563 : decode code 563 = .ok (.aload_n 2, 1) := by decide +kernel
theorem d_law_564 : decode code 564 = .ok (.aload_n 0, 1) := by decide +kernel
theorem d_law_565 : decode code 565 = .ok (.iload_n 3, 1) := by decide +kernel
theorem d_law_566 : decode code 566 = .ok (.iconst 1, 1) := by decide +kernel
theorem d_law_567 : decode code 567 = .ok (.iadd, 1) := by decide +kernel
theorem d_law_568 : decode code 568 = .ok (.iaload, 1) := by decide +kernel
theorem d_law_569 : decode code 569 = .ok (.ifCond .eq 7, 3) := by decide +kernel
theorem d_law_572 : decode code 572 = .ok (.iconst 1, 1) := by decide +kernel
theorem d_law_573 : decode code 573 = .ok (.goto 4, 3) := by decide +kernel
theorem d_law_576 : decode code 576 = .ok (.iconst 0, 1) := by decide +kernel
theorem d_law_577 : decode code 577 = .ok (.invokevirtual 64, 3) := by decide +kernel
theorem d_law_580 : decode code 580 = .ok (.lcmp, 1) := by decide +kernel
theorem d_law_581 : decode code 581 = .ok (.ifCond .eq 797, 3) := by decide +kernel
theorem d_law_584 : decode code 584 = .ok (.iconst 0, 1) := by decide +kernel
theorem d_law_585 : decode code 585 = .ok (.ireturn, 1) := by decide +kernel
theorem d_law_586 : decode code 586 = .ok (.aload_n 1, 1) := by decide +kernel
theorem d_law_587 : decode code 587 = .ok (.invokevirtual 65, 3) := by decide +kernel
theorem d_law_590 : decode code 590 = .ok (.aload_n 2, 1) := by decide +kernel
theorem d_law_591 : decode code 591 = .ok (.invokevirtual 69, 3) := by decide +kernel
theorem d_law_594 : decode code 594 = .ok (.lcmp, 1) := by decide +kernel
theorem d_law_595 : decode code 595 = .ok (.ifCond .eq 783, 3) := by decide +kernel
theorem d_law_598 : decode code 598 = .ok (.iconst 0, 1) := by decide +kernel
theorem d_law_599 : decode code 599 = .ok (.ireturn, 1) := by decide +kernel
theorem d_law_600 : decode code 600 = .ok (.aload_n 1, 1) := by decide +kernel
theorem d_law_601 : decode code 601 = .ok (.aload_n 0, 1) := by decide +kernel
theorem d_law_602 : decode code 602 = .ok (.iload_n 3, 1) := by decide +kernel
theorem d_law_603 : decode code 603 = .ok (.iconst 1, 1) := by decide +kernel
theorem d_law_604 : decode code 604 = .ok (.iadd, 1) := by decide +kernel
theorem d_law_605 : decode code 605 = .ok (.iaload, 1) := by decide +kernel
theorem d_law_606 : decode code 606 = .ok (.ifCond .eq 7, 3) := by decide +kernel
theorem d_law_609 : decode code 609 = .ok (.iconst 1, 1) := by decide +kernel
theorem d_law_610 : decode code 610 = .ok (.goto 4, 3) := by decide +kernel
theorem d_law_613 : decode code 613 = .ok (.iconst 0, 1) := by decide +kernel
theorem d_law_614 : decode code 614 = .ok (.invokevirtual 70, 3) := by decide +kernel
theorem d_law_617 : decode code 617 = .ok (.aload_n 2, 1) := by decide +kernel
theorem d_law_618 : decode code 618 = .ok (.aload_n 0, 1) := by decide +kernel
theorem d_law_619 : decode code 619 = .ok (.iload_n 3, 1) := by decide +kernel
theorem d_law_620 : decode code 620 = .ok (.iconst 1, 1) := by decide +kernel
theorem d_law_621 : decode code 621 = .ok (.iadd, 1) := by decide +kernel
theorem d_law_622 : decode code 622 = .ok (.iaload, 1) := by decide +kernel
theorem d_law_623 : decode code 623 = .ok (.ifCond .eq 7, 3) := by decide +kernel
theorem d_law_626 : decode code 626 = .ok (.iconst 1, 1) := by decide +kernel
theorem d_law_627 : decode code 627 = .ok (.goto 4, 3) := by decide +kernel
theorem d_law_630 : decode code 630 = .ok (.iconst 0, 1) := by decide +kernel
theorem d_law_631 : decode code 631 = .ok (.invokevirtual 73, 3) := by decide +kernel
theorem d_law_634 : decode code 634 = .ok (.lcmp, 1) := by decide +kernel
theorem d_law_635 : decode code 635 = .ok (.ifCond .eq 743, 3) := by decide +kernel
theorem d_law_638 : decode code 638 = .ok (.iconst 0, 1) := by decide +kernel
theorem d_law_639 : decode code 639 = .ok (.ireturn, 1) := by decide +kernel
theorem d_law_640 : decode code 640 = .ok (.aload_n 1, 1) := by decide +kernel
theorem d_law_641 : decode code 641 = .ok (.aload_n 0, 1) := by decide +kernel
theorem d_law_642 : decode code 642 = .ok (.iload_n 3, 1) := by decide +kernel
theorem d_law_643 : decode code 643 = .ok (.iconst 1, 1) := by decide +kernel
theorem d_law_644 : decode code 644 = .ok (.iadd, 1) := by decide +kernel
theorem d_law_645 : decode code 645 = .ok (.iaload, 1) := by decide +kernel
theorem d_law_646 : decode code 646 = .ok (.aload_n 0, 1) := by decide +kernel
theorem d_law_647 : decode code 647 = .ok (.iload_n 3, 1) := by decide +kernel
theorem d_law_648 : decode code 648 = .ok (.iconst 2, 1) := by decide +kernel
theorem d_law_649 : decode code 649 = .ok (.iadd, 1) := by decide +kernel
theorem d_law_650 : decode code 650 = .ok (.iaload, 1) := by decide +kernel
theorem d_law_651 : decode code 651 = .ok (.invokevirtual 74, 3) := by decide +kernel
theorem d_law_654 : decode code 654 = .ok (.aload_n 2, 1) := by decide +kernel
theorem d_law_655 : decode code 655 = .ok (.aload_n 0, 1) := by decide +kernel
theorem d_law_656 : decode code 656 = .ok (.iload_n 3, 1) := by decide +kernel
theorem d_law_657 : decode code 657 = .ok (.iconst 1, 1) := by decide +kernel
theorem d_law_658 : decode code 658 = .ok (.iadd, 1) := by decide +kernel
theorem d_law_659 : decode code 659 = .ok (.iaload, 1) := by decide +kernel
theorem d_law_660 : decode code 660 = .ok (.aload_n 0, 1) := by decide +kernel
theorem d_law_661 : decode code 661 = .ok (.iload_n 3, 1) := by decide +kernel
theorem d_law_662 : decode code 662 = .ok (.iconst 2, 1) := by decide +kernel
theorem d_law_663 : decode code 663 = .ok (.iadd, 1) := by decide +kernel
theorem d_law_664 : decode code 664 = .ok (.iaload, 1) := by decide +kernel
theorem d_law_665 : decode code 665 = .ok (.invokevirtual 77, 3) := by decide +kernel
theorem d_law_668 : decode code 668 = .ok (.if_icmp .eq 710, 3) := by decide +kernel
theorem d_law_671 : decode code 671 = .ok (.iconst 0, 1) := by decide +kernel
theorem d_law_672 : decode code 672 = .ok (.ireturn, 1) := by decide +kernel
theorem d_law_673 : decode code 673 = .ok (.aload_n 1, 1) := by decide +kernel
theorem d_law_674 : decode code 674 = .ok (.aload_n 0, 1) := by decide +kernel
theorem d_law_675 : decode code 675 = .ok (.iload_n 3, 1) := by decide +kernel
theorem d_law_676 : decode code 676 = .ok (.iconst 1, 1) := by decide +kernel
theorem d_law_677 : decode code 677 = .ok (.iadd, 1) := by decide +kernel
theorem d_law_678 : decode code 678 = .ok (.iaload, 1) := by decide +kernel
theorem d_law_679 : decode code 679 = .ok (.aload_n 0, 1) := by decide +kernel
theorem d_law_680 : decode code 680 = .ok (.iload_n 3, 1) := by decide +kernel
theorem d_law_681 : decode code 681 = .ok (.iconst 2, 1) := by decide +kernel
theorem d_law_682 : decode code 682 = .ok (.iadd, 1) := by decide +kernel
theorem d_law_683 : decode code 683 = .ok (.iaload, 1) := by decide +kernel
theorem d_law_684 : decode code 684 = .ok (.aload_n 0, 1) := by decide +kernel
theorem d_law_685 : decode code 685 = .ok (.iload_n 3, 1) := by decide +kernel
theorem d_law_686 : decode code 686 = .ok (.iconst 3, 1) := by decide +kernel
theorem d_law_687 : decode code 687 = .ok (.iadd, 1) := by decide +kernel
theorem d_law_688 : decode code 688 = .ok (.iaload, 1) := by decide +kernel
theorem d_law_689 : decode code 689 = .ok (.invokevirtual 78, 3) := by decide +kernel
theorem d_law_692 : decode code 692 = .ok (.aload_n 2, 1) := by decide +kernel
theorem d_law_693 : decode code 693 = .ok (.aload_n 0, 1) := by decide +kernel
theorem d_law_694 : decode code 694 = .ok (.iload_n 3, 1) := by decide +kernel
theorem d_law_695 : decode code 695 = .ok (.iconst 1, 1) := by decide +kernel
theorem d_law_696 : decode code 696 = .ok (.iadd, 1) := by decide +kernel
theorem d_law_697 : decode code 697 = .ok (.iaload, 1) := by decide +kernel
theorem d_law_698 : decode code 698 = .ok (.aload_n 0, 1) := by decide +kernel
theorem d_law_699 : decode code 699 = .ok (.iload_n 3, 1) := by decide +kernel
theorem d_law_700 : decode code 700 = .ok (.iconst 2, 1) := by decide +kernel
theorem d_law_701 : decode code 701 = .ok (.iadd, 1) := by decide +kernel
theorem d_law_702 : decode code 702 = .ok (.iaload, 1) := by decide +kernel
theorem d_law_703 : decode code 703 = .ok (.aload_n 0, 1) := by decide +kernel
theorem d_law_704 : decode code 704 = .ok (.iload_n 3, 1) := by decide +kernel
theorem d_law_705 : decode code 705 = .ok (.iconst 3, 1) := by decide +kernel
theorem d_law_706 : decode code 706 = .ok (.iadd, 1) := by decide +kernel
theorem d_law_707 : decode code 707 = .ok (.iaload, 1) := by decide +kernel
theorem d_law_708 : decode code 708 = .ok (.invokevirtual 81, 3) := by decide +kernel
theorem d_law_711 : decode code 711 = .ok (.if_icmp .eq 667, 3) := by decide +kernel
theorem d_law_714 : decode code 714 = .ok (.iconst 0, 1) := by decide +kernel
theorem d_law_715 : decode code 715 = .ok (.ireturn, 1) := by decide +kernel
theorem d_law_716 : decode code 716 = .ok (.aload_n 1, 1) := by decide +kernel
theorem d_law_717 : decode code 717 = .ok (.aload_n 0, 1) := by decide +kernel
theorem d_law_718 : decode code 718 = .ok (.iload_n 3, 1) := by decide +kernel
theorem d_law_719 : decode code 719 = .ok (.iconst 1, 1) := by decide +kernel
theorem d_law_720 : decode code 720 = .ok (.iadd, 1) := by decide +kernel
theorem d_law_721 : decode code 721 = .ok (.iaload, 1) := by decide +kernel
theorem d_law_722 : decode code 722 = .ok (.aload_n 0, 1) := by decide +kernel
theorem d_law_723 : decode code 723 = .ok (.iload_n 3, 1) := by decide +kernel
theorem d_law_724 : decode code 724 = .ok (.iconst 2, 1) := by decide +kernel
theorem d_law_725 : decode code 725 = .ok (.iadd, 1) := by decide +kernel
theorem d_law_726 : decode code 726 = .ok (.iaload, 1) := by decide +kernel
theorem d_law_727 : decode code 727 = .ok (.invokevirtual 82, 3) := by decide +kernel
theorem d_law_730 : decode code 730 = .ok (.aload_n 2, 1) := by decide +kernel
theorem d_law_731 : decode code 731 = .ok (.aload_n 0, 1) := by decide +kernel
theorem d_law_732 : decode code 732 = .ok (.iload_n 3, 1) := by decide +kernel
theorem d_law_733 : decode code 733 = .ok (.iconst 1, 1) := by decide +kernel
theorem d_law_734 : decode code 734 = .ok (.iadd, 1) := by decide +kernel
theorem d_law_735 : decode code 735 = .ok (.iaload, 1) := by decide +kernel
theorem d_law_736 : decode code 736 = .ok (.aload_n 0, 1) := by decide +kernel
theorem d_law_737 : decode code 737 = .ok (.iload_n 3, 1) := by decide +kernel
theorem d_law_738 : decode code 738 = .ok (.iconst 2, 1) := by decide +kernel
theorem d_law_739 : decode code 739 = .ok (.iadd, 1) := by decide +kernel
theorem d_law_740 : decode code 740 = .ok (.iaload, 1) := by decide +kernel
theorem d_law_741 : decode code 741 = .ok (.invokevirtual 85, 3) := by decide +kernel
theorem d_law_744 : decode code 744 = .ok (.if_icmp .eq 634, 3) := by decide +kernel
theorem d_law_747 : decode code 747 = .ok (.iconst 0, 1) := by decide +kernel
theorem d_law_748 : decode code 748 = .ok (.ireturn, 1) := by decide +kernel
theorem d_law_749 : decode code 749 = .ok (.aload_n 1, 1) := by decide +kernel
theorem d_law_750 : decode code 750 = .ok (.aload_n 0, 1) := by decide +kernel
theorem d_law_751 : decode code 751 = .ok (.iload_n 3, 1) := by decide +kernel
theorem d_law_752 : decode code 752 = .ok (.iconst 1, 1) := by decide +kernel
theorem d_law_753 : decode code 753 = .ok (.iadd, 1) := by decide +kernel
theorem d_law_754 : decode code 754 = .ok (.iaload, 1) := by decide +kernel
theorem d_law_755 : decode code 755 = .ok (.invokevirtual 86, 3) := by decide +kernel
theorem d_law_758 : decode code 758 = .ok (.aload_n 2, 1) := by decide +kernel
theorem d_law_759 : decode code 759 = .ok (.aload_n 0, 1) := by decide +kernel
theorem d_law_760 : decode code 760 = .ok (.iload_n 3, 1) := by decide +kernel
theorem d_law_761 : decode code 761 = .ok (.iconst 1, 1) := by decide +kernel
theorem d_law_762 : decode code 762 = .ok (.iadd, 1) := by decide +kernel
theorem d_law_763 : decode code 763 = .ok (.iaload, 1) := by decide +kernel
theorem d_law_764 : decode code 764 = .ok (.invokevirtual 89, 3) := by decide +kernel
theorem d_law_767 : decode code 767 = .ok (.if_icmp .eq 611, 3) := by decide +kernel
theorem d_law_770 : decode code 770 = .ok (.iconst 0, 1) := by decide +kernel
theorem d_law_771 : decode code 771 = .ok (.ireturn, 1) := by decide +kernel
theorem d_law_772 : decode code 772 = .ok (.aload_n 1, 1) := by decide +kernel
theorem d_law_773 : decode code 773 = .ok (.aload_n 0, 1) := by decide +kernel
theorem d_law_774 : decode code 774 = .ok (.iload_n 3, 1) := by decide +kernel
theorem d_law_775 : decode code 775 = .ok (.iconst 1, 1) := by decide +kernel
theorem d_law_776 : decode code 776 = .ok (.iadd, 1) := by decide +kernel
theorem d_law_777 : decode code 777 = .ok (.iaload, 1) := by decide +kernel
theorem d_law_778 : decode code 778 = .ok (.aload_n 0, 1) := by decide +kernel
theorem d_law_779 : decode code 779 = .ok (.iload_n 3, 1) := by decide +kernel
theorem d_law_780 : decode code 780 = .ok (.iconst 2, 1) := by decide +kernel
theorem d_law_781 : decode code 781 = .ok (.iadd, 1) := by decide +kernel
theorem d_law_782 : decode code 782 = .ok (.iaload, 1) := by decide +kernel
theorem d_law_783 : decode code 783 = .ok (.invokevirtual 90, 3) := by decide +kernel
theorem d_law_786 : decode code 786 = .ok (.aload_n 2, 1) := by decide +kernel
theorem d_law_787 : decode code 787 = .ok (.aload_n 0, 1) := by decide +kernel
theorem d_law_788 : decode code 788 = .ok (.iload_n 3, 1) := by decide +kernel
theorem d_law_789 : decode code 789 = .ok (.iconst 1, 1) := by decide +kernel
theorem d_law_790 : decode code 790 = .ok (.iadd, 1) := by decide +kernel
theorem d_law_791 : decode code 791 = .ok (.iaload, 1) := by decide +kernel
theorem d_law_792 : decode code 792 = .ok (.aload_n 0, 1) := by decide +kernel
theorem d_law_793 : decode code 793 = .ok (.iload_n 3, 1) := by decide +kernel
theorem d_law_794 : decode code 794 = .ok (.iconst 2, 1) := by decide +kernel
theorem d_law_795 : decode code 795 = .ok (.iadd, 1) := by decide +kernel
theorem d_law_796 : decode code 796 = .ok (.iaload, 1) := by decide +kernel
theorem d_law_797 : decode code 797 = .ok (.invokevirtual 93, 3) := by decide +kernel
theorem d_law_800 : decode code 800 = .ok (.if_icmp .eq 578, 3) := by decide +kernel
theorem d_law_803 : decode code 803 = .ok (.iconst 0, 1) := by decide +kernel
theorem d_law_804 : decode code 804 = .ok (.ireturn, 1) := by decide +kernel
theorem d_law_805 : decode code 805 = .ok (.aload_n 1, 1) := by decide +kernel
theorem d_law_806 : decode code 806 = .ok (.aload_n 0, 1) := by decide +kernel
theorem d_law_807 : decode code 807 = .ok (.iload_n 3, 1) := by decide +kernel
theorem d_law_808 : decode code 808 = .ok (.iconst 1, 1) := by decide +kernel
theorem d_law_809 : decode code 809 = .ok (.iadd, 1) := by decide +kernel
theorem d_law_810 : decode code 810 = .ok (.iaload, 1) := by decide +kernel
theorem d_law_811 : decode code 811 = .ok (.invokevirtual 94, 3) := by decide +kernel
theorem d_law_814 : decode code 814 = .ok (.aload_n 2, 1) := by decide +kernel
theorem d_law_815 : decode code 815 = .ok (.aload_n 0, 1) := by decide +kernel
theorem d_law_816 : decode code 816 = .ok (.iload_n 3, 1) := by decide +kernel
theorem d_law_817 : decode code 817 = .ok (.iconst 1, 1) := by decide +kernel
theorem d_law_818 : decode code 818 = .ok (.iadd, 1) := by decide +kernel
theorem d_law_819 : decode code 819 = .ok (.iaload, 1) := by decide +kernel
theorem d_law_820 : decode code 820 = .ok (.invokevirtual 97, 3) := by decide +kernel
theorem d_law_823 : decode code 823 = .ok (.if_icmp .eq 555, 3) := by decide +kernel
theorem d_law_826 : decode code 826 = .ok (.iconst 0, 1) := by decide +kernel
theorem d_law_827 : decode code 827 = .ok (.ireturn, 1) := by decide +kernel
theorem d_law_828 : decode code 828 = .ok (.aload_n 1, 1) := by decide +kernel
theorem d_law_829 : decode code 829 = .ok (.aload_n 0, 1) := by decide +kernel
theorem d_law_830 : decode code 830 = .ok (.iload_n 3, 1) := by decide +kernel
theorem d_law_831 : decode code 831 = .ok (.iconst 1, 1) := by decide +kernel
theorem d_law_832 : decode code 832 = .ok (.iadd, 1) := by decide +kernel
theorem d_law_833 : decode code 833 = .ok (.iaload, 1) := by decide +kernel
theorem d_law_834 : decode code 834 = .ok (.invokevirtual 98, 3) := by decide +kernel
theorem d_law_837 : decode code 837 = .ok (.aload_n 2, 1) := by decide +kernel
theorem d_law_838 : decode code 838 = .ok (.aload_n 0, 1) := by decide +kernel
theorem d_law_839 : decode code 839 = .ok (.iload_n 3, 1) := by decide +kernel
theorem d_law_840 : decode code 840 = .ok (.iconst 1, 1) := by decide +kernel
theorem d_law_841 : decode code 841 = .ok (.iadd, 1) := by decide +kernel
theorem d_law_842 : decode code 842 = .ok (.iaload, 1) := by decide +kernel
theorem d_law_843 : decode code 843 = .ok (.invokevirtual 101, 3) := by decide +kernel
theorem d_law_846 : decode code 846 = .ok (.if_icmp .eq 532, 3) := by decide +kernel
theorem d_law_849 : decode code 849 = .ok (.iconst 0, 1) := by decide +kernel
theorem d_law_850 : decode code 850 = .ok (.ireturn, 1) := by decide +kernel
theorem d_law_851 : decode code 851 = .ok (.aload_n 1, 1) := by decide +kernel
theorem d_law_852 : decode code 852 = .ok (.aload_n 0, 1) := by decide +kernel
theorem d_law_853 : decode code 853 = .ok (.iload_n 3, 1) := by decide +kernel
theorem d_law_854 : decode code 854 = .ok (.iconst 1, 1) := by decide +kernel
theorem d_law_855 : decode code 855 = .ok (.iadd, 1) := by decide +kernel
theorem d_law_856 : decode code 856 = .ok (.iaload, 1) := by decide +kernel
theorem d_law_857 : decode code 857 = .ok (.aload_n 0, 1) := by decide +kernel
theorem d_law_858 : decode code 858 = .ok (.iload_n 3, 1) := by decide +kernel
theorem d_law_859 : decode code 859 = .ok (.iconst 2, 1) := by decide +kernel
theorem d_law_860 : decode code 860 = .ok (.iadd, 1) := by decide +kernel
theorem d_law_861 : decode code 861 = .ok (.iaload, 1) := by decide +kernel
theorem d_law_862 : decode code 862 = .ok (.invokevirtual 102, 3) := by decide +kernel
theorem d_law_865 : decode code 865 = .ok (.aload_n 2, 1) := by decide +kernel
theorem d_law_866 : decode code 866 = .ok (.aload_n 0, 1) := by decide +kernel
theorem d_law_867 : decode code 867 = .ok (.iload_n 3, 1) := by decide +kernel
theorem d_law_868 : decode code 868 = .ok (.iconst 1, 1) := by decide +kernel
theorem d_law_869 : decode code 869 = .ok (.iadd, 1) := by decide +kernel
theorem d_law_870 : decode code 870 = .ok (.iaload, 1) := by decide +kernel
theorem d_law_871 : decode code 871 = .ok (.aload_n 0, 1) := by decide +kernel
theorem d_law_872 : decode code 872 = .ok (.iload_n 3, 1) := by decide +kernel
theorem d_law_873 : decode code 873 = .ok (.iconst 2, 1) := by decide +kernel
theorem d_law_874 : decode code 874 = .ok (.iadd, 1) := by decide +kernel
theorem d_law_875 : decode code 875 = .ok (.iaload, 1) := by decide +kernel
theorem d_law_876 : decode code 876 = .ok (.invokevirtual 105, 3) := by decide +kernel
theorem d_law_879 : decode code 879 = .ok (.if_icmp .eq 499, 3) := by decide +kernel
theorem d_law_882 : decode code 882 = .ok (.iconst 0, 1) := by decide +kernel
theorem d_law_883 : decode code 883 = .ok (.ireturn, 1) := by decide +kernel
theorem d_law_884 : decode code 884 = .ok (.aload_n 1, 1) := by decide +kernel
theorem d_law_885 : decode code 885 = .ok (.aload_n 0, 1) := by decide +kernel
theorem d_law_886 : decode code 886 = .ok (.iload_n 3, 1) := by decide +kernel
theorem d_law_887 : decode code 887 = .ok (.iconst 1, 1) := by decide +kernel
theorem d_law_888 : decode code 888 = .ok (.iadd, 1) := by decide +kernel
theorem d_law_889 : decode code 889 = .ok (.iaload, 1) := by decide +kernel
theorem d_law_890 : decode code 890 = .ok (.invokevirtual 106, 3) := by decide +kernel
theorem d_law_893 : decode code 893 = .ok (.aload_n 2, 1) := by decide +kernel
theorem d_law_894 : decode code 894 = .ok (.aload_n 0, 1) := by decide +kernel
theorem d_law_895 : decode code 895 = .ok (.iload_n 3, 1) := by decide +kernel
theorem d_law_896 : decode code 896 = .ok (.iconst 1, 1) := by decide +kernel
theorem d_law_897 : decode code 897 = .ok (.iadd, 1) := by decide +kernel
theorem d_law_898 : decode code 898 = .ok (.iaload, 1) := by decide +kernel
theorem d_law_899 : decode code 899 = .ok (.invokevirtual 109, 3) := by decide +kernel
theorem d_law_902 : decode code 902 = .ok (.if_icmp .eq 476, 3) := by decide +kernel
theorem d_law_905 : decode code 905 = .ok (.iconst 0, 1) := by decide +kernel
theorem d_law_906 : decode code 906 = .ok (.ireturn, 1) := by decide +kernel
theorem d_law_907 : decode code 907 = .ok (.aload_n 1, 1) := by decide +kernel
theorem d_law_908 : decode code 908 = .ok (.aload_n 0, 1) := by decide +kernel
theorem d_law_909 : decode code 909 = .ok (.iload_n 3, 1) := by decide +kernel
theorem d_law_910 : decode code 910 = .ok (.iconst 1, 1) := by decide +kernel
theorem d_law_911 : decode code 911 = .ok (.iadd, 1) := by decide +kernel
theorem d_law_912 : decode code 912 = .ok (.iaload, 1) := by decide +kernel
theorem d_law_913 : decode code 913 = .ok (.invokevirtual 110, 3) := by decide +kernel
theorem d_law_916 : decode code 916 = .ok (.aload_n 2, 1) := by decide +kernel
theorem d_law_917 : decode code 917 = .ok (.aload_n 0, 1) := by decide +kernel
theorem d_law_918 : decode code 918 = .ok (.iload_n 3, 1) := by decide +kernel
theorem d_law_919 : decode code 919 = .ok (.iconst 1, 1) := by decide +kernel
theorem d_law_920 : decode code 920 = .ok (.iadd, 1) := by decide +kernel
theorem d_law_921 : decode code 921 = .ok (.iaload, 1) := by decide +kernel
theorem d_law_922 : decode code 922 = .ok (.invokevirtual 113, 3) := by decide +kernel
theorem d_law_925 : decode code 925 = .ok (.if_icmp .eq 453, 3) := by decide +kernel
theorem d_law_928 : decode code 928 = .ok (.iconst 0, 1) := by decide +kernel
theorem d_law_929 : decode code 929 = .ok (.ireturn, 1) := by decide +kernel
theorem d_law_930 : decode code 930 = .ok (.aload_n 1, 1) := by decide +kernel
theorem d_law_931 : decode code 931 = .ok (.aload_n 0, 1) := by decide +kernel
theorem d_law_932 : decode code 932 = .ok (.iload_n 3, 1) := by decide +kernel
theorem d_law_933 : decode code 933 = .ok (.iconst 1, 1) := by decide +kernel
theorem d_law_934 : decode code 934 = .ok (.iadd, 1) := by decide +kernel
theorem d_law_935 : decode code 935 = .ok (.iaload, 1) := by decide +kernel
theorem d_law_936 : decode code 936 = .ok (.invokevirtual 114, 3) := by decide +kernel
theorem d_law_939 : decode code 939 = .ok (.aload_n 2, 1) := by decide +kernel
theorem d_law_940 : decode code 940 = .ok (.aload_n 0, 1) := by decide +kernel
theorem d_law_941 : decode code 941 = .ok (.iload_n 3, 1) := by decide +kernel
theorem d_law_942 : decode code 942 = .ok (.iconst 1, 1) := by decide +kernel
theorem d_law_943 : decode code 943 = .ok (.iadd, 1) := by decide +kernel
theorem d_law_944 : decode code 944 = .ok (.iaload, 1) := by decide +kernel
theorem d_law_945 : decode code 945 = .ok (.invokevirtual 117, 3) := by decide +kernel
theorem d_law_948 : decode code 948 = .ok (.if_icmp .eq 430, 3) := by decide +kernel
theorem d_law_951 : decode code 951 = .ok (.iconst 0, 1) := by decide +kernel
theorem d_law_952 : decode code 952 = .ok (.ireturn, 1) := by decide +kernel
theorem d_law_953 : decode code 953 = .ok (.aload_n 1, 1) := by decide +kernel
theorem d_law_954 : decode code 954 = .ok (.aload_n 0, 1) := by decide +kernel
theorem d_law_955 : decode code 955 = .ok (.iload_n 3, 1) := by decide +kernel
theorem d_law_956 : decode code 956 = .ok (.iconst 1, 1) := by decide +kernel
theorem d_law_957 : decode code 957 = .ok (.iadd, 1) := by decide +kernel
theorem d_law_958 : decode code 958 = .ok (.iaload, 1) := by decide +kernel
theorem d_law_959 : decode code 959 = .ok (.aload_n 0, 1) := by decide +kernel
theorem d_law_960 : decode code 960 = .ok (.iload_n 3, 1) := by decide +kernel
theorem d_law_961 : decode code 961 = .ok (.iconst 2, 1) := by decide +kernel
theorem d_law_962 : decode code 962 = .ok (.iadd, 1) := by decide +kernel
theorem d_law_963 : decode code 963 = .ok (.iaload, 1) := by decide +kernel
theorem d_law_964 : decode code 964 = .ok (.aload_n 0, 1) := by decide +kernel
theorem d_law_965 : decode code 965 = .ok (.iload_n 3, 1) := by decide +kernel
theorem d_law_966 : decode code 966 = .ok (.iconst 3, 1) := by decide +kernel
theorem d_law_967 : decode code 967 = .ok (.iadd, 1) := by decide +kernel
theorem d_law_968 : decode code 968 = .ok (.iaload, 1) := by decide +kernel
theorem d_law_969 : decode code 969 = .ok (.aload_n 0, 1) := by decide +kernel
theorem d_law_970 : decode code 970 = .ok (.iload_n 3, 1) := by decide +kernel
theorem d_law_971 : decode code 971 = .ok (.iconst 4, 1) := by decide +kernel
theorem d_law_972 : decode code 972 = .ok (.iadd, 1) := by decide +kernel
theorem d_law_973 : decode code 973 = .ok (.iaload, 1) := by decide +kernel
theorem d_law_974 : decode code 974 = .ok (.ifCond .eq 7, 3) := by decide +kernel
theorem d_law_977 : decode code 977 = .ok (.iconst 1, 1) := by decide +kernel
theorem d_law_978 : decode code 978 = .ok (.goto 4, 3) := by decide +kernel
theorem d_law_981 : decode code 981 = .ok (.iconst 0, 1) := by decide +kernel
theorem d_law_982 : decode code 982 = .ok (.invokevirtual 118, 3) := by decide +kernel
theorem d_law_985 : decode code 985 = .ok (.aload_n 2, 1) := by decide +kernel
theorem d_law_986 : decode code 986 = .ok (.aload_n 0, 1) := by decide +kernel
theorem d_law_987 : decode code 987 = .ok (.iload_n 3, 1) := by decide +kernel
theorem d_law_988 : decode code 988 = .ok (.iconst 1, 1) := by decide +kernel
theorem d_law_989 : decode code 989 = .ok (.iadd, 1) := by decide +kernel
theorem d_law_990 : decode code 990 = .ok (.iaload, 1) := by decide +kernel
theorem d_law_991 : decode code 991 = .ok (.aload_n 0, 1) := by decide +kernel
theorem d_law_992 : decode code 992 = .ok (.iload_n 3, 1) := by decide +kernel
theorem d_law_993 : decode code 993 = .ok (.iconst 2, 1) := by decide +kernel
theorem d_law_994 : decode code 994 = .ok (.iadd, 1) := by decide +kernel
theorem d_law_995 : decode code 995 = .ok (.iaload, 1) := by decide +kernel
theorem d_law_996 : decode code 996 = .ok (.aload_n 0, 1) := by decide +kernel
theorem d_law_997 : decode code 997 = .ok (.iload_n 3, 1) := by decide +kernel
theorem d_law_998 : decode code 998 = .ok (.iconst 3, 1) := by decide +kernel
theorem d_law_999 : decode code 999 = .ok (.iadd, 1) := by decide +kernel
theorem d_law_1000 : decode code 1000 = .ok (.iaload, 1) := by decide +kernel
theorem d_law_1001 : decode code 1001 = .ok (.aload_n 0, 1) := by decide +kernel
theorem d_law_1002 : decode code 1002 = .ok (.iload_n 3, 1) := by decide +kernel
theorem d_law_1003 : decode code 1003 = .ok (.iconst 4, 1) := by decide +kernel
theorem d_law_1004 : decode code 1004 = .ok (.iadd, 1) := by decide +kernel
theorem d_law_1005 : decode code 1005 = .ok (.iaload, 1) := by decide +kernel
theorem d_law_1006 : decode code 1006 = .ok (.ifCond .eq 7, 3) := by decide +kernel
theorem d_law_1009 : decode code 1009 = .ok (.iconst 1, 1) := by decide +kernel
theorem d_law_1010 : decode code 1010 = .ok (.goto 4, 3) := by decide +kernel
theorem d_law_1013 : decode code 1013 = .ok (.iconst 0, 1) := by decide +kernel
theorem d_law_1014 : decode code 1014 = .ok (.invokevirtual 122, 3) := by decide +kernel
theorem d_law_1017 : decode code 1017 = .ok (.if_icmp .eq 361, 3) := by decide +kernel
theorem d_law_1020 : decode code 1020 = .ok (.iconst 0, 1) := by decide +kernel
theorem d_law_1021 : decode code 1021 = .ok (.ireturn, 1) := by decide +kernel
theorem d_law_1022 : decode code 1022 = .ok (.aload_n 1, 1) := by decide +kernel
theorem d_law_1023 : decode code 1023 = .ok (.aload_n 0, 1) := by decide +kernel
theorem d_law_1024 : decode code 1024 = .ok (.iload_n 3, 1) := by decide +kernel
theorem d_law_1025 : decode code 1025 = .ok (.iconst 1, 1) := by decide +kernel
theorem d_law_1026 : decode code 1026 = .ok (.iadd, 1) := by decide +kernel
theorem d_law_1027 : decode code 1027 = .ok (.iaload, 1) := by decide +kernel
theorem d_law_1028 : decode code 1028 = .ok (.invokevirtual 123, 3) := by decide +kernel
theorem d_law_1031 : decode code 1031 = .ok (.aload_n 2, 1) := by decide +kernel
theorem d_law_1032 : decode code 1032 = .ok (.aload_n 0, 1) := by decide +kernel
theorem d_law_1033 : decode code 1033 = .ok (.iload_n 3, 1) := by decide +kernel
theorem d_law_1034 : decode code 1034 = .ok (.iconst 1, 1) := by decide +kernel
theorem d_law_1035 : decode code 1035 = .ok (.iadd, 1) := by decide +kernel
theorem d_law_1036 : decode code 1036 = .ok (.iaload, 1) := by decide +kernel
theorem d_law_1037 : decode code 1037 = .ok (.invokevirtual 126, 3) := by decide +kernel
theorem d_law_1040 : decode code 1040 = .ok (.if_icmp .eq 338, 3) := by decide +kernel
theorem d_law_1043 : decode code 1043 = .ok (.iconst 0, 1) := by decide +kernel
theorem d_law_1044 : decode code 1044 = .ok (.ireturn, 1) := by decide +kernel
theorem d_law_1045 : decode code 1045 = .ok (.aload_n 1, 1) := by decide +kernel
theorem d_law_1046 : decode code 1046 = .ok (.aload_n 0, 1) := by decide +kernel
theorem d_law_1047 : decode code 1047 = .ok (.iload_n 3, 1) := by decide +kernel
theorem d_law_1048 : decode code 1048 = .ok (.iconst 1, 1) := by decide +kernel
theorem d_law_1049 : decode code 1049 = .ok (.iadd, 1) := by decide +kernel
theorem d_law_1050 : decode code 1050 = .ok (.iaload, 1) := by decide +kernel
theorem d_law_1051 : decode code 1051 = .ok (.aload_n 0, 1) := by decide +kernel
theorem d_law_1052 : decode code 1052 = .ok (.iload_n 3, 1) := by decide +kernel
theorem d_law_1053 : decode code 1053 = .ok (.iconst 2, 1) := by decide +kernel
theorem d_law_1054 : decode code 1054 = .ok (.iadd, 1) := by decide +kernel
theorem d_law_1055 : decode code 1055 = .ok (.iaload, 1) := by decide +kernel
theorem d_law_1056 : decode code 1056 = .ok (.invokevirtual 127, 3) := by decide +kernel
theorem d_law_1059 : decode code 1059 = .ok (.aload_n 2, 1) := by decide +kernel
theorem d_law_1060 : decode code 1060 = .ok (.aload_n 0, 1) := by decide +kernel
theorem d_law_1061 : decode code 1061 = .ok (.iload_n 3, 1) := by decide +kernel
theorem d_law_1062 : decode code 1062 = .ok (.iconst 1, 1) := by decide +kernel
theorem d_law_1063 : decode code 1063 = .ok (.iadd, 1) := by decide +kernel
theorem d_law_1064 : decode code 1064 = .ok (.iaload, 1) := by decide +kernel
theorem d_law_1065 : decode code 1065 = .ok (.aload_n 0, 1) := by decide +kernel
theorem d_law_1066 : decode code 1066 = .ok (.iload_n 3, 1) := by decide +kernel
theorem d_law_1067 : decode code 1067 = .ok (.iconst 2, 1) := by decide +kernel
theorem d_law_1068 : decode code 1068 = .ok (.iadd, 1) := by decide +kernel
theorem d_law_1069 : decode code 1069 = .ok (.iaload, 1) := by decide +kernel
theorem d_law_1070 : decode code 1070 = .ok (.invokevirtual 130, 3) := by decide +kernel
theorem d_law_1073 : decode code 1073 = .ok (.if_icmp .eq 305, 3) := by decide +kernel
theorem d_law_1076 : decode code 1076 = .ok (.iconst 0, 1) := by decide +kernel
theorem d_law_1077 : decode code 1077 = .ok (.ireturn, 1) := by decide +kernel
theorem d_law_1078 : decode code 1078 = .ok (.aload_n 1, 1) := by decide +kernel
theorem d_law_1079 : decode code 1079 = .ok (.invokevirtual 131, 3) := by decide +kernel
theorem d_law_1082 : decode code 1082 = .ok (.aload_n 2, 1) := by decide +kernel
theorem d_law_1083 : decode code 1083 = .ok (.invokevirtual 134, 3) := by decide +kernel
theorem d_law_1086 : decode code 1086 = .ok (.if_icmp .eq 292, 3) := by decide +kernel
theorem d_law_1089 : decode code 1089 = .ok (.iconst 0, 1) := by decide +kernel
theorem d_law_1090 : decode code 1090 = .ok (.ireturn, 1) := by decide +kernel
theorem d_law_1091 : decode code 1091 = .ok (.aload_n 1, 1) := by decide +kernel
theorem d_law_1092 : decode code 1092 = .ok (.invokevirtual 135, 3) := by decide +kernel
theorem d_law_1095 : decode code 1095 = .ok (.aload_n 2, 1) := by decide +kernel
theorem d_law_1096 : decode code 1096 = .ok (.invokevirtual 138, 3) := by decide +kernel
theorem d_law_1099 : decode code 1099 = .ok (.if_icmp .eq 279, 3) := by decide +kernel
theorem d_law_1102 : decode code 1102 = .ok (.iconst 0, 1) := by decide +kernel
theorem d_law_1103 : decode code 1103 = .ok (.ireturn, 1) := by decide +kernel
theorem d_law_1104 : decode code 1104 = .ok (.aload_n 1, 1) := by decide +kernel
theorem d_law_1105 : decode code 1105 = .ok (.invokevirtual 139, 3) := by decide +kernel
theorem d_law_1108 : decode code 1108 = .ok (.aload_n 2, 1) := by decide +kernel
theorem d_law_1109 : decode code 1109 = .ok (.invokevirtual 142, 3) := by decide +kernel
theorem d_law_1112 : decode code 1112 = .ok (.lcmp, 1) := by decide +kernel
theorem d_law_1113 : decode code 1113 = .ok (.ifCond .eq 265, 3) := by decide +kernel
theorem d_law_1116 : decode code 1116 = .ok (.iconst 0, 1) := by decide +kernel
theorem d_law_1117 : decode code 1117 = .ok (.ireturn, 1) := by decide +kernel
theorem d_law_1118 : decode code 1118 = .ok (.aload_n 1, 1) := by decide +kernel
theorem d_law_1119 : decode code 1119 = .ok (.aload_n 0, 1) := by decide +kernel
theorem d_law_1120 : decode code 1120 = .ok (.iload_n 3, 1) := by decide +kernel
theorem d_law_1121 : decode code 1121 = .ok (.iconst 1, 1) := by decide +kernel
theorem d_law_1122 : decode code 1122 = .ok (.iadd, 1) := by decide +kernel
theorem d_law_1123 : decode code 1123 = .ok (.iaload, 1) := by decide +kernel
theorem d_law_1124 : decode code 1124 = .ok (.invokevirtual 143, 3) := by decide +kernel
theorem d_law_1127 : decode code 1127 = .ok (.aload_n 2, 1) := by decide +kernel
theorem d_law_1128 : decode code 1128 = .ok (.aload_n 0, 1) := by decide +kernel
theorem d_law_1129 : decode code 1129 = .ok (.iload_n 3, 1) := by decide +kernel
theorem d_law_1130 : decode code 1130 = .ok (.iconst 1, 1) := by decide +kernel
theorem d_law_1131 : decode code 1131 = .ok (.iadd, 1) := by decide +kernel
theorem d_law_1132 : decode code 1132 = .ok (.iaload, 1) := by decide +kernel
theorem d_law_1133 : decode code 1133 = .ok (.invokevirtual 146, 3) := by decide +kernel
theorem d_law_1136 : decode code 1136 = .ok (.if_icmp .eq 242, 3) := by decide +kernel
theorem d_law_1139 : decode code 1139 = .ok (.iconst 0, 1) := by decide +kernel
theorem d_law_1140 : decode code 1140 = .ok (.ireturn, 1) := by decide +kernel
theorem d_law_1141 : decode code 1141 = .ok (.aload_n 1, 1) := by decide +kernel
theorem d_law_1142 : decode code 1142 = .ok (.invokevirtual 147, 3) := by decide +kernel
theorem d_law_1145 : decode code 1145 = .ok (.aload_n 2, 1) := by decide +kernel
theorem d_law_1146 : decode code 1146 = .ok (.invokevirtual 150, 3) := by decide +kernel
theorem d_law_1149 : decode code 1149 = .ok (.if_icmp .eq 229, 3) := by decide +kernel
theorem d_law_1152 : decode code 1152 = .ok (.iconst 0, 1) := by decide +kernel
theorem d_law_1153 : decode code 1153 = .ok (.ireturn, 1) := by decide +kernel
theorem d_law_1154 : decode code 1154 = .ok (.aload_n 1, 1) := by decide +kernel
theorem d_law_1155 : decode code 1155 = .ok (.aload_n 0, 1) := by decide +kernel
theorem d_law_1156 : decode code 1156 = .ok (.iload_n 3, 1) := by decide +kernel
theorem d_law_1157 : decode code 1157 = .ok (.iconst 1, 1) := by decide +kernel
theorem d_law_1158 : decode code 1158 = .ok (.iadd, 1) := by decide +kernel
theorem d_law_1159 : decode code 1159 = .ok (.iaload, 1) := by decide +kernel
theorem d_law_1160 : decode code 1160 = .ok (.invokevirtual 151, 3) := by decide +kernel
theorem d_law_1163 : decode code 1163 = .ok (.aload_n 2, 1) := by decide +kernel
theorem d_law_1164 : decode code 1164 = .ok (.aload_n 0, 1) := by decide +kernel
theorem d_law_1165 : decode code 1165 = .ok (.iload_n 3, 1) := by decide +kernel
theorem d_law_1166 : decode code 1166 = .ok (.iconst 1, 1) := by decide +kernel
theorem d_law_1167 : decode code 1167 = .ok (.iadd, 1) := by decide +kernel
theorem d_law_1168 : decode code 1168 = .ok (.iaload, 1) := by decide +kernel
theorem d_law_1169 : decode code 1169 = .ok (.invokevirtual 154, 3) := by decide +kernel
theorem d_law_1172 : decode code 1172 = .ok (.if_icmp .eq 206, 3) := by decide +kernel
theorem d_law_1175 : decode code 1175 = .ok (.iconst 0, 1) := by decide +kernel
theorem d_law_1176 : decode code 1176 = .ok (.ireturn, 1) := by decide +kernel
theorem d_law_1177 : decode code 1177 = .ok (.aload_n 1, 1) := by decide +kernel
theorem d_law_1178 : decode code 1178 = .ok (.aload_n 0, 1) := by decide +kernel
theorem d_law_1179 : decode code 1179 = .ok (.iload_n 3, 1) := by decide +kernel
theorem d_law_1180 : decode code 1180 = .ok (.iconst 1, 1) := by decide +kernel
theorem d_law_1181 : decode code 1181 = .ok (.iadd, 1) := by decide +kernel
theorem d_law_1182 : decode code 1182 = .ok (.iaload, 1) := by decide +kernel
theorem d_law_1183 : decode code 1183 = .ok (.aload_n 0, 1) := by decide +kernel
theorem d_law_1184 : decode code 1184 = .ok (.iload_n 3, 1) := by decide +kernel
theorem d_law_1185 : decode code 1185 = .ok (.iconst 2, 1) := by decide +kernel
theorem d_law_1186 : decode code 1186 = .ok (.iadd, 1) := by decide +kernel
theorem d_law_1187 : decode code 1187 = .ok (.iaload, 1) := by decide +kernel
theorem d_law_1188 : decode code 1188 = .ok (.aload_n 0, 1) := by decide +kernel
theorem d_law_1189 : decode code 1189 = .ok (.iload_n 3, 1) := by decide +kernel
theorem d_law_1190 : decode code 1190 = .ok (.iconst 3, 1) := by decide +kernel
theorem d_law_1191 : decode code 1191 = .ok (.iadd, 1) := by decide +kernel
theorem d_law_1192 : decode code 1192 = .ok (.iaload, 1) := by decide +kernel
theorem d_law_1193 : decode code 1193 = .ok (.aload_n 0, 1) := by decide +kernel
theorem d_law_1194 : decode code 1194 = .ok (.iload_n 3, 1) := by decide +kernel
theorem d_law_1195 : decode code 1195 = .ok (.iconst 4, 1) := by decide +kernel
theorem d_law_1196 : decode code 1196 = .ok (.iadd, 1) := by decide +kernel
theorem d_law_1197 : decode code 1197 = .ok (.iaload, 1) := by decide +kernel
theorem d_law_1198 : decode code 1198 = .ok (.aload_n 0, 1) := by decide +kernel
theorem d_law_1199 : decode code 1199 = .ok (.iload_n 3, 1) := by decide +kernel
theorem d_law_1200 : decode code 1200 = .ok (.iconst 5, 1) := by decide +kernel
theorem d_law_1201 : decode code 1201 = .ok (.iadd, 1) := by decide +kernel
theorem d_law_1202 : decode code 1202 = .ok (.iaload, 1) := by decide +kernel
theorem d_law_1203 : decode code 1203 = .ok (.invokevirtual 155, 3) := by decide +kernel
theorem d_law_1206 : decode code 1206 = .ok (.aload_n 2, 1) := by decide +kernel
theorem d_law_1207 : decode code 1207 = .ok (.aload_n 0, 1) := by decide +kernel
theorem d_law_1208 : decode code 1208 = .ok (.iload_n 3, 1) := by decide +kernel
theorem d_law_1209 : decode code 1209 = .ok (.iconst 1, 1) := by decide +kernel
theorem d_law_1210 : decode code 1210 = .ok (.iadd, 1) := by decide +kernel
theorem d_law_1211 : decode code 1211 = .ok (.iaload, 1) := by decide +kernel
theorem d_law_1212 : decode code 1212 = .ok (.aload_n 0, 1) := by decide +kernel
theorem d_law_1213 : decode code 1213 = .ok (.iload_n 3, 1) := by decide +kernel
theorem d_law_1214 : decode code 1214 = .ok (.iconst 2, 1) := by decide +kernel
theorem d_law_1215 : decode code 1215 = .ok (.iadd, 1) := by decide +kernel
theorem d_law_1216 : decode code 1216 = .ok (.iaload, 1) := by decide +kernel
theorem d_law_1217 : decode code 1217 = .ok (.aload_n 0, 1) := by decide +kernel
theorem d_law_1218 : decode code 1218 = .ok (.iload_n 3, 1) := by decide +kernel
theorem d_law_1219 : decode code 1219 = .ok (.iconst 3, 1) := by decide +kernel
theorem d_law_1220 : decode code 1220 = .ok (.iadd, 1) := by decide +kernel
theorem d_law_1221 : decode code 1221 = .ok (.iaload, 1) := by decide +kernel
theorem d_law_1222 : decode code 1222 = .ok (.aload_n 0, 1) := by decide +kernel
theorem d_law_1223 : decode code 1223 = .ok (.iload_n 3, 1) := by decide +kernel
theorem d_law_1224 : decode code 1224 = .ok (.iconst 4, 1) := by decide +kernel
theorem d_law_1225 : decode code 1225 = .ok (.iadd, 1) := by decide +kernel
theorem d_law_1226 : decode code 1226 = .ok (.iaload, 1) := by decide +kernel
theorem d_law_1227 : decode code 1227 = .ok (.aload_n 0, 1) := by decide +kernel
theorem d_law_1228 : decode code 1228 = .ok (.iload_n 3, 1) := by decide +kernel
theorem d_law_1229 : decode code 1229 = .ok (.iconst 5, 1) := by decide +kernel
theorem d_law_1230 : decode code 1230 = .ok (.iadd, 1) := by decide +kernel
theorem d_law_1231 : decode code 1231 = .ok (.iaload, 1) := by decide +kernel
theorem d_law_1232 : decode code 1232 = .ok (.invokevirtual 159, 3) := by decide +kernel
theorem d_law_1235 : decode code 1235 = .ok (.if_icmp .eq 143, 3) := by decide +kernel
theorem d_law_1238 : decode code 1238 = .ok (.iconst 0, 1) := by decide +kernel
theorem d_law_1239 : decode code 1239 = .ok (.ireturn, 1) := by decide +kernel
theorem d_law_1240 : decode code 1240 = .ok (.aload_n 1, 1) := by decide +kernel
theorem d_law_1241 : decode code 1241 = .ok (.aload_n 0, 1) := by decide +kernel
theorem d_law_1242 : decode code 1242 = .ok (.iload_n 3, 1) := by decide +kernel
theorem d_law_1243 : decode code 1243 = .ok (.iconst 1, 1) := by decide +kernel
theorem d_law_1244 : decode code 1244 = .ok (.iadd, 1) := by decide +kernel
theorem d_law_1245 : decode code 1245 = .ok (.iaload, 1) := by decide +kernel
theorem d_law_1246 : decode code 1246 = .ok (.aload_n 0, 1) := by decide +kernel
theorem d_law_1247 : decode code 1247 = .ok (.iload_n 3, 1) := by decide +kernel
theorem d_law_1248 : decode code 1248 = .ok (.iconst 2, 1) := by decide +kernel
theorem d_law_1249 : decode code 1249 = .ok (.iadd, 1) := by decide +kernel
theorem d_law_1250 : decode code 1250 = .ok (.iaload, 1) := by decide +kernel
theorem d_law_1251 : decode code 1251 = .ok (.aload_n 0, 1) := by decide +kernel
theorem d_law_1252 : decode code 1252 = .ok (.iload_n 3, 1) := by decide +kernel
theorem d_law_1253 : decode code 1253 = .ok (.iconst 3, 1) := by decide +kernel
theorem d_law_1254 : decode code 1254 = .ok (.iadd, 1) := by decide +kernel
theorem d_law_1255 : decode code 1255 = .ok (.iaload, 1) := by decide +kernel
theorem d_law_1256 : decode code 1256 = .ok (.ifCond .eq 7, 3) := by decide +kernel
theorem d_law_1259 : decode code 1259 = .ok (.iconst 1, 1) := by decide +kernel
theorem d_law_1260 : decode code 1260 = .ok (.goto 4, 3) := by decide +kernel
theorem d_law_1263 : decode code 1263 = .ok (.iconst 0, 1) := by decide +kernel
theorem d_law_1264 : decode code 1264 = .ok (.invokevirtual 160, 3) := by decide +kernel
theorem d_law_1267 : decode code 1267 = .ok (.aload_n 2, 1) := by decide +kernel
theorem d_law_1268 : decode code 1268 = .ok (.aload_n 0, 1) := by decide +kernel
theorem d_law_1269 : decode code 1269 = .ok (.iload_n 3, 1) := by decide +kernel
theorem d_law_1270 : decode code 1270 = .ok (.iconst 1, 1) := by decide +kernel
theorem d_law_1271 : decode code 1271 = .ok (.iadd, 1) := by decide +kernel
theorem d_law_1272 : decode code 1272 = .ok (.iaload, 1) := by decide +kernel
theorem d_law_1273 : decode code 1273 = .ok (.aload_n 0, 1) := by decide +kernel
theorem d_law_1274 : decode code 1274 = .ok (.iload_n 3, 1) := by decide +kernel
theorem d_law_1275 : decode code 1275 = .ok (.iconst 2, 1) := by decide +kernel
theorem d_law_1276 : decode code 1276 = .ok (.iadd, 1) := by decide +kernel
theorem d_law_1277 : decode code 1277 = .ok (.iaload, 1) := by decide +kernel
theorem d_law_1278 : decode code 1278 = .ok (.aload_n 0, 1) := by decide +kernel
theorem d_law_1279 : decode code 1279 = .ok (.iload_n 3, 1) := by decide +kernel
theorem d_law_1280 : decode code 1280 = .ok (.iconst 3, 1) := by decide +kernel
theorem d_law_1281 : decode code 1281 = .ok (.iadd, 1) := by decide +kernel
theorem d_law_1282 : decode code 1282 = .ok (.iaload, 1) := by decide +kernel
theorem d_law_1283 : decode code 1283 = .ok (.ifCond .eq 7, 3) := by decide +kernel
theorem d_law_1286 : decode code 1286 = .ok (.iconst 1, 1) := by decide +kernel
theorem d_law_1287 : decode code 1287 = .ok (.goto 4, 3) := by decide +kernel
theorem d_law_1290 : decode code 1290 = .ok (.iconst 0, 1) := by decide +kernel
theorem d_law_1291 : decode code 1291 = .ok (.invokevirtual 164, 3) := by decide +kernel
theorem d_law_1294 : decode code 1294 = .ok (.if_icmp .eq 84, 3) := by decide +kernel
theorem d_law_1297 : decode code 1297 = .ok (.iconst 0, 1) := by decide +kernel
theorem d_law_1298 : decode code 1298 = .ok (.ireturn, 1) := by decide +kernel
theorem d_law_1299 : decode code 1299 = .ok (.aload_n 1, 1) := by decide +kernel
theorem d_law_1300 : decode code 1300 = .ok (.aload_n 0, 1) := by decide +kernel
theorem d_law_1301 : decode code 1301 = .ok (.iload_n 3, 1) := by decide +kernel
theorem d_law_1302 : decode code 1302 = .ok (.iconst 1, 1) := by decide +kernel
theorem d_law_1303 : decode code 1303 = .ok (.iadd, 1) := by decide +kernel
theorem d_law_1304 : decode code 1304 = .ok (.iaload, 1) := by decide +kernel
theorem d_law_1305 : decode code 1305 = .ok (.invokevirtual 165, 3) := by decide +kernel
theorem d_law_1308 : decode code 1308 = .ok (.aload_n 2, 1) := by decide +kernel
theorem d_law_1309 : decode code 1309 = .ok (.aload_n 0, 1) := by decide +kernel
theorem d_law_1310 : decode code 1310 = .ok (.iload_n 3, 1) := by decide +kernel
theorem d_law_1311 : decode code 1311 = .ok (.iconst 1, 1) := by decide +kernel
theorem d_law_1312 : decode code 1312 = .ok (.iadd, 1) := by decide +kernel
theorem d_law_1313 : decode code 1313 = .ok (.iaload, 1) := by decide +kernel
theorem d_law_1314 : decode code 1314 = .ok (.invokevirtual 168, 3) := by decide +kernel
theorem d_law_1317 : decode code 1317 = .ok (.if_icmp .eq 61, 3) := by decide +kernel
theorem d_law_1320 : decode code 1320 = .ok (.iconst 0, 1) := by decide +kernel
theorem d_law_1321 : decode code 1321 = .ok (.ireturn, 1) := by decide +kernel
theorem d_law_1322 : decode code 1322 = .ok (.aload_n 1, 1) := by decide +kernel
theorem d_law_1323 : decode code 1323 = .ok (.aload_n 0, 1) := by decide +kernel
theorem d_law_1324 : decode code 1324 = .ok (.iload_n 3, 1) := by decide +kernel
theorem d_law_1325 : decode code 1325 = .ok (.iconst 1, 1) := by decide +kernel
theorem d_law_1326 : decode code 1326 = .ok (.iadd, 1) := by decide +kernel
theorem d_law_1327 : decode code 1327 = .ok (.iaload, 1) := by decide +kernel
theorem d_law_1328 : decode code 1328 = .ok (.invokevirtual 169, 3) := by decide +kernel
theorem d_law_1331 : decode code 1331 = .ok (.aload_n 2, 1) := by decide +kernel
theorem d_law_1332 : decode code 1332 = .ok (.aload_n 0, 1) := by decide +kernel
theorem d_law_1333 : decode code 1333 = .ok (.iload_n 3, 1) := by decide +kernel
theorem d_law_1334 : decode code 1334 = .ok (.iconst 1, 1) := by decide +kernel
theorem d_law_1335 : decode code 1335 = .ok (.iadd, 1) := by decide +kernel
theorem d_law_1336 : decode code 1336 = .ok (.iaload, 1) := by decide +kernel
theorem d_law_1337 : decode code 1337 = .ok (.invokevirtual 172, 3) := by decide +kernel
theorem d_law_1340 : decode code 1340 = .ok (.if_icmp .eq 38, 3) := by decide +kernel
theorem d_law_1343 : decode code 1343 = .ok (.iconst 0, 1) := by decide +kernel
theorem d_law_1344 : decode code 1344 = .ok (.ireturn, 1) := by decide +kernel
theorem d_law_1345 : decode code 1345 = .ok (.aload_n 1, 1) := by decide +kernel
theorem d_law_1346 : decode code 1346 = .ok (.aload_n 0, 1) := by decide +kernel
theorem d_law_1347 : decode code 1347 = .ok (.iload_n 3, 1) := by decide +kernel
theorem d_law_1348 : decode code 1348 = .ok (.iconst 1, 1) := by decide +kernel
theorem d_law_1349 : decode code 1349 = .ok (.iadd, 1) := by decide +kernel
theorem d_law_1350 : decode code 1350 = .ok (.iaload, 1) := by decide +kernel
theorem d_law_1351 : decode code 1351 = .ok (.aload_n 0, 1) := by decide +kernel
theorem d_law_1352 : decode code 1352 = .ok (.iload_n 3, 1) := by decide +kernel
theorem d_law_1353 : decode code 1353 = .ok (.iconst 2, 1) := by decide +kernel
theorem d_law_1354 : decode code 1354 = .ok (.iadd, 1) := by decide +kernel
theorem d_law_1355 : decode code 1355 = .ok (.iaload, 1) := by decide +kernel
theorem d_law_1356 : decode code 1356 = .ok (.invokevirtual 173, 3) := by decide +kernel
theorem d_law_1359 : decode code 1359 = .ok (.aload_n 2, 1) := by decide +kernel
theorem d_law_1360 : decode code 1360 = .ok (.aload_n 0, 1) := by decide +kernel
theorem d_law_1361 : decode code 1361 = .ok (.iload_n 3, 1) := by decide +kernel
theorem d_law_1362 : decode code 1362 = .ok (.iconst 1, 1) := by decide +kernel
theorem d_law_1363 : decode code 1363 = .ok (.iadd, 1) := by decide +kernel
theorem d_law_1364 : decode code 1364 = .ok (.iaload, 1) := by decide +kernel
theorem d_law_1365 : decode code 1365 = .ok (.aload_n 0, 1) := by decide +kernel
theorem d_law_1366 : decode code 1366 = .ok (.iload_n 3, 1) := by decide +kernel
theorem d_law_1367 : decode code 1367 = .ok (.iconst 2, 1) := by decide +kernel
theorem d_law_1368 : decode code 1368 = .ok (.iadd, 1) := by decide +kernel
theorem d_law_1369 : decode code 1369 = .ok (.iaload, 1) := by decide +kernel
theorem d_law_1370 : decode code 1370 = .ok (.invokevirtual 176, 3) := by decide +kernel
theorem d_law_1373 : decode code 1373 = .ok (.if_icmp .eq 5, 3) := by decide +kernel
theorem d_law_1376 : decode code 1376 = .ok (.iconst 0, 1) := by decide +kernel
theorem d_law_1377 : decode code 1377 = .ok (.ireturn, 1) := by decide +kernel
theorem d_law_1378 : decode code 1378 = .ok (.iinc 3 6, 3) := by decide +kernel
theorem d_law_1381 : decode code 1381 = .ok (.goto (-1363), 3) := by decide +kernel
theorem d_law_1384 : decode code 1384 = .ok (.iconst 1, 1) := by decide +kernel
theorem d_law_1385 : decode code 1385 = .ok (.ireturn, 1) := by decide +kernel
