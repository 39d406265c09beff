/-! decode rows -/
theorem dJ0_coder_7d493_0 : decode cJ0_coder_7d493 0 = .ok (.getstatic 38, 3) := by decide +kernel
theorem dJ0_coder_7d493_3 : decode cJ0_coder_7d493 3 = .ok (.ifCond .eq 10, 3) := by decide +kernel
theorem dJ0_coder_7d493_6 : decode cJ0_coder_7d493 6 = .ok (.aload_n 0, 1) := by decide +kernel
theorem dJ0_coder_7d493_7 : decode cJ0_coder_7d493 7 = .ok (.getfield 15, 3) := by decide +kernel
theorem dJ0_coder_7d493_10 : decode cJ0_coder_7d493 10 = .ok (.goto 4, 3) := by decide +kernel
theorem dJ0_coder_7d493_14 : decode cJ0_coder_7d493 14 = .ok (.ireturn, 1) := by decide +kernel
theorem dJ0_length_8abf5_0 : decode cJ0_length_8abf5 0 = .ok (.aload_n 0, 1) := by decide +kernel
theorem dJ0_length_8abf5_1 : decode cJ0_length_8abf5 1 = .ok (.getfield 9, 3) := by decide +kernel
theorem dJ0_length_8abf5_4 : decode cJ0_length_8abf5 4 = .ok (.arraylength, 1) := by decide +kernel
theorem dJ0_length_8abf5_5 : decode cJ0_length_8abf5 5 = .ok (.aload_n 0, 1) := by decide +kernel
theorem dJ0_length_8abf5_6 : decode cJ0_length_8abf5 6 = .ok (.invokevirtual 335, 3) := by decide +kernel
theorem dJ0_length_8abf5_9 : decode cJ0_length_8abf5 9 = .ok (.ishr, 1) := by decide +kernel
theorem dJ0_length_8abf5_10 : decode cJ0_length_8abf5 10 = .ok (.ireturn, 1) := by decide +kernel
theorem dL_law_0 : decode cL_law 0 = .ok (.new 7, 3) := by decide +kernel
theorem dL_law_3 : decode cL_law 3 = .ok (.dup, 1) := by decide +kernel
theorem dL_law_4 : decode cL_law 4 = .ok (.invokespecial 9, 3) := by decide +kernel
theorem dL_law_7 : decode cL_law 7 = .ok (.astore_n 1, 1) := by decide +kernel
theorem dL_law_8 : decode cL_law 8 = .ok (.new 10, 3) := by decide +kernel
theorem dL_law_11 : decode cL_law 11 = .ok (.dup, 1) := by decide +kernel
theorem dL_law_12 : decode cL_law 12 = .ok (.invokespecial 12, 3) := by decide +kernel
theorem dL_law_15 : decode cL_law 15 = .ok (.astore_n 2, 1) := by decide +kernel
theorem dL_law_16 : decode cL_law 16 = .ok (.iconst 0, 1) := by decide +kernel
theorem dL_law_17 : decode cL_law 17 = .ok (.istore_n 3, 1) := by decide +kernel
theorem dL_law_18 : decode cL_law 18 = .ok (.iload_n 3, 1) := by decide +kernel
theorem dL_law_19 : decode cL_law 19 = .ok (.aload_n 0, 1) := by decide +kernel
theorem dL_law_20 : decode cL_law 20 = .ok (.arraylength, 1) := by decide +kernel
theorem dL_law_21 : decode cL_law 21 = .ok (.bipush 6, 2) := by decide +kernel
theorem dL_law_23 : decode cL_law 23 = .ok (.isub, 1) := by decide +kernel
theorem dL_law_24 : decode cL_law 24 = .ok (.if_icmp .gt 1701, 3) := by decide +kernel
theorem dL_law_27 : decode cL_law 27 = .ok (.aload_n 0, 1) := by decide +kernel
theorem dL_law_28 : decode cL_law 28 = .ok (.iload_n 3, 1) := by decide +kernel
theorem dL_law_29 : decode cL_law 29 = .ok (.iaload, 1) := by decide +kernel
theorem dL_law_30 : decode cL_law 30 = .ok (.bipush 63, 2) := by decide +kernel
theorem dL_law_32 : decode cL_law 32 = .ok (.iand, 1) := by decide +kernel
theorem dL_law_33 : decode cL_law 33 = .ok (.tableswitch 1686 0 42 #[187, 250, 273, 296, 319, 342, 375, 408, 451, 494, 527, 560, 593, 636, 669, 692, 725, 768, 801, 844, 877, 920, 943, 986, 1029, 1052, 1095, 1128, 1181, 1224, 1267, 1290, 1323, 1356, 1389, 1422, 1455, 1508, 1551, 1594, 1617, 1630, 1663], 187) := by decide +kernel
theorem dL_law_220 : decode cL_law 220 = .ok (.aload_n 1, 1) := by decide +kernel
theorem dL_law_221 : decode cL_law 221 = .ok (.aload_n 0, 1) := by decide +kernel
theorem dL_law_222 : decode cL_law 222 = .ok (.iload_n 3, 1) := by decide +kernel
theorem dL_law_223 : decode cL_law 223 = .ok (.iconst 1, 1) := by decide +kernel
theorem dL_law_224 : decode cL_law 224 = .ok (.iadd, 1) := by decide +kernel
theorem dL_law_225 : decode cL_law 225 = .ok (.iaload, 1) := by decide +kernel
theorem dL_law_226 : decode cL_law 226 = .ok (.aload_n 0, 1) := by decide +kernel
theorem dL_law_227 : decode cL_law 227 = .ok (.iload_n 3, 1) := by decide +kernel
theorem dL_law_228 : decode cL_law 228 = .ok (.iconst 2, 1) := by decide +kernel
theorem dL_law_229 : decode cL_law 229 = .ok (.iadd, 1) := by decide +kernel
theorem dL_law_230 : decode cL_law 230 = .ok (.iaload, 1) := by decide +kernel
theorem dL_law_231 : decode cL_law 231 = .ok (.aload_n 0, 1) := by decide +kernel
theorem dL_law_232 : decode cL_law 232 = .ok (.iload_n 3, 1) := by decide +kernel
theorem dL_law_233 : decode cL_law 233 = .ok (.iconst 3, 1) := by decide +kernel
theorem dL_law_234 : decode cL_law 234 = .ok (.iadd, 1) := by decide +kernel
theorem dL_law_235 : decode cL_law 235 = .ok (.iaload, 1) := by decide +kernel
theorem dL_law_236 : decode cL_law 236 = .ok (.aload_n 0, 1) := by decide +kernel
theorem dL_law_237 : decode cL_law 237 = .ok (.iload_n 3, 1) := by decide +kernel
theorem dL_law_238 : decode cL_law 238 = .ok (.iconst 4, 1) := by decide +kernel
theorem dL_law_239 : decode cL_law 239 = .ok (.iadd, 1) := by decide +kernel
theorem dL_law_240 : decode cL_law 240 = .ok (.iaload, 1) := by decide +kernel
theorem dL_law_241 : decode cL_law 241 = .ok (.aload_n 0, 1) := by decide +kernel
theorem dL_law_242 : decode cL_law 242 = .ok (.iload_n 3, 1) := by decide +kernel
theorem dL_law_243 : decode cL_law 243 = .ok (.iconst 5, 1) := by decide +kernel
theorem dL_law_244 : decode cL_law 244 = .ok (.iadd, 1) := by decide +kernel
theorem dL_law_245 : decode cL_law 245 = .ok (.iaload, 1) := by decide +kernel
theorem dL_law_246 : decode cL_law 246 = .ok (.invokevirtual 13, 3) := by decide +kernel
theorem dL_law_249 : decode cL_law 249 = .ok (.aload_n 2, 1) := by decide +kernel
theorem dL_law_250 : decode cL_law 250 = .ok (.aload_n 0, 1) := by decide +kernel
theorem dL_law_251 : decode cL_law 251 = .ok (.iload_n 3, 1) := by decide +kernel
theorem dL_law_252 : decode cL_law 252 = .ok (.iconst 1, 1) := by decide +kernel
theorem dL_law_253 : decode cL_law 253 = .ok (.iadd, 1) := by decide +kernel
theorem dL_law_254 : decode cL_law 254 = .ok (.iaload, 1) := by decide +kernel
theorem dL_law_255 : decode cL_law 255 = .ok (.aload_n 0, 1) := by decide +kernel
theorem dL_law_256 : decode cL_law 256 = .ok (.iload_n 3, 1) := by decide +kernel
theorem dL_law_257 : decode cL_law 257 = .ok (.iconst 2, 1) := by decide +kernel
theorem dL_law_258 : decode cL_law 258 = .ok (.iadd, 1) := by decide +kernel
theorem dL_law_259 : decode cL_law 259 = .ok (.iaload, 1) := by decide +kernel
theorem dL_law_260 : decode cL_law 260 = .ok (.aload_n 0, 1) := by decide +kernel
theorem dL_law_261 : decode cL_law 261 = .ok (.iload_n 3, 1) := by decide +kernel
theorem dL_law_262 : decode cL_law 262 = .ok (.iconst 3, 1) := by decide +kernel
theorem dL_law_263 : decode cL_law 263 = .ok (.iadd, 1) := by decide +kernel
theorem dL_law_264 : decode cL_law 264 = .ok (.iaload, 1) := by decide +kernel
theorem dL_law_265 : decode cL_law 265 = .ok (.aload_n 0, 1) := by decide +kernel
theorem dL_law_266 : decode cL_law 266 = .ok (.iload_n 3, 1) := by decide +kernel
theorem dL_law_267 : decode cL_law 267 = .ok (.iconst 4, 1) := by decide +kernel
theorem dL_law_268 : decode cL_law 268 = .ok (.iadd, 1) := by decide +kernel
theorem dL_law_269 : decode cL_law 269 = .ok (.iaload, 1) := by decide +kernel
theorem dL_law_270 : decode cL_law 270 = .ok (.aload_n 0, 1) := by decide +kernel
theorem dL_law_271 : decode cL_law 271 = .ok (.iload_n 3, 1) := by decide +kernel
theorem dL_law_272 : decode cL_law 272 = .ok (.iconst 5, 1) := by decide +kernel
theorem dL_law_273 : decode cL_law 273 = .ok (.iadd, 1) := by decide +kernel
theorem dL_law_274 : decode cL_law 274 = .ok (.iaload, 1) := by decide +kernel
theorem dL_law_275 : decode cL_law 275 = .ok (.invokevirtual 17, 3) := by decide +kernel
theorem dL_law_278 : decode cL_law 278 = .ok (.if_icmp .eq 1441, 3) := by decide +kernel
theorem dL_law_283 : decode cL_law 283 = .ok (.aload_n 1, 1) := by decide +kernel
theorem dL_law_284 : decode cL_law 284 = .ok (.aload_n 0, 1) := by decide +kernel
theorem dL_law_285 : decode cL_law 285 = .ok (.iload_n 3, 1) := by decide +kernel
theorem dL_law_286 : decode cL_law 286 = .ok (.iconst 1, 1) := by decide +kernel
theorem dL_law_287 : decode cL_law 287 = .ok (.iadd, 1) := by decide +kernel
theorem dL_law_288 : decode cL_law 288 = .ok (.iaload, 1) := by decide +kernel
theorem dL_law_289 : decode cL_law 289 = .ok (.invokevirtual 18, 3) := by decide +kernel
theorem dL_law_292 : decode cL_law 292 = .ok (.aload_n 2, 1) := by decide +kernel
theorem dL_law_293 : decode cL_law 293 = .ok (.aload_n 0, 1) := by decide +kernel
theorem dL_law_294 : decode cL_law 294 = .ok (.iload_n 3, 1) := by decide +kernel
theorem dL_law_295 : decode cL_law 295 = .ok (.iconst 1, 1) := by decide +kernel
theorem dL_law_296 : decode cL_law 296 = .ok (.iadd, 1) := by decide +kernel
theorem dL_law_297 : decode cL_law 297 = .ok (.iaload, 1) := by decide +kernel
theorem dL_law_298 : decode cL_law 298 = .ok (.invokevirtual 22, 3) := by decide +kernel
theorem dL_law_301 : decode cL_law 301 = .ok (.if_icmp .eq 1418, 3) := by decide +kernel
theorem dL_law_306 : decode cL_law 306 = .ok (.aload_n 1, 1) := by decide +kernel
theorem dL_law_307 : decode cL_law 307 = .ok (.aload_n 0, 1) := by decide +kernel
theorem dL_law_308 : decode cL_law 308 = .ok (.iload_n 3, 1) := by decide +kernel
theorem dL_law_309 : decode cL_law 309 = .ok (.iconst 1, 1) := by decide +kernel
theorem dL_law_310 : decode cL_law 310 = .ok (.iadd, 1) := by decide +kernel
theorem dL_law_311 : decode cL_law 311 = .ok (.iaload, 1) := by decide +kernel
theorem dL_law_312 : decode cL_law 312 = .ok (.invokevirtual 23, 3) := by decide +kernel
theorem dL_law_315 : decode cL_law 315 = .ok (.aload_n 2, 1) := by decide +kernel
theorem dL_law_316 : decode cL_law 316 = .ok (.aload_n 0, 1) := by decide +kernel
theorem dL_law_317 : decode cL_law 317 = .ok (.iload_n 3, 1) := by decide +kernel
theorem dL_law_318 : decode cL_law 318 = .ok (.iconst 1, 1) := by decide +kernel
theorem dL_law_319 : decode cL_law 319 = .ok (.iadd, 1) := by decide +kernel
theorem dL_law_320 : decode cL_law 320 = .ok (.iaload, 1) := by decide +kernel
theorem dL_law_321 : decode cL_law 321 = .ok (.invokevirtual 26, 3) := by decide +kernel
theorem dL_law_324 : decode cL_law 324 = .ok (.if_icmp .eq 1395, 3) := by decide +kernel
theorem dL_law_329 : decode cL_law 329 = .ok (.aload_n 1, 1) := by decide +kernel
theorem dL_law_330 : decode cL_law 330 = .ok (.aload_n 0, 1) := by decide +kernel
theorem dL_law_331 : decode cL_law 331 = .ok (.iload_n 3, 1) := by decide +kernel
theorem dL_law_332 : decode cL_law 332 = .ok (.iconst 1, 1) := by decide +kernel
theorem dL_law_333 : decode cL_law 333 = .ok (.iadd, 1) := by decide +kernel
theorem dL_law_334 : decode cL_law 334 = .ok (.iaload, 1) := by decide +kernel
theorem dL_law_335 : decode cL_law 335 = .ok (.invokevirtual 27, 3) := by decide +kernel
theorem dL_law_338 : decode cL_law 338 = .ok (.aload_n 2, 1) := by decide +kernel
theorem dL_law_339 : decode cL_law 339 = .ok (.aload_n 0, 1) := by decide +kernel
theorem dL_law_340 : decode cL_law 340 = .ok (.iload_n 3, 1) := by decide +kernel
theorem dL_law_341 : decode cL_law 341 = .ok (.iconst 1, 1) := by decide +kernel
theorem dL_law_342 : decode cL_law 342 = .ok (.iadd, 1) := by decide +kernel
theorem dL_law_343 : decode cL_law 343 = .ok (.iaload, 1) := by decide +kernel
theorem dL_law_344 : decode cL_law 344 = .ok (.invokevirtual 30, 3) := by decide +kernel
theorem dL_law_347 : decode cL_law 347 = .ok (.if_icmp .eq 1372, 3) := by decide +kernel
theorem dL_law_352 : decode cL_law 352 = .ok (.aload_n 1, 1) := by decide +kernel
theorem dL_law_353 : decode cL_law 353 = .ok (.aload_n 0, 1) := by decide +kernel
theorem dL_law_354 : decode cL_law 354 = .ok (.iload_n 3, 1) := by decide +kernel
theorem dL_law_355 : decode cL_law 355 = .ok (.iconst 1, 1) := by decide +kernel
theorem dL_law_356 : decode cL_law 356 = .ok (.iadd, 1) := by decide +kernel
theorem dL_law_357 : decode cL_law 357 = .ok (.iaload, 1) := by decide +kernel
theorem dL_law_358 : decode cL_law 358 = .ok (.invokevirtual 31, 3) := by decide +kernel
theorem dL_law_361 : decode cL_law 361 = .ok (.aload_n 2, 1) := by decide +kernel
theorem dL_law_362 : decode cL_law 362 = .ok (.aload_n 0, 1) := by decide +kernel
theorem dL_law_363 : decode cL_law 363 = .ok (.iload_n 3, 1) := by decide +kernel
theorem dL_law_364 : decode cL_law 364 = .ok (.iconst 1, 1) := by decide +kernel
theorem dL_law_365 : decode cL_law 365 = .ok (.iadd, 1) := by decide +kernel
theorem dL_law_366 : decode cL_law 366 = .ok (.iaload, 1) := by decide +kernel
theorem dL_law_367 : decode cL_law 367 = .ok (.invokevirtual 34, 3) := by decide +kernel
theorem dL_law_370 : decode cL_law 370 = .ok (.if_icmp .eq 1349, 3) := by decide +kernel
theorem dL_law_375 : decode cL_law 375 = .ok (.aload_n 1, 1) := by decide +kernel
theorem dL_law_376 : decode cL_law 376 = .ok (.aload_n 0, 1) := by decide +kernel
theorem dL_law_377 : decode cL_law 377 = .ok (.iload_n 3, 1) := by decide +kernel
theorem dL_law_378 : decode cL_law 378 = .ok (.iconst 1, 1) := by decide +kernel
theorem dL_law_379 : decode cL_law 379 = .ok (.iadd, 1) := by decide +kernel
theorem dL_law_380 : decode cL_law 380 = .ok (.iaload, 1) := by decide +kernel
theorem dL_law_381 : decode cL_law 381 = .ok (.aload_n 0, 1) := by decide +kernel
theorem dL_law_382 : decode cL_law 382 = .ok (.iload_n 3, 1) := by decide +kernel
theorem dL_law_383 : decode cL_law 383 = .ok (.iconst 2, 1) := by decide +kernel
theorem dL_law_384 : decode cL_law 384 = .ok (.iadd, 1) := by decide +kernel
theorem dL_law_385 : decode cL_law 385 = .ok (.iaload, 1) := by decide +kernel
theorem dL_law_386 : decode cL_law 386 = .ok (.invokevirtual 35, 3) := by decide +kernel
theorem dL_law_389 : decode cL_law 389 = .ok (.aload_n 2, 1) := by decide +kernel
theorem dL_law_390 : decode cL_law 390 = .ok (.aload_n 0, 1) := by decide +kernel
theorem dL_law_391 : decode cL_law 391 = .ok (.iload_n 3, 1) := by decide +kernel
theorem dL_law_392 : decode cL_law 392 = .ok (.iconst 1, 1) := by decide +kernel
theorem dL_law_393 : decode cL_law 393 = .ok (.iadd, 1) := by decide +kernel
theorem dL_law_394 : decode cL_law 394 = .ok (.iaload, 1) := by decide +kernel
theorem dL_law_395 : decode cL_law 395 = .ok (.aload_n 0, 1) := by decide +kernel
theorem dL_law_396 : decode cL_law 396 = .ok (.iload_n 3, 1) := by decide +kernel
theorem dL_law_397 : decode cL_law 397 = .ok (.iconst 2, 1) := by decide +kernel
theorem dL_law_398 : decode cL_law 398 = .ok (.iadd, 1) := by decide +kernel
theorem dL_law_399 : decode cL_law 399 = .ok (.iaload, 1) := by decide +kernel
theorem dL_law_400 : decode cL_law 400 = .ok (.invokevirtual 39, 3) := by decide +kernel
theorem dL_law_403 : decode cL_law 403 = .ok (.if_icmp .eq 1316, 3) := by decide +kernel
theorem dL_law_408 : decode cL_law 408 = .ok (.aload_n 1, 1) := by decide +kernel
theorem dL_law_409 : decode cL_law 409 = .ok (.aload_n 0, 1) := by decide +kernel
theorem dL_law_410 : decode cL_law 410 = .ok (.iload_n 3, 1) := by decide +kernel
theorem dL_law_411 : decode cL_law 411 = .ok (.iconst 1, 1) := by decide +kernel
theorem dL_law_412 : decode cL_law 412 = .ok (.iadd, 1) := by decide +kernel
theorem dL_law_413 : decode cL_law 413 = .ok (.iaload, 1) := by decide +kernel
theorem dL_law_414 : decode cL_law 414 = .ok (.aload_n 0, 1) := by decide +kernel
theorem dL_law_415 : decode cL_law 415 = .ok (.iload_n 3, 1) := by decide +kernel
theorem dL_law_416 : decode cL_law 416 = .ok (.iconst 2, 1) := by decide +kernel
theorem dL_law_417 : decode cL_law 417 = .ok (.iadd, 1) := by decide +kernel
theorem dL_law_418 : decode cL_law 418 = .ok (.iaload, 1) := by decide +kernel
theorem dL_law_419 : decode cL_law 419 = .ok (.invokevirtual 40, 3) := by decide +kernel
theorem dL_law_422 : decode cL_law 422 = .ok (.aload_n 2, 1) := by decide +kernel
theorem dL_law_423 : decode cL_law 423 = .ok (.aload_n 0, 1) := by decide +kernel
theorem dL_law_424 : decode cL_law 424 = .ok (.iload_n 3, 1) := by decide +kernel
theorem dL_law_425 : decode cL_law 425 = .ok (.iconst 1, 1) := by decide +kernel
theorem dL_law_426 : decode cL_law 426 = .ok (.iadd, 1) := by decide +kernel
theorem dL_law_427 : decode cL_law 427 = .ok (.iaload, 1) := by decide +kernel
theorem dL_law_428 : decode cL_law 428 = .ok (.aload_n 0, 1) := by decide +kernel
theorem dL_law_429 : decode cL_law 429 = .ok (.iload_n 3, 1) := by decide +kernel
theorem dL_law_430 : decode cL_law 430 = .ok (.iconst 2, 1) := by decide +kernel
theorem dL_law_431 : decode cL_law 431 = .ok (.iadd, 1) := by decide +kernel
theorem dL_law_432 : decode cL_law 432 = .ok (.iaload, 1) := by decide +kernel
theorem dL_law_433 : decode cL_law 433 = .ok (.invokevirtual 43, 3) := by decide +kernel
theorem dL_law_436 : decode cL_law 436 = .ok (.if_icmp .eq 1283, 3) := by decide +kernel
theorem dL_law_441 : decode cL_law 441 = .ok (.aload_n 1, 1) := by decide +kernel
theorem dL_law_442 : decode cL_law 442 = .ok (.aload_n 0, 1) := by decide +kernel
theorem dL_law_443 : decode cL_law 443 = .ok (.iload_n 3, 1) := by decide +kernel
theorem dL_law_444 : decode cL_law 444 = .ok (.iconst 1, 1) := by decide +kernel
theorem dL_law_445 : decode cL_law 445 = .ok (.iadd, 1) := by decide +kernel
theorem dL_law_446 : decode cL_law 446 = .ok (.iaload, 1) := by decide +kernel
theorem dL_law_447 : decode cL_law 447 = .ok (.aload_n 0, 1) := by decide +kernel
theorem dL_law_448 : decode cL_law 448 = .ok (.iload_n 3, 1) := by decide +kernel
theorem dL_law_449 : decode cL_law 449 = .ok (.iconst 2, 1) := by decide +kernel
theorem dL_law_450 : decode cL_law 450 = .ok (.iadd, 1) := by decide +kernel
theorem dL_law_451 : decode cL_law 451 = .ok (.iaload, 1) := by decide +kernel
theorem dL_law_452 : decode cL_law 452 = .ok (.aload_n 0, 1) := by decide +kernel
theorem dL_law_453 : decode cL_law 453 = .ok (.iload_n 3, 1) := by decide +kernel
theorem dL_law_454 : decode cL_law 454 = .ok (.iconst 3, 1) := by decide +kernel
theorem dL_law_455 : decode cL_law 455 = .ok (.iadd, 1) := by decide +kernel
theorem dL_law_456 : decode cL_law 456 = .ok (.iaload, 1) := by decide +kernel
theorem dL_law_457 : decode cL_law 457 = .ok (.invokevirtual 44, 3) := by decide +kernel
theorem dL_law_460 : decode cL_law 460 = .ok (.aload_n 2, 1) := by decide +kernel
theorem dL_law_461 : decode cL_law 461 = .ok (.aload_n 0, 1) := by decide +kernel
theorem dL_law_462 : decode cL_law 462 = .ok (.iload_n 3, 1) := by decide +kernel
theorem dL_law_463 : decode cL_law 463 = .ok (.iconst 1, 1) := by decide +kernel
theorem dL_law_464 : decode cL_law 464 = .ok (.iadd, 1) := by decide +kernel
theorem dL_law_465 : decode cL_law 465 = .ok (.iaload, 1) := by decide +kernel
theorem dL_law_466 : decode cL_law 466 = .ok (.aload_n 0, 1) := by decide +kernel
theorem dL_law_467 : decode cL_law 467 = .ok (.iload_n 3, 1) := by decide +kernel
theorem dL_law_468 : decode cL_law 468 = .ok (.iconst 2, 1) := by decide +kernel
theorem dL_law_469 : decode cL_law 469 = .ok (.iadd, 1) := by decide +kernel
theorem dL_law_470 : decode cL_law 470 = .ok (.iaload, 1) := by decide +kernel
theorem dL_law_471 : decode cL_law 471 = .ok (.aload_n 0, 1) := by decide +kernel
theorem dL_law_472 : decode cL_law 472 = .ok (.iload_n 3, 1) := by decide +kernel
theorem dL_law_473 : decode cL_law 473 = .ok (.iconst 3, 1) := by decide +kernel
theorem dL_law_474 : decode cL_law 474 = .ok (.iadd, 1) := by decide +kernel
theorem dL_law_475 : decode cL_law 475 = .ok (.iaload, 1) := by decide +kernel
theorem dL_law_476 : decode cL_law 476 = .ok (.invokevirtual 48, 3) := by decide +kernel
theorem dL_law_479 : decode cL_law 479 = .ok (.if_icmp .eq 1240, 3) := by decide +kernel
theorem dL_law_484 : decode cL_law 484 = .ok (.aload_n 1, 1) := by decide +kernel
theorem dL_law_485 : decode cL_law 485 = .ok (.aload_n 0, 1) := by decide +kernel
theorem dL_law_486 : decode cL_law 486 = .ok (.iload_n 3, 1) := by decide +kernel
theorem dL_law_487 : decode cL_law 487 = .ok (.iconst 1, 1) := by decide +kernel
theorem dL_law_488 : decode cL_law 488 = .ok (.iadd, 1) := by decide +kernel
theorem dL_law_489 : decode cL_law 489 = .ok (.iaload, 1) := by decide +kernel
theorem dL_law_490 : decode cL_law 490 = .ok (.aload_n 0, 1) := by decide +kernel
theorem dL_law_491 : decode cL_law 491 = .ok (.iload_n 3, 1) := by decide +kernel
theorem dL_law_492 : decode cL_law 492 = .ok (.iconst 2, 1) := by decide +kernel
theorem dL_law_493 : decode cL_law 493 = .ok (.iadd, 1) := by decide +kernel
theorem dL_law_494 : decode cL_law 494 = .ok (.iaload, 1) := by decide +kernel
theorem dL_law_495 : decode cL_law 495 = .ok (.aload_n 0, 1) := by decide +kernel
theorem dL_law_496 : decode cL_law 496 = .ok (.iload_n 3, 1) := by decide +kernel
theorem dL_law_497 : decode cL_law 497 = .ok (.iconst 3, 1) := by decide +kernel
theorem dL_law_498 : decode cL_law 498 = .ok (.iadd, 1) := by decide +kernel
theorem dL_law_499 : decode cL_law 499 = .ok (.iaload, 1) := by decide +kernel
theorem dL_law_500 : decode cL_law 500 = .ok (.invokevirtual 49, 3) := by decide +kernel
theorem dL_law_503 : decode cL_law 503 = .ok (.aload_n 2, 1) := by decide +kernel
theorem dL_law_504 : decode cL_law 504 = .ok (.aload_n 0, 1) := by decide +kernel
theorem dL_law_505 : decode cL_law 505 = .ok (.iload_n 3, 1) := by decide +kernel
theorem dL_law_506 : decode cL_law 506 = .ok (.iconst 1, 1) := by decide +kernel
theorem dL_law_507 : decode cL_law 507 = .ok (.iadd, 1) := by decide +kernel
theorem dL_law_508 : decode cL_law 508 = .ok (.iaload, 1) := by decide +kernel
theorem dL_law_509 : decode cL_law 509 = .ok (.aload_n 0, 1) := by decide +kernel
theorem dL_law_510 : decode cL_law 510 = .ok (.iload_n 3, 1) := by decide +kernel
theorem dL_law_511 : decode cL_law 511 = .ok (.iconst 2, 1) := by decide +kernel
theorem dL_law_512 : decode cL_law 512 = .ok (.iadd, 1) := by decide +kernel
theorem dL_law_513 : decode cL_law 513 = .ok (.iaload, 1) := by decide +kernel
theorem dL_law_514 : decode cL_law 514 = .ok (.aload_n 0, 1) := by decide +kernel
theorem dL_law_515 : decode cL_law 515 = .ok (.iload_n 3, 1) := by decide +kernel
theorem dL_law_516 : decode cL_law 516 = .ok (.iconst 3, 1) := by decide +kernel
theorem dL_law_517 : decode cL_law 517 = .ok (.iadd, 1) := by decide +kernel
theorem dL_law_518 : decode cL_law 518 = .ok (.iaload, 1) := by decide +kernel
theorem dL_law_519 : decode cL_law 519 = .ok (.invokevirtual 52, 3) := by decide +kernel
theorem dL_law_522 : decode cL_law 522 = .ok (.if_icmp .eq 1197, 3) := by decide +kernel
theorem dL_law_527 : decode cL_law 527 = .ok (.aload_n 1, 1) := by decide +kernel
theorem dL_law_528 : decode cL_law 528 = .ok (.aload_n 0, 1) := by decide +kernel
theorem dL_law_529 : decode cL_law 529 = .ok (.iload_n 3, 1) := by decide +kernel
theorem dL_law_530 : decode cL_law 530 = .ok (.iconst 1, 1) := by decide +kernel
theorem dL_law_531 : decode cL_law 531 = .ok (.iadd, 1) := by decide +kernel
theorem dL_law_532 : decode cL_law 532 = .ok (.iaload, 1) := by decide +kernel
theorem dL_law_533 : decode cL_law 533 = .ok (.aload_n 0, 1) := by decide +kernel
theorem dL_law_534 : decode cL_law 534 = .ok (.iload_n 3, 1) := by decide +kernel
theorem dL_law_535 : decode cL_law 535 = .ok (.iconst 2, 1) := by decide +kernel
theorem dL_law_536 : decode cL_law 536 = .ok (.iadd, 1) := by decide +kernel
theorem dL_law_537 : decode cL_law 537 = .ok (.iaload, 1) := by decide +kernel
theorem dL_law_538 : decode cL_law 538 = .ok (.invokevirtual 53, 3) := by decide +kernel
theorem dL_law_541 : decode cL_law 541 = .ok (.aload_n 2, 1) := by decide +kernel
theorem dL_law_542 : decode cL_law 542 = .ok (.aload_n 0, 1) := by decide +kernel
theorem dL_law_543 : decode cL_law 543 = .ok (.iload_n 3, 1) := by decide +kernel
theorem dL_law_544 : decode cL_law 544 = .ok (.iconst 1, 1) := by decide +kernel
theorem dL_law_545 : decode cL_law 545 = .ok (.iadd, 1) := by decide +kernel
theorem dL_law_546 : decode cL_law 546 = .ok (.iaload, 1) := by decide +kernel
theorem dL_law_547 : decode cL_law 547 = .ok (.aload_n 0, 1) := by decide +kernel
theorem dL_law_548 : decode cL_law 548 = .ok (.iload_n 3, 1) := by decide +kernel
theorem dL_law_549 : decode cL_law 549 = .ok (.iconst 2, 1) := by decide +kernel
theorem dL_law_550 : decode cL_law 550 = .ok (.iadd, 1) := by decide +kernel
theorem dL_law_551 : decode cL_law 551 = .ok (.iaload, 1) := by decide +kernel
theorem dL_law_552 : decode cL_law 552 = .ok (.invokevirtual 56, 3) := by decide +kernel
theorem dL_law_555 : decode cL_law 555 = .ok (.if_icmp .eq 1164, 3) := by decide +kernel
theorem dL_law_560 : decode cL_law 560 = .ok (.aload_n 1, 1) := by decide +kernel
theorem dL_law_561 : decode cL_law 561 = .ok (.aload_n 0, 1) := by decide +kernel
theorem dL_law_562 : decode cL_law 562 = .ok (.iload_n 3, 1) := by decide +kernel
theorem dL_law_563 : decode cL_law 563 = .ok (.iconst 1, 1) := by decide +kernel
theorem dL_law_564 : decode cL_law 564 = .ok (.iadd, 1) := by decide +kernel
theorem dL_law_565 : decode cL_law 565 = .ok (.iaload, 1) := by decide +kernel
theorem dL_law_566 : decode cL_law 566 = .ok (.aload_n 0, 1) := by decide +kernel
theorem dL_law_567 : decode cL_law 567 = .ok (.iload_n 3, 1) := by decide +kernel
theorem dL_law_568 : decode cL_law 568 = .ok (.iconst 2, 1) := by decide +kernel
theorem dL_law_569 : decode cL_law 569 = .ok (.iadd, 1) := by decide +kernel
theorem dL_law_570 : decode cL_law 570 = .ok (.iaload, 1) := by decide +kernel
theorem dL_law_571 : decode cL_law 571 = .ok (.invokevirtual 57, 3) := by decide +kernel
theorem dL_law_574 : decode cL_law 574 = .ok (.aload_n 2, 1) := by decide +kernel
theorem dL_law_575 : decode cL_law 575 = .ok (.aload_n 0, 1) := by decide +kernel
theorem dL_law_576 : decode cL_law 576 = .ok (.iload_n 3, 1) := by decide +kernel
theorem dL_law_577 : decode cL_law 577 = .ok (.iconst 1, 1) := by decide +kernel
theorem dL_law_578 : decode cL_law 578 = .ok (.iadd, 1) := by decide +kernel
theorem dL_law_579 : decode cL_law 579 = .ok (.iaload, 1) := by decide +kernel
theorem dL_law_580 : decode cL_law 580 = .ok (.aload_n 0, 1) := by decide +kernel
theorem dL_law_581 : decode cL_law 581 = .ok (.iload_n 3, 1) := by decide +kernel
theorem dL_law_582 : decode cL_law 582 = .ok (.iconst 2, 1) := by decide +kernel
theorem dL_law_583 : decode cL_law 583 = .ok (.iadd, 1) := by decide +kernel
theorem dL_law_584 : decode cL_law 584 = .ok (.iaload, 1) := by decide +kernel
theorem dL_law_585 : decode cL_law 585 = .ok (.invokevirtual 60, 3) := by decide +kernel
theorem dL_law_588 : decode cL_law 588 = .ok (.if_icmp .eq 1131, 3) := by decide +kernel
theorem dL_law_593 : decode cL_law 593 = .ok (.aload_n 1, 1) := by decide +kernel
theorem dL_law_594 : decode cL_law 594 = .ok (.aload_n 0, 1) := by decide +kernel
theorem dL_law_595 : decode cL_law 595 = .ok (.iload_n 3, 1) := by decide +kernel
theorem dL_law_596 : decode cL_law 596 = .ok (.iconst 1, 1) := by decide +kernel
theorem dL_law_597 : decode cL_law 597 = .ok (.iadd, 1) := by decide +kernel
theorem dL_law_598 : decode cL_law 598 = .ok (.iaload, 1) := by decide +kernel
theorem dL_law_599 : decode cL_law 599 = .ok (.aload_n 0, 1) := by decide +kernel
theorem dL_law_600 : decode cL_law 600 = .ok (.iload_n 3, 1) := by decide +kernel
theorem dL_law_601 : decode cL_law 601 = .ok (.iconst 2, 1) := by decide +kernel
theorem dL_law_602 : decode cL_law 602 = .ok (.iadd, 1) := by decide +kernel
theorem dL_law_603 : decode cL_law 603 = .ok (.iaload, 1) := by decide +kernel
theorem dL_law_604 : decode cL_law 604 = .ok (.invokevirtual 61, 3) := by decide +kernel
theorem dL_law_607 : decode cL_law 607 = .ok (.aload_n 2, 1) := by decide +kernel
theorem dL_law_608 : decode cL_law 608 = .ok (.aload_n 0, 1) := by decide +kernel
theorem dL_law_609 : decode cL_law 609 = .ok (.iload_n 3, 1) := by decide +kernel
theorem dL_law_610 : decode cL_law 610 = .ok (.iconst 1, 1) := by decide +kernel
theorem dL_law_611 : decode cL_law 611 = .ok (.iadd, 1) := by decide +kernel
theorem dL_law_612 : decode cL_law 612 = .ok (.iaload, 1) := by decide +kernel
theorem dL_law_613 : decode cL_law 613 = .ok (.aload_n 0, 1) := by decide +kernel
theorem dL_law_614 : decode cL_law 614 = .ok (.iload_n 3, 1) := by decide +kernel
theorem dL_law_615 : decode cL_law 615 = .ok (.iconst 2, 1) := by decide +kernel
theorem dL_law_616 : decode cL_law 616 = .ok (.iadd, 1) := by decide +kernel
theorem dL_law_617 : decode cL_law 617 = .ok (.iaload, 1) := by decide +kernel
theorem dL_law_618 : decode cL_law 618 = .ok (.invokevirtual 64, 3) := by decide +kernel
theorem dL_law_621 : decode cL_law 621 = .ok (.if_icmp .eq 1098, 3) := by decide +kernel
theorem dL_law_626 : decode cL_law 626 = .ok (.aload_n 1, 1) := by decide +kernel
theorem dL_law_627 : decode cL_law 627 = .ok (.aload_n 0, 1) := by decide +kernel
theorem dL_law_628 : decode cL_law 628 = .ok (.iload_n 3, 1) := by decide +kernel
theorem dL_law_629 : decode cL_law 629 = .ok (.iconst 1, 1) := by decide +kernel
theorem dL_law_630 : decode cL_law 630 = .ok (.iadd, 1) := by decide +kernel
theorem dL_law_631 : decode cL_law 631 = .ok (.iaload, 1) := by decide +kernel
theorem dL_law_632 : decode cL_law 632 = .ok (.aload_n 0, 1) := by decide +kernel
theorem dL_law_633 : decode cL_law 633 = .ok (.iload_n 3, 1) := by decide +kernel
theorem dL_law_634 : decode cL_law 634 = .ok (.iconst 2, 1) := by decide +kernel
theorem dL_law_635 : decode cL_law 635 = .ok (.iadd, 1) := by decide +kernel
theorem dL_law_636 : decode cL_law 636 = .ok (.iaload, 1) := by decide +kernel
theorem dL_law_637 : decode cL_law 637 = .ok (.aload_n 0, 1) := by decide +kernel
theorem dL_law_638 : decode cL_law 638 = .ok (.iload_n 3, 1) := by decide +kernel
theorem dL_law_639 : decode cL_law 639 = .ok (.iconst 3, 1) := by decide +kernel
theorem dL_law_640 : decode cL_law 640 = .ok (.iadd, 1) := by decide +kernel
theorem dL_law_641 : decode cL_law 641 = .ok (.iaload, 1) := by decide +kernel
theorem dL_law_642 : decode cL_law 642 = .ok (.invokevirtual 65, 3) := by decide +kernel
theorem dL_law_645 : decode cL_law 645 = .ok (.aload_n 2, 1) := by decide +kernel
theorem dL_law_646 : decode cL_law 646 = .ok (.aload_n 0, 1) := by decide +kernel
theorem dL_law_647 : decode cL_law 647 = .ok (.iload_n 3, 1) := by decide +kernel
theorem dL_law_648 : decode cL_law 648 = .ok (.iconst 1, 1) := by decide +kernel
theorem dL_law_649 : decode cL_law 649 = .ok (.iadd, 1) := by decide +kernel
theorem dL_law_650 : decode cL_law 650 = .ok (.iaload, 1) := by decide +kernel
theorem dL_law_651 : decode cL_law 651 = .ok (.aload_n 0, 1) := by decide +kernel
theorem dL_law_652 : decode cL_law 652 = .ok (.iload_n 3, 1) := by decide +kernel
theorem dL_law_653 : decode cL_law 653 = .ok (.iconst 2, 1) := by decide +kernel
theorem dL_law_654 : decode cL_law 654 = .ok (.iadd, 1) := by decide +kernel
theorem dL_law_655 : decode cL_law 655 = .ok (.iaload, 1) := by decide +kernel
theorem dL_law_656 : decode cL_law 656 = .ok (.aload_n 0, 1) := by decide +kernel
theorem dL_law_657 : decode cL_law 657 = .ok (.iload_n 3, 1) := by decide +kernel
theorem dL_law_658 : decode cL_law 658 = .ok (.iconst 3, 1) := by decide +kernel
theorem dL_law_659 : decode cL_law 659 = .ok (.iadd, 1) := by decide +kernel
theorem dL_law_660 : decode cL_law 660 = .ok (.iaload, 1) := by decide +kernel
theorem dL_law_661 : decode cL_law 661 = .ok (.invokevirtual 68, 3) := by decide +kernel
theorem dL_law_664 : decode cL_law 664 = .ok (.if_icmp .eq 1055, 3) := by decide +kernel
theorem dL_law_669 : decode cL_law 669 = .ok (.aload_n 1, 1) := by decide +kernel
theorem dL_law_670 : decode cL_law 670 = .ok (.aload_n 0, 1) := by decide +kernel
theorem dL_law_671 : decode cL_law 671 = .ok (.iload_n 3, 1) := by decide +kernel
theorem dL_law_672 : decode cL_law 672 = .ok (.iconst 1, 1) := by decide +kernel
theorem dL_law_673 : decode cL_law 673 = .ok (.iadd, 1) := by decide +kernel
theorem dL_law_674 : decode cL_law 674 = .ok (.iaload, 1) := by decide +kernel
theorem dL_law_675 : decode cL_law 675 = .ok (.aload_n 0, 1) := by decide +kernel
theorem dL_law_676 : decode cL_law 676 = .ok (.iload_n 3, 1) := by decide +kernel
theorem dL_law_677 : decode cL_law 677 = .ok (.iconst 2, 1) := by decide +kernel
theorem dL_law_678 : decode cL_law 678 = .ok (.iadd, 1) := by decide +kernel
theorem dL_law_679 : decode cL_law 679 = .ok (.iaload, 1) := by decide +kernel
theorem dL_law_680 : decode cL_law 680 = .ok (.invokevirtual 69, 3) := by decide +kernel
theorem dL_law_683 : decode cL_law 683 = .ok (.aload_n 2, 1) := by decide +kernel
theorem dL_law_684 : decode cL_law 684 = .ok (.aload_n 0, 1) := by decide +kernel
theorem dL_law_685 : decode cL_law 685 = .ok (.iload_n 3, 1) := by decide +kernel
theorem dL_law_686 : decode cL_law 686 = .ok (.iconst 1, 1) := by decide +kernel
theorem dL_law_687 : decode cL_law 687 = .ok (.iadd, 1) := by decide +kernel
theorem dL_law_688 : decode cL_law 688 = .ok (.iaload, 1) := by decide +kernel
theorem dL_law_689 : decode cL_law 689 = .ok (.aload_n 0, 1) := by decide +kernel
theorem dL_law_690 : decode cL_law 690 = .ok (.iload_n 3, 1) := by decide +kernel
theorem dL_law_691 : decode cL_law 691 = .ok (.iconst 2, 1) := by decide +kernel
theorem dL_law_692 : decode cL_law 692 = .ok (.iadd, 1) := by decide +kernel
theorem dL_law_693 : decode cL_law 693 = .ok (.iaload, 1) := by decide +kernel
theorem dL_law_694 : decode cL_law 694 = .ok (.invokevirtual 72, 3) := by decide +kernel
theorem dL_law_697 : decode cL_law 697 = .ok (.if_icmp .eq 1022, 3) := by decide +kernel
theorem dL_law_702 : decode cL_law 702 = .ok (.aload_n 1, 1) := by decide +kernel
theorem dL_law_703 : decode cL_law 703 = .ok (.aload_n 0, 1) := by decide +kernel
theorem dL_law_704 : decode cL_law 704 = .ok (.iload_n 3, 1) := by decide +kernel
theorem dL_law_705 : decode cL_law 705 = .ok (.iconst 1, 1) := by decide +kernel
theorem dL_law_706 : decode cL_law 706 = .ok (.iadd, 1) := by decide +kernel
theorem dL_law_707 : decode cL_law 707 = .ok (.iaload, 1) := by decide +kernel
theorem dL_law_708 : decode cL_law 708 = .ok (.invokevirtual 73, 3) := by decide +kernel
theorem dL_law_711 : decode cL_law 711 = .ok (.aload_n 2, 1) := by decide +kernel
theorem dL_law_712 : decode cL_law 712 = .ok (.aload_n 0, 1) := by decide +kernel
theorem dL_law_713 : decode cL_law 713 = .ok (.iload_n 3, 1) := by decide +kernel
theorem dL_law_714 : decode cL_law 714 = .ok (.iconst 1, 1) := by decide +kernel
theorem dL_law_715 : decode cL_law 715 = .ok (.iadd, 1) := by decide +kernel
theorem dL_law_716 : decode cL_law 716 = .ok (.iaload, 1) := by decide +kernel
theorem dL_law_717 : decode cL_law 717 = .ok (.invokevirtual 76, 3) := by decide +kernel
theorem dL_law_720 : decode cL_law 720 = .ok (.if_icmp .eq 999, 3) := by decide +kernel
theorem dL_law_725 : decode cL_law 725 = .ok (.aload_n 1, 1) := by decide +kernel
theorem dL_law_726 : decode cL_law 726 = .ok (.aload_n 0, 1) := by decide +kernel
theorem dL_law_727 : decode cL_law 727 = .ok (.iload_n 3, 1) := by decide +kernel
theorem dL_law_728 : decode cL_law 728 = .ok (.iconst 1, 1) := by decide +kernel
theorem dL_law_729 : decode cL_law 729 = .ok (.iadd, 1) := by decide +kernel
theorem dL_law_730 : decode cL_law 730 = .ok (.iaload, 1) := by decide +kernel
theorem dL_law_731 : decode cL_law 731 = .ok (.aload_n 0, 1) := by decide +kernel
theorem dL_law_732 : decode cL_law 732 = .ok (.iload_n 3, 1) := by decide +kernel
theorem dL_law_733 : decode cL_law 733 = .ok (.iconst 2, 1) := by decide +kernel
theorem dL_law_734 : decode cL_law 734 = .ok (.iadd, 1) := by decide +kernel
theorem dL_law_735 : decode cL_law 735 = .ok (.iaload, 1) := by decide +kernel
theorem dL_law_736 : decode cL_law 736 = .ok (.invokevirtual 77, 3) := by decide +kernel
theorem dL_law_739 : decode cL_law 739 = .ok (.aload_n 2, 1) := by decide +kernel
theorem dL_law_740 : decode cL_law 740 = .ok (.aload_n 0, 1) := by decide +kernel
theorem dL_law_741 : decode cL_law 741 = .ok (.iload_n 3, 1) := by decide +kernel
theorem dL_law_742 : decode cL_law 742 = .ok (.iconst 1, 1) := by decide +kernel
theorem dL_law_743 : decode cL_law 743 = .ok (.iadd, 1) := by decide +kernel
theorem dL_law_744 : decode cL_law 744 = .ok (.iaload, 1) := by decide +kernel
theorem dL_law_745 : decode cL_law 745 = .ok (.aload_n 0, 1) := by decide +kernel
theorem dL_law_746 : decode cL_law 746 = .ok (.iload_n 3, 1) := by decide +kernel
theorem dL_law_747 : decode cL_law 747 = .ok (.iconst 2, 1) := by decide +kernel
theorem dL_law_748 : decode cL_law 748 = .ok (.iadd, 1) := by decide +kernel
theorem dL_law_749 : decode cL_law 749 = .ok (.iaload, 1) := by decide +kernel
theorem dL_law_750 : decode cL_law 750 = .ok (.invokevirtual 80, 3) := by decide +kernel
theorem dL_law_753 : decode cL_law 753 = .ok (.if_icmp .eq 966, 3) := by decide +kernel
theorem dL_law_758 : decode cL_law 758 = .ok (.aload_n 1, 1) := by decide +kernel
theorem dL_law_759 : decode cL_law 759 = .ok (.aload_n 0, 1) := by decide +kernel
theorem dL_law_760 : decode cL_law 760 = .ok (.iload_n 3, 1) := by decide +kernel
theorem dL_law_761 : decode cL_law 761 = .ok (.iconst 1, 1) := by decide +kernel
theorem dL_law_762 : decode cL_law 762 = .ok (.iadd, 1) := by decide +kernel
theorem dL_law_763 : decode cL_law 763 = .ok (.iaload, 1) := by decide +kernel
theorem dL_law_764 : decode cL_law 764 = .ok (.aload_n 0, 1) := by decide +kernel
theorem dL_law_765 : decode cL_law 765 = .ok (.iload_n 3, 1) := by decide +kernel
theorem dL_law_766 : decode cL_law 766 = .ok (.iconst 2, 1) := by decide +kernel
theorem dL_law_767 : decode cL_law 767 = .ok (.iadd, 1) := by decide +kernel
theorem dL_law_768 : decode cL_law 768 = .ok (.iaload, 1) := by decide +kernel
theorem dL_law_769 : decode cL_law 769 = .ok (.aload_n 0, 1) := by decide +kernel
theorem dL_law_770 : decode cL_law 770 = .ok (.iload_n 3, 1) := by decide +kernel
theorem dL_law_771 : decode cL_law 771 = .ok (.iconst 3, 1) := by decide +kernel
theorem dL_law_772 : decode cL_law 772 = .ok (.iadd, 1) := by decide +kernel
theorem dL_law_773 : decode cL_law 773 = .ok (.iaload, 1) := by decide +kernel
theorem dL_law_774 : decode cL_law 774 = .ok (.invokevirtual 81, 3) := by decide +kernel
theorem dL_law_777 : decode cL_law 777 = .ok (.aload_n 2, 1) := by decide +kernel
theorem dL_law_778 : decode cL_law 778 = .ok (.aload_n 0, 1) := by decide +kernel
theorem dL_law_779 : decode cL_law 779 = .ok (.iload_n 3, 1) := by decide +kernel
theorem dL_law_780 : decode cL_law 780 = .ok (.iconst 1, 1) := by decide +kernel
theorem dL_law_781 : decode cL_law 781 = .ok (.iadd, 1) := by decide +kernel
theorem dL_law_782 : decode cL_law 782 = .ok (.iaload, 1) := by decide +kernel
theorem dL_law_783 : decode cL_law 783 = .ok (.aload_n 0, 1) := by decide +kernel
theorem dL_law_784 : decode cL_law 784 = .ok (.iload_n 3, 1) := by decide +kernel
theorem dL_law_785 : decode cL_law 785 = .ok (.iconst 2, 1) := by decide +kernel
theorem dL_law_786 : decode cL_law 786 = .ok (.iadd, 1) := by decide +kernel
theorem dL_law_787 : decode cL_law 787 = .ok (.iaload, 1) := by decide +kernel
theorem dL_law_788 : decode cL_law 788 = .ok (.aload_n 0, 1) := by decide +kernel
theorem dL_law_789 : decode cL_law 789 = .ok (.iload_n 3, 1) := by decide +kernel
theorem dL_law_790 : decode cL_law 790 = .ok (.iconst 3, 1) := by decide +kernel
theorem dL_law_791 : decode cL_law 791 = .ok (.iadd, 1) := by decide +kernel
theorem dL_law_792 : decode cL_law 792 = .ok (.iaload, 1) := by decide +kernel
theorem dL_law_793 : decode cL_law 793 = .ok (.invokevirtual 84, 3) := by decide +kernel
theorem dL_law_796 : decode cL_law 796 = .ok (.if_icmp .eq 923, 3) := by decide +kernel
theorem dL_law_801 : decode cL_law 801 = .ok (.aload_n 1, 1) := by decide +kernel
theorem dL_law_802 : decode cL_law 802 = .ok (.aload_n 0, 1) := by decide +kernel
theorem dL_law_803 : decode cL_law 803 = .ok (.iload_n 3, 1) := by decide +kernel
theorem dL_law_804 : decode cL_law 804 = .ok (.iconst 1, 1) := by decide +kernel
theorem dL_law_805 : decode cL_law 805 = .ok (.iadd, 1) := by decide +kernel
theorem dL_law_806 : decode cL_law 806 = .ok (.iaload, 1) := by decide +kernel
theorem dL_law_807 : decode cL_law 807 = .ok (.aload_n 0, 1) := by decide +kernel
theorem dL_law_808 : decode cL_law 808 = .ok (.iload_n 3, 1) := by decide +kernel
theorem dL_law_809 : decode cL_law 809 = .ok (.iconst 2, 1) := by decide +kernel
theorem dL_law_810 : decode cL_law 810 = .ok (.iadd, 1) := by decide +kernel
theorem dL_law_811 : decode cL_law 811 = .ok (.iaload, 1) := by decide +kernel
theorem dL_law_812 : decode cL_law 812 = .ok (.invokevirtual 85, 3) := by decide +kernel
theorem dL_law_815 : decode cL_law 815 = .ok (.aload_n 2, 1) := by decide +kernel
theorem dL_law_816 : decode cL_law 816 = .ok (.aload_n 0, 1) := by decide +kernel
theorem dL_law_817 : decode cL_law 817 = .ok (.iload_n 3, 1) := by decide +kernel
theorem dL_law_818 : decode cL_law 818 = .ok (.iconst 1, 1) := by decide +kernel
theorem dL_law_819 : decode cL_law 819 = .ok (.iadd, 1) := by decide +kernel
theorem dL_law_820 : decode cL_law 820 = .ok (.iaload, 1) := by decide +kernel
theorem dL_law_821 : decode cL_law 821 = .ok (.aload_n 0, 1) := by decide +kernel
theorem dL_law_822 : decode cL_law 822 = .ok (.iload_n 3, 1) := by decide +kernel
theorem dL_law_823 : decode cL_law 823 = .ok (.iconst 2, 1) := by decide +kernel
theorem dL_law_824 : decode cL_law 824 = .ok (.iadd, 1) := by decide +kernel
theorem dL_law_825 : decode cL_law 825 = .ok (.iaload, 1) := by decide +kernel
theorem dL_law_826 : decode cL_law 826 = .ok (.invokevirtual 88, 3) := by decide +kernel
theorem dL_law_829 : decode cL_law 829 = .ok (.if_icmp .eq 890, 3) := by decide +kernel
theorem dL_law_834 : decode cL_law 834 = .ok (.aload_n 1, 1) := by decide +kernel
theorem dL_law_835 : decode cL_law 835 = .ok (.aload_n 0, 1) := by decide +kernel
theorem dL_law_836 : decode cL_law 836 = .ok (.iload_n 3, 1) := by decide +kernel
theorem dL_law_837 : decode cL_law 837 = .ok (.iconst 1, 1) := by decide +kernel
theorem dL_law_838 : decode cL_law 838 = .ok (.iadd, 1) := by decide +kernel
theorem dL_law_839 : decode cL_law 839 = .ok (.iaload, 1) := by decide +kernel
theorem dL_law_840 : decode cL_law 840 = .ok (.aload_n 0, 1) := by decide +kernel
theorem dL_law_841 : decode cL_law 841 = .ok (.iload_n 3, 1) := by decide +kernel
theorem dL_law_842 : decode cL_law 842 = .ok (.iconst 2, 1) := by decide +kernel
theorem dL_law_843 : decode cL_law 843 = .ok (.iadd, 1) := by decide +kernel
theorem dL_law_844 : decode cL_law 844 = .ok (.iaload, 1) := by decide +kernel
theorem dL_law_845 : decode cL_law 845 = .ok (.aload_n 0, 1) := by decide +kernel
theorem dL_law_846 : decode cL_law 846 = .ok (.iload_n 3, 1) := by decide +kernel
theorem dL_law_847 : decode cL_law 847 = .ok (.iconst 3, 1) := by decide +kernel
theorem dL_law_848 : decode cL_law 848 = .ok (.iadd, 1) := by decide +kernel
theorem dL_law_849 : decode cL_law 849 = .ok (.iaload, 1) := by decide +kernel
theorem dL_law_850 : decode cL_law 850 = .ok (.invokevirtual 89, 3) := by decide +kernel
theorem dL_law_853 : decode cL_law 853 = .ok (.aload_n 2, 1) := by decide +kernel
theorem dL_law_854 : decode cL_law 854 = .ok (.aload_n 0, 1) := by decide +kernel
theorem dL_law_855 : decode cL_law 855 = .ok (.iload_n 3, 1) := by decide +kernel
theorem dL_law_856 : decode cL_law 856 = .ok (.iconst 1, 1) := by decide +kernel
theorem dL_law_857 : decode cL_law 857 = .ok (.iadd, 1) := by decide +kernel
theorem dL_law_858 : decode cL_law 858 = .ok (.iaload, 1) := by decide +kernel
theorem dL_law_859 : decode cL_law 859 = .ok (.aload_n 0, 1) := by decide +kernel
theorem dL_law_860 : decode cL_law 860 = .ok (.iload_n 3, 1) := by decide +kernel
theorem dL_law_861 : decode cL_law 861 = .ok (.iconst 2, 1) := by decide +kernel
theorem dL_law_862 : decode cL_law 862 = .ok (.iadd, 1) := by decide +kernel
theorem dL_law_863 : decode cL_law 863 = .ok (.iaload, 1) := by decide +kernel
theorem dL_law_864 : decode cL_law 864 = .ok (.aload_n 0, 1) := by decide +kernel
theorem dL_law_865 : decode cL_law 865 = .ok (.iload_n 3, 1) := by decide +kernel
theorem dL_law_866 : decode cL_law 866 = .ok (.iconst 3, 1) := by decide +kernel
theorem dL_law_867 : decode cL_law 867 = .ok (.iadd, 1) := by decide +kernel
theorem dL_law_868 : decode cL_law 868 = .ok (.iaload, 1) := by decide +kernel
theorem dL_law_869 : decode cL_law 869 = .ok (.invokevirtual 92, 3) := by decide +kernel
theorem dL_law_872 : decode cL_law 872 = .ok (.if_icmp .eq 847, 3) := by decide +kernel
theorem dL_law_877 : decode cL_law 877 = .ok (.aload_n 1, 1) := by decide +kernel
theorem dL_law_878 : decode cL_law 878 = .ok (.aload_n 0, 1) := by decide +kernel
theorem dL_law_879 : decode cL_law 879 = .ok (.iload_n 3, 1) := by decide +kernel
theorem dL_law_880 : decode cL_law 880 = .ok (.iconst 1, 1) := by decide +kernel
theorem dL_law_881 : decode cL_law 881 = .ok (.iadd, 1) := by decide +kernel
theorem dL_law_882 : decode cL_law 882 = .ok (.iaload, 1) := by decide +kernel
theorem dL_law_883 : decode cL_law 883 = .ok (.aload_n 0, 1) := by decide +kernel
theorem dL_law_884 : decode cL_law 884 = .ok (.iload_n 3, 1) := by decide +kernel
theorem dL_law_885 : decode cL_law 885 = .ok (.iconst 2, 1) := by decide +kernel
theorem dL_law_886 : decode cL_law 886 = .ok (.iadd, 1) := by decide +kernel
theorem dL_law_887 : decode cL_law 887 = .ok (.iaload, 1) := by decide +kernel
theorem dL_law_888 : decode cL_law 888 = .ok (.invokevirtual 93, 3) := by decide +kernel
theorem dL_law_891 : decode cL_law 891 = .ok (.aload_n 2, 1) := by decide +kernel
theorem dL_law_892 : decode cL_law 892 = .ok (.aload_n 0, 1) := by decide +kernel
theorem dL_law_893 : decode cL_law 893 = .ok (.iload_n 3, 1) := by decide +kernel
theorem dL_law_894 : decode cL_law 894 = .ok (.iconst 1, 1) := by decide +kernel
theorem dL_law_895 : decode cL_law 895 = .ok (.iadd, 1) := by decide +kernel
theorem dL_law_896 : decode cL_law 896 = .ok (.iaload, 1) := by decide +kernel
theorem dL_law_897 : decode cL_law 897 = .ok (.aload_n 0, 1) := by decide +kernel
theorem dL_law_898 : decode cL_law 898 = .ok (.iload_n 3, 1) := by decide +kernel
theorem dL_law_899 : decode cL_law 899 = .ok (.iconst 2, 1) := by decide +kernel
theorem dL_law_900 : decode cL_law 900 = .ok (.iadd, 1) := by decide +kernel
theorem dL_law_901 : decode cL_law 901 = .ok (.iaload, 1) := by decide +kernel
theorem dL_law_902 : decode cL_law 902 = .ok (.invokevirtual 96, 3) := by decide +kernel
theorem dL_law_905 : decode cL_law 905 = .ok (.if_icmp .eq 814, 3) := by decide +kernel
theorem dL_law_910 : decode cL_law 910 = .ok (.aload_n 1, 1) := by decide +kernel
theorem dL_law_911 : decode cL_law 911 = .ok (.aload_n 0, 1) := by decide +kernel
theorem dL_law_912 : decode cL_law 912 = .ok (.iload_n 3, 1) := by decide +kernel
theorem dL_law_913 : decode cL_law 913 = .ok (.iconst 1, 1) := by decide +kernel
theorem dL_law_914 : decode cL_law 914 = .ok (.iadd, 1) := by decide +kernel
theorem dL_law_915 : decode cL_law 915 = .ok (.iaload, 1) := by decide +kernel
theorem dL_law_916 : decode cL_law 916 = .ok (.aload_n 0, 1) := by decide +kernel
theorem dL_law_917 : decode cL_law 917 = .ok (.iload_n 3, 1) := by decide +kernel
theorem dL_law_918 : decode cL_law 918 = .ok (.iconst 2, 1) := by decide +kernel
theorem dL_law_919 : decode cL_law 919 = .ok (.iadd, 1) := by decide +kernel
theorem dL_law_920 : decode cL_law 920 = .ok (.iaload, 1) := by decide +kernel
theorem dL_law_921 : decode cL_law 921 = .ok (.aload_n 0, 1) := by decide +kernel
theorem dL_law_922 : decode cL_law 922 = .ok (.iload_n 3, 1) := by decide +kernel
theorem dL_law_923 : decode cL_law 923 = .ok (.iconst 3, 1) := by decide +kernel
theorem dL_law_924 : decode cL_law 924 = .ok (.iadd, 1) := by decide +kernel
theorem dL_law_925 : decode cL_law 925 = .ok (.iaload, 1) := by decide +kernel
theorem dL_law_926 : decode cL_law 926 = .ok (.invokevirtual 97, 3) := by decide +kernel
theorem dL_law_929 : decode cL_law 929 = .ok (.aload_n 2, 1) := by decide +kernel
theorem dL_law_930 : decode cL_law 930 = .ok (.aload_n 0, 1) := by decide +kernel
theorem dL_law_931 : decode cL_law 931 = .ok (.iload_n 3, 1) := by decide +kernel
theorem dL_law_932 : decode cL_law 932 = .ok (.iconst 1, 1) := by decide +kernel
theorem dL_law_933 : decode cL_law 933 = .ok (.iadd, 1) := by decide +kernel
theorem dL_law_934 : decode cL_law 934 = .ok (.iaload, 1) := by decide +kernel
theorem dL_law_935 : decode cL_law 935 = .ok (.aload_n 0, 1) := by decide +kernel
theorem dL_law_936 : decode cL_law 936 = .ok (.iload_n 3, 1) := by decide +kernel
theorem dL_law_937 : decode cL_law 937 = .ok (.iconst 2, 1) := by decide +kernel
theorem dL_law_938 : decode cL_law 938 = .ok (.iadd, 1) := by decide +kernel
theorem dL_law_939 : decode cL_law 939 = .ok (.iaload, 1) := by decide +kernel
theorem dL_law_940 : decode cL_law 940 = .ok (.aload_n 0, 1) := by decide +kernel
theorem dL_law_941 : decode cL_law 941 = .ok (.iload_n 3, 1) := by decide +kernel
theorem dL_law_942 : decode cL_law 942 = .ok (.iconst 3, 1) := by decide +kernel
theorem dL_law_943 : decode cL_law 943 = .ok (.iadd, 1) := by decide +kernel
theorem dL_law_944 : decode cL_law 944 = .ok (.iaload, 1) := by decide +kernel
theorem dL_law_945 : decode cL_law 945 = .ok (.invokevirtual 100, 3) := by decide +kernel
theorem dL_law_948 : decode cL_law 948 = .ok (.if_icmp .eq 771, 3) := by decide +kernel
theorem dL_law_953 : decode cL_law 953 = .ok (.aload_n 1, 1) := by decide +kernel
theorem dL_law_954 : decode cL_law 954 = .ok (.aload_n 0, 1) := by decide +kernel
theorem dL_law_955 : decode cL_law 955 = .ok (.iload_n 3, 1) := by decide +kernel
theorem dL_law_956 : decode cL_law 956 = .ok (.iconst 1, 1) := by decide +kernel
theorem dL_law_957 : decode cL_law 957 = .ok (.iadd, 1) := by decide +kernel
theorem dL_law_958 : decode cL_law 958 = .ok (.iaload, 1) := by decide +kernel
theorem dL_law_959 : decode cL_law 959 = .ok (.invokevirtual 101, 3) := by decide +kernel
theorem dL_law_962 : decode cL_law 962 = .ok (.aload_n 2, 1) := by decide +kernel
theorem dL_law_963 : decode cL_law 963 = .ok (.aload_n 0, 1) := by decide +kernel
theorem dL_law_964 : decode cL_law 964 = .ok (.iload_n 3, 1) := by decide +kernel
theorem dL_law_965 : decode cL_law 965 = .ok (.iconst 1, 1) := by decide +kernel
theorem dL_law_966 : decode cL_law 966 = .ok (.iadd, 1) := by decide +kernel
theorem dL_law_967 : decode cL_law 967 = .ok (.iaload, 1) := by decide +kernel
theorem dL_law_968 : decode cL_law 968 = .ok (.invokevirtual 104, 3) := by decide +kernel
theorem dL_law_971 : decode cL_law 971 = .ok (.if_icmp .eq 748, 3) := by decide +kernel
theorem dL_law_976 : decode cL_law 976 = .ok (.aload_n 1, 1) := by decide +kernel
theorem dL_law_977 : decode cL_law 977 = .ok (.aload_n 0, 1) := by decide +kernel
theorem dL_law_978 : decode cL_law 978 = .ok (.iload_n 3, 1) := by decide +kernel
theorem dL_law_979 : decode cL_law 979 = .ok (.iconst 1, 1) := by decide +kernel
theorem dL_law_980 : decode cL_law 980 = .ok (.iadd, 1) := by decide +kernel
theorem dL_law_981 : decode cL_law 981 = .ok (.iaload, 1) := by decide +kernel
theorem dL_law_982 : decode cL_law 982 = .ok (.aload_n 0, 1) := by decide +kernel
theorem dL_law_983 : decode cL_law 983 = .ok (.iload_n 3, 1) := by decide +kernel
theorem dL_law_984 : decode cL_law 984 = .ok (.iconst 2, 1) := by decide +kernel
theorem dL_law_985 : decode cL_law 985 = .ok (.iadd, 1) := by decide +kernel
theorem dL_law_986 : decode cL_law 986 = .ok (.iaload, 1) := by decide +kernel
theorem dL_law_987 : decode cL_law 987 = .ok (.aload_n 0, 1) := by decide +kernel
theorem dL_law_988 : decode cL_law 988 = .ok (.iload_n 3, 1) := by decide +kernel
theorem dL_law_989 : decode cL_law 989 = .ok (.iconst 3, 1) := by decide +kernel
theorem dL_law_990 : decode cL_law 990 = .ok (.iadd, 1) := by decide +kernel
theorem dL_law_991 : decode cL_law 991 = .ok (.iaload, 1) := by decide +kernel
theorem dL_law_992 : decode cL_law 992 = .ok (.invokevirtual 105, 3) := by decide +kernel
theorem dL_law_995 : decode cL_law 995 = .ok (.aload_n 2, 1) := by decide +kernel
theorem dL_law_996 : decode cL_law 996 = .ok (.aload_n 0, 1) := by decide +kernel
theorem dL_law_997 : decode cL_law 997 = .ok (.iload_n 3, 1) := by decide +kernel
theorem dL_law_998 : decode cL_law 998 = .ok (.iconst 1, 1) := by decide +kernel
theorem dL_law_999 : decode cL_law 999 = .ok (.iadd, 1) := by decide +kernel
theorem dL_law_1000 : decode cL_law 1000 = .ok (.iaload, 1) := by decide +kernel
theorem dL_law_1001 : decode cL_law 1001 = .ok (.aload_n 0, 1) := by decide +kernel
theorem dL_law_1002 : decode cL_law 1002 = .ok (.iload_n 3, 1) := by decide +kernel
theorem dL_law_1003 : decode cL_law 1003 = .ok (.iconst 2, 1) := by decide +kernel
theorem dL_law_1004 : decode cL_law 1004 = .ok (.iadd, 1) := by decide +kernel
theorem dL_law_1005 : decode cL_law 1005 = .ok (.iaload, 1) := by decide +kernel
theorem dL_law_1006 : decode cL_law 1006 = .ok (.aload_n 0, 1) := by decide +kernel
theorem dL_law_1007 : decode cL_law 1007 = .ok (.iload_n 3, 1) := by decide +kernel
theorem dL_law_1008 : decode cL_law 1008 = .ok (.iconst 3, 1) := by decide +kernel
theorem dL_law_1009 : decode cL_law 1009 = .ok (.iadd, 1) := by decide +kernel
theorem dL_law_1010 : decode cL_law 1010 = .ok (.iaload, 1) := by decide +kernel
theorem dL_law_1011 : decode cL_law 1011 = .ok (.invokevirtual 108, 3) := by decide +kernel
theorem dL_law_1014 : decode cL_law 1014 = .ok (.if_icmp .eq 705, 3) := by decide +kernel
theorem dL_law_1019 : decode cL_law 1019 = .ok (.aload_n 1, 1) := by decide +kernel
theorem dL_law_1020 : decode cL_law 1020 = .ok (.aload_n 0, 1) := by decide +kernel
theorem dL_law_1021 : decode cL_law 1021 = .ok (.iload_n 3, 1) := by decide +kernel
theorem dL_law_1022 : decode cL_law 1022 = .ok (.iconst 1, 1) := by decide +kernel
theorem dL_law_1023 : decode cL_law 1023 = .ok (.iadd, 1) := by decide +kernel
theorem dL_law_1024 : decode cL_law 1024 = .ok (.iaload, 1) := by decide +kernel
theorem dL_law_1025 : decode cL_law 1025 = .ok (.aload_n 0, 1) := by decide +kernel
theorem dL_law_1026 : decode cL_law 1026 = .ok (.iload_n 3, 1) := by decide +kernel
theorem dL_law_1027 : decode cL_law 1027 = .ok (.iconst 2, 1) := by decide +kernel
theorem dL_law_1028 : decode cL_law 1028 = .ok (.iadd, 1) := by decide +kernel
theorem dL_law_1029 : decode cL_law 1029 = .ok (.iaload, 1) := by decide +kernel
theorem dL_law_1030 : decode cL_law 1030 = .ok (.aload_n 0, 1) := by decide +kernel
theorem dL_law_1031 : decode cL_law 1031 = .ok (.iload_n 3, 1) := by decide +kernel
theorem dL_law_1032 : decode cL_law 1032 = .ok (.iconst 3, 1) := by decide +kernel
theorem dL_law_1033 : decode cL_law 1033 = .ok (.iadd, 1) := by decide +kernel
theorem dL_law_1034 : decode cL_law 1034 = .ok (.iaload, 1) := by decide +kernel
theorem dL_law_1035 : decode cL_law 1035 = .ok (.invokevirtual 109, 3) := by decide +kernel
theorem dL_law_1038 : decode cL_law 1038 = .ok (.aload_n 2, 1) := by decide +kernel
theorem dL_law_1039 : decode cL_law 1039 = .ok (.aload_n 0, 1) := by decide +kernel
theorem dL_law_1040 : decode cL_law 1040 = .ok (.iload_n 3, 1) := by decide +kernel
theorem dL_law_1041 : decode cL_law 1041 = .ok (.iconst 1, 1) := by decide +kernel
theorem dL_law_1042 : decode cL_law 1042 = .ok (.iadd, 1) := by decide +kernel
theorem dL_law_1043 : decode cL_law 1043 = .ok (.iaload, 1) := by decide +kernel
theorem dL_law_1044 : decode cL_law 1044 = .ok (.aload_n 0, 1) := by decide +kernel
theorem dL_law_1045 : decode cL_law 1045 = .ok (.iload_n 3, 1) := by decide +kernel
theorem dL_law_1046 : decode cL_law 1046 = .ok (.iconst 2, 1) := by decide +kernel
theorem dL_law_1047 : decode cL_law 1047 = .ok (.iadd, 1) := by decide +kernel
theorem dL_law_1048 : decode cL_law 1048 = .ok (.iaload, 1) := by decide +kernel
theorem dL_law_1049 : decode cL_law 1049 = .ok (.aload_n 0, 1) := by decide +kernel
theorem dL_law_1050 : decode cL_law 1050 = .ok (.iload_n 3, 1) := by decide +kernel
theorem dL_law_1051 : decode cL_law 1051 = .ok (.iconst 3, 1) := by decide +kernel
theorem dL_law_1052 : decode cL_law 1052 = .ok (.iadd, 1) := by decide +kernel
theorem dL_law_1053 : decode cL_law 1053 = .ok (.iaload, 1) := by decide +kernel
theorem dL_law_1054 : decode cL_law 1054 = .ok (.invokevirtual 112, 3) := by decide +kernel
theorem dL_law_1057 : decode cL_law 1057 = .ok (.if_icmp .eq 662, 3) := by decide +kernel
theorem dL_law_1062 : decode cL_law 1062 = .ok (.aload_n 1, 1) := by decide +kernel
theorem dL_law_1063 : decode cL_law 1063 = .ok (.aload_n 0, 1) := by decide +kernel
theorem dL_law_1064 : decode cL_law 1064 = .ok (.iload_n 3, 1) := by decide +kernel
theorem dL_law_1065 : decode cL_law 1065 = .ok (.iconst 1, 1) := by decide +kernel
theorem dL_law_1066 : decode cL_law 1066 = .ok (.iadd, 1) := by decide +kernel
theorem dL_law_1067 : decode cL_law 1067 = .ok (.iaload, 1) := by decide +kernel
theorem dL_law_1068 : decode cL_law 1068 = .ok (.invokevirtual 113, 3) := by decide +kernel
theorem dL_law_1071 : decode cL_law 1071 = .ok (.aload_n 2, 1) := by decide +kernel
theorem dL_law_1072 : decode cL_law 1072 = .ok (.aload_n 0, 1) := by decide +kernel
theorem dL_law_1073 : decode cL_law 1073 = .ok (.iload_n 3, 1) := by decide +kernel
theorem dL_law_1074 : decode cL_law 1074 = .ok (.iconst 1, 1) := by decide +kernel
theorem dL_law_1075 : decode cL_law 1075 = .ok (.iadd, 1) := by decide +kernel
theorem dL_law_1076 : decode cL_law 1076 = .ok (.iaload, 1) := by decide +kernel
theorem dL_law_1077 : decode cL_law 1077 = .ok (.invokevirtual 116, 3) := by decide +kernel
theorem dL_law_1080 : decode cL_law 1080 = .ok (.if_icmp .eq 639, 3) := by decide +kernel
theorem dL_law_1085 : decode cL_law 1085 = .ok (.aload_n 1, 1) := by decide +kernel
theorem dL_law_1086 : decode cL_law 1086 = .ok (.aload_n 0, 1) := by decide +kernel
theorem dL_law_1087 : decode cL_law 1087 = .ok (.iload_n 3, 1) := by decide +kernel
theorem dL_law_1088 : decode cL_law 1088 = .ok (.iconst 1, 1) := by decide +kernel
theorem dL_law_1089 : decode cL_law 1089 = .ok (.iadd, 1) := by decide +kernel
theorem dL_law_1090 : decode cL_law 1090 = .ok (.iaload, 1) := by decide +kernel
theorem dL_law_1091 : decode cL_law 1091 = .ok (.aload_n 0, 1) := by decide +kernel
theorem dL_law_1092 : decode cL_law 1092 = .ok (.iload_n 3, 1) := by decide +kernel
theorem dL_law_1093 : decode cL_law 1093 = .ok (.iconst 2, 1) := by decide +kernel
theorem dL_law_1094 : decode cL_law 1094 = .ok (.iadd, 1) := by decide +kernel
theorem dL_law_1095 : decode cL_law 1095 = .ok (.iaload, 1) := by decide +kernel
theorem dL_law_1096 : decode cL_law 1096 = .ok (.aload_n 0, 1) := by decide +kernel
theorem dL_law_1097 : decode cL_law 1097 = .ok (.iload_n 3, 1) := by decide +kernel
theorem dL_law_1098 : decode cL_law 1098 = .ok (.iconst 3, 1) := by decide +kernel
theorem dL_law_1099 : decode cL_law 1099 = .ok (.iadd, 1) := by decide +kernel
theorem dL_law_1100 : decode cL_law 1100 = .ok (.iaload, 1) := by decide +kernel
theorem dL_law_1101 : decode cL_law 1101 = .ok (.invokevirtual 117, 3) := by decide +kernel
theorem dL_law_1104 : decode cL_law 1104 = .ok (.aload_n 2, 1) := by decide +kernel
theorem dL_law_1105 : decode cL_law 1105 = .ok (.aload_n 0, 1) := by decide +kernel
theorem dL_law_1106 : decode cL_law 1106 = .ok (.iload_n 3, 1) := by decide +kernel
theorem dL_law_1107 : decode cL_law 1107 = .ok (.iconst 1, 1) := by decide +kernel
theorem dL_law_1108 : decode cL_law 1108 = .ok (.iadd, 1) := by decide +kernel
theorem dL_law_1109 : decode cL_law 1109 = .ok (.iaload, 1) := by decide +kernel
theorem dL_law_1110 : decode cL_law 1110 = .ok (.aload_n 0, 1) := by decide +kernel
theorem dL_law_1111 : decode cL_law 1111 = .ok (.iload_n 3, 1) := by decide +kernel
theorem dL_law_1112 : decode cL_law 1112 = .ok (.iconst 2, 1) := by decide +kernel
theorem dL_law_1113 : decode cL_law 1113 = .ok (.iadd, 1) := by decide +kernel
theorem dL_law_1114 : decode cL_law 1114 = .ok (.iaload, 1) := by decide +kernel
theorem dL_law_1115 : decode cL_law 1115 = .ok (.aload_n 0, 1) := by decide +kernel
theorem dL_law_1116 : decode cL_law 1116 = .ok (.iload_n 3, 1) := by decide +kernel
theorem dL_law_1117 : decode cL_law 1117 = .ok (.iconst 3, 1) := by decide +kernel
theorem dL_law_1118 : decode cL_law 1118 = .ok (.iadd, 1) := by decide +kernel
theorem dL_law_1119 : decode cL_law 1119 = .ok (.iaload, 1) := by decide +kernel
theorem dL_law_1120 : decode cL_law 1120 = .ok (.invokevirtual 120, 3) := by decide +kernel
theorem dL_law_1123 : decode cL_law 1123 = .ok (.if_icmp .eq 596, 3) := by decide +kernel
theorem dL_law_1128 : decode cL_law 1128 = .ok (.aload_n 1, 1) := by decide +kernel
theorem dL_law_1129 : decode cL_law 1129 = .ok (.aload_n 0, 1) := by decide +kernel
theorem dL_law_1130 : decode cL_law 1130 = .ok (.iload_n 3, 1) := by decide +kernel
theorem dL_law_1131 : decode cL_law 1131 = .ok (.iconst 1, 1) := by decide +kernel
theorem dL_law_1132 : decode cL_law 1132 = .ok (.iadd, 1) := by decide +kernel
theorem dL_law_1133 : decode cL_law 1133 = .ok (.iaload, 1) := by decide +kernel
theorem dL_law_1134 : decode cL_law 1134 = .ok (.aload_n 0, 1) := by decide +kernel
theorem dL_law_1135 : decode cL_law 1135 = .ok (.iload_n 3, 1) := by decide +kernel
theorem dL_law_1136 : decode cL_law 1136 = .ok (.iconst 2, 1) := by decide +kernel
theorem dL_law_1137 : decode cL_law 1137 = .ok (.iadd, 1) := by decide +kernel
theorem dL_law_1138 : decode cL_law 1138 = .ok (.iaload, 1) := by decide +kernel
theorem dL_law_1139 : decode cL_law 1139 = .ok (.invokevirtual 121, 3) := by decide +kernel
theorem dL_law_1142 : decode cL_law 1142 = .ok (.aload_n 2, 1) := by decide +kernel
theorem dL_law_1143 : decode cL_law 1143 = .ok (.aload_n 0, 1) := by decide +kernel
theorem dL_law_1144 : decode cL_law 1144 = .ok (.iload_n 3, 1) := by decide +kernel
theorem dL_law_1145 : decode cL_law 1145 = .ok (.iconst 1, 1) := by decide +kernel
theorem dL_law_1146 : decode cL_law 1146 = .ok (.iadd, 1) := by decide +kernel
theorem dL_law_1147 : decode cL_law 1147 = .ok (.iaload, 1) := by decide +kernel
theorem dL_law_1148 : decode cL_law 1148 = .ok (.aload_n 0, 1) := by decide +kernel
theorem dL_law_1149 : decode cL_law 1149 = .ok (.iload_n 3, 1) := by decide +kernel
theorem dL_law_1150 : decode cL_law 1150 = .ok (.iconst 2, 1) := by decide +kernel
theorem dL_law_1151 : decode cL_law 1151 = .ok (.iadd, 1) := by decide +kernel
theorem dL_law_1152 : decode cL_law 1152 = .ok (.iaload, 1) := by decide +kernel
theorem dL_law_1153 : decode cL_law 1153 = .ok (.invokevirtual 124, 3) := by decide +kernel
theorem dL_law_1156 : decode cL_law 1156 = .ok (.if_icmp .eq 563, 3) := by decide +kernel
theorem dL_law_1161 : decode cL_law 1161 = .ok (.aload_n 1, 1) := by decide +kernel
theorem dL_law_1162 : decode cL_law 1162 = .ok (.aload_n 0, 1) := by decide +kernel
theorem dL_law_1163 : decode cL_law 1163 = .ok (.iload_n 3, 1) := by decide +kernel
theorem dL_law_1164 : decode cL_law 1164 = .ok (.iconst 1, 1) := by decide +kernel
theorem dL_law_1165 : decode cL_law 1165 = .ok (.iadd, 1) := by decide +kernel
theorem dL_law_1166 : decode cL_law 1166 = .ok (.iaload, 1) := by decide +kernel
theorem dL_law_1167 : decode cL_law 1167 = .ok (.aload_n 0, 1) := by decide +kernel
theorem dL_law_1168 : decode cL_law 1168 = .ok (.iload_n 3, 1) := by decide +kernel
theorem dL_law_1169 : decode cL_law 1169 = .ok (.iconst 2, 1) := by decide +kernel
theorem dL_law_1170 : decode cL_law 1170 = .ok (.iadd, 1) := by decide +kernel
theorem dL_law_1171 : decode cL_law 1171 = .ok (.iaload, 1) := by decide +kernel
theorem dL_law_1172 : decode cL_law 1172 = .ok (.aload_n 0, 1) := by decide +kernel
theorem dL_law_1173 : decode cL_law 1173 = .ok (.iload_n 3, 1) := by decide +kernel
theorem dL_law_1174 : decode cL_law 1174 = .ok (.iconst 3, 1) := by decide +kernel
theorem dL_law_1175 : decode cL_law 1175 = .ok (.iadd, 1) := by decide +kernel
theorem dL_law_1176 : decode cL_law 1176 = .ok (.iaload, 1) := by decide +kernel
theorem dL_law_1177 : decode cL_law 1177 = .ok (.aload_n 0, 1) := by decide +kernel
theorem dL_law_1178 : decode cL_law 1178 = .ok (.iload_n 3, 1) := by decide +kernel
theorem dL_law_1179 : decode cL_law 1179 = .ok (.iconst 4, 1) := by decide +kernel
theorem dL_law_1180 : decode cL_law 1180 = .ok (.iadd, 1) := by decide +kernel
theorem dL_law_1181 : decode cL_law 1181 = .ok (.iaload, 1) := by decide +kernel
theorem dL_law_1182 : decode cL_law 1182 = .ok (.invokevirtual 125, 3) := by decide +kernel
theorem dL_law_1185 : decode cL_law 1185 = .ok (.aload_n 2, 1) := by decide +kernel
theorem dL_law_1186 : decode cL_law 1186 = .ok (.aload_n 0, 1) := by decide +kernel
theorem dL_law_1187 : decode cL_law 1187 = .ok (.iload_n 3, 1) := by decide +kernel
theorem dL_law_1188 : decode cL_law 1188 = .ok (.iconst 1, 1) := by decide +kernel
theorem dL_law_1189 : decode cL_law 1189 = .ok (.iadd, 1) := by decide +kernel
theorem dL_law_1190 : decode cL_law 1190 = .ok (.iaload, 1) := by decide +kernel
theorem dL_law_1191 : decode cL_law 1191 = .ok (.aload_n 0, 1) := by decide +kernel
theorem dL_law_1192 : decode cL_law 1192 = .ok (.iload_n 3, 1) := by decide +kernel
theorem dL_law_1193 : decode cL_law 1193 = .ok (.iconst 2, 1) := by decide +kernel
theorem dL_law_1194 : decode cL_law 1194 = .ok (.iadd, 1) := by decide +kernel
theorem dL_law_1195 : decode cL_law 1195 = .ok (.iaload, 1) := by decide +kernel
theorem dL_law_1196 : decode cL_law 1196 = .ok (.aload_n 0, 1) := by decide +kernel
theorem dL_law_1197 : decode cL_law 1197 = .ok (.iload_n 3, 1) := by decide +kernel
theorem dL_law_1198 : decode cL_law 1198 = .ok (.iconst 3, 1) := by decide +kernel
theorem dL_law_1199 : decode cL_law 1199 = .ok (.iadd, 1) := by decide +kernel
theorem dL_law_1200 : decode cL_law 1200 = .ok (.iaload, 1) := by decide +kernel
theorem dL_law_1201 : decode cL_law 1201 = .ok (.aload_n 0, 1) := by decide +kernel
theorem dL_law_1202 : decode cL_law 1202 = .ok (.iload_n 3, 1) := by decide +kernel
theorem dL_law_1203 : decode cL_law 1203 = .ok (.iconst 4, 1) := by decide +kernel
theorem dL_law_1204 : decode cL_law 1204 = .ok (.iadd, 1) := by decide +kernel
theorem dL_law_1205 : decode cL_law 1205 = .ok (.iaload, 1) := by decide +kernel
theorem dL_law_1206 : decode cL_law 1206 = .ok (.invokevirtual 129, 3) := by decide +kernel
theorem dL_law_1209 : decode cL_law 1209 = .ok (.if_icmp .eq 510, 3) := by decide +kernel
theorem dL_law_1214 : decode cL_law 1214 = .ok (.aload_n 1, 1) := by decide +kernel
theorem dL_law_1215 : decode cL_law 1215 = .ok (.aload_n 0, 1) := by decide +kernel
theorem dL_law_1216 : decode cL_law 1216 = .ok (.iload_n 3, 1) := by decide +kernel
theorem dL_law_1217 : decode cL_law 1217 = .ok (.iconst 1, 1) := by decide +kernel
theorem dL_law_1218 : decode cL_law 1218 = .ok (.iadd, 1) := by decide +kernel
theorem dL_law_1219 : decode cL_law 1219 = .ok (.iaload, 1) := by decide +kernel
theorem dL_law_1220 : decode cL_law 1220 = .ok (.aload_n 0, 1) := by decide +kernel
theorem dL_law_1221 : decode cL_law 1221 = .ok (.iload_n 3, 1) := by decide +kernel
theorem dL_law_1222 : decode cL_law 1222 = .ok (.iconst 2, 1) := by decide +kernel
theorem dL_law_1223 : decode cL_law 1223 = .ok (.iadd, 1) := by decide +kernel
theorem dL_law_1224 : decode cL_law 1224 = .ok (.iaload, 1) := by decide +kernel
theorem dL_law_1225 : decode cL_law 1225 = .ok (.aload_n 0, 1) := by decide +kernel
theorem dL_law_1226 : decode cL_law 1226 = .ok (.iload_n 3, 1) := by decide +kernel
theorem dL_law_1227 : decode cL_law 1227 = .ok (.iconst 3, 1) := by decide +kernel
theorem dL_law_1228 : decode cL_law 1228 = .ok (.iadd, 1) := by decide +kernel
theorem dL_law_1229 : decode cL_law 1229 = .ok (.iaload, 1) := by decide +kernel
theorem dL_law_1230 : decode cL_law 1230 = .ok (.invokevirtual 130, 3) := by decide +kernel
theorem dL_law_1233 : decode cL_law 1233 = .ok (.aload_n 2, 1) := by decide +kernel
theorem dL_law_1234 : decode cL_law 1234 = .ok (.aload_n 0, 1) := by decide +kernel
theorem dL_law_1235 : decode cL_law 1235 = .ok (.iload_n 3, 1) := by decide +kernel
theorem dL_law_1236 : decode cL_law 1236 = .ok (.iconst 1, 1) := by decide +kernel
theorem dL_law_1237 : decode cL_law 1237 = .ok (.iadd, 1) := by decide +kernel
theorem dL_law_1238 : decode cL_law 1238 = .ok (.iaload, 1) := by decide +kernel
theorem dL_law_1239 : decode cL_law 1239 = .ok (.aload_n 0, 1) := by decide +kernel
theorem dL_law_1240 : decode cL_law 1240 = .ok (.iload_n 3, 1) := by decide +kernel
theorem dL_law_1241 : decode cL_law 1241 = .ok (.iconst 2, 1) := by decide +kernel
theorem dL_law_1242 : decode cL_law 1242 = .ok (.iadd, 1) := by decide +kernel
theorem dL_law_1243 : decode cL_law 1243 = .ok (.iaload, 1) := by decide +kernel
theorem dL_law_1244 : decode cL_law 1244 = .ok (.aload_n 0, 1) := by decide +kernel
theorem dL_law_1245 : decode cL_law 1245 = .ok (.iload_n 3, 1) := by decide +kernel
theorem dL_law_1246 : decode cL_law 1246 = .ok (.iconst 3, 1) := by decide +kernel
theorem dL_law_1247 : decode cL_law 1247 = .ok (.iadd, 1) := by decide +kernel
theorem dL_law_1248 : decode cL_law 1248 = .ok (.iaload, 1) := by decide +kernel
theorem dL_law_1249 : decode cL_law 1249 = .ok (.invokevirtual 133, 3) := by decide +kernel
theorem dL_law_1252 : decode cL_law 1252 = .ok (.if_icmp .eq 467, 3) := by decide +kernel
theorem dL_law_1257 : decode cL_law 1257 = .ok (.aload_n 1, 1) := by decide +kernel
theorem dL_law_1258 : decode cL_law 1258 = .ok (.aload_n 0, 1) := by decide +kernel
theorem dL_law_1259 : decode cL_law 1259 = .ok (.iload_n 3, 1) := by decide +kernel
theorem dL_law_1260 : decode cL_law 1260 = .ok (.iconst 1, 1) := by decide +kernel
theorem dL_law_1261 : decode cL_law 1261 = .ok (.iadd, 1) := by decide +kernel
theorem dL_law_1262 : decode cL_law 1262 = .ok (.iaload, 1) := by decide +kernel
theorem dL_law_1263 : decode cL_law 1263 = .ok (.aload_n 0, 1) := by decide +kernel
theorem dL_law_1264 : decode cL_law 1264 = .ok (.iload_n 3, 1) := by decide +kernel
theorem dL_law_1265 : decode cL_law 1265 = .ok (.iconst 2, 1) := by decide +kernel
theorem dL_law_1266 : decode cL_law 1266 = .ok (.iadd, 1) := by decide +kernel
theorem dL_law_1267 : decode cL_law 1267 = .ok (.iaload, 1) := by decide +kernel
theorem dL_law_1268 : decode cL_law 1268 = .ok (.aload_n 0, 1) := by decide +kernel
theorem dL_law_1269 : decode cL_law 1269 = .ok (.iload_n 3, 1) := by decide +kernel
theorem dL_law_1270 : decode cL_law 1270 = .ok (.iconst 3, 1) := by decide +kernel
theorem dL_law_1271 : decode cL_law 1271 = .ok (.iadd, 1) := by decide +kernel
theorem dL_law_1272 : decode cL_law 1272 = .ok (.iaload, 1) := by decide +kernel
theorem dL_law_1273 : decode cL_law 1273 = .ok (.invokevirtual 134, 3) := by decide +kernel
theorem dL_law_1276 : decode cL_law 1276 = .ok (.aload_n 2, 1) := by decide +kernel
theorem dL_law_1277 : decode cL_law 1277 = .ok (.aload_n 0, 1) := by decide +kernel
theorem dL_law_1278 : decode cL_law 1278 = .ok (.iload_n 3, 1) := by decide +kernel
theorem dL_law_1279 : decode cL_law 1279 = .ok (.iconst 1, 1) := by decide +kernel
theorem dL_law_1280 : decode cL_law 1280 = .ok (.iadd, 1) := by decide +kernel
theorem dL_law_1281 : decode cL_law 1281 = .ok (.iaload, 1) := by decide +kernel
theorem dL_law_1282 : decode cL_law 1282 = .ok (.aload_n 0, 1) := by decide +kernel
theorem dL_law_1283 : decode cL_law 1283 = .ok (.iload_n 3, 1) := by decide +kernel
theorem dL_law_1284 : decode cL_law 1284 = .ok (.iconst 2, 1) := by decide +kernel
theorem dL_law_1285 : decode cL_law 1285 = .ok (.iadd, 1) := by decide +kernel
theorem dL_law_1286 : decode cL_law 1286 = .ok (.iaload, 1) := by decide +kernel
theorem dL_law_1287 : decode cL_law 1287 = .ok (.aload_n 0, 1) := by decide +kernel
theorem dL_law_1288 : decode cL_law 1288 = .ok (.iload_n 3, 1) := by decide +kernel
theorem dL_law_1289 : decode cL_law 1289 = .ok (.iconst 3, 1) := by decide +kernel
theorem dL_law_1290 : decode cL_law 1290 = .ok (.iadd, 1) := by decide +kernel
theorem dL_law_1291 : decode cL_law 1291 = .ok (.iaload, 1) := by decide +kernel
theorem dL_law_1292 : decode cL_law 1292 = .ok (.invokevirtual 137, 3) := by decide +kernel
theorem dL_law_1295 : decode cL_law 1295 = .ok (.if_icmp .eq 424, 3) := by decide +kernel
theorem dL_law_1300 : decode cL_law 1300 = .ok (.aload_n 1, 1) := by decide +kernel
theorem dL_law_1301 : decode cL_law 1301 = .ok (.aload_n 0, 1) := by decide +kernel
theorem dL_law_1302 : decode cL_law 1302 = .ok (.iload_n 3, 1) := by decide +kernel
theorem dL_law_1303 : decode cL_law 1303 = .ok (.iconst 1, 1) := by decide +kernel
theorem dL_law_1304 : decode cL_law 1304 = .ok (.iadd, 1) := by decide +kernel
theorem dL_law_1305 : decode cL_law 1305 = .ok (.iaload, 1) := by decide +kernel
theorem dL_law_1306 : decode cL_law 1306 = .ok (.invokevirtual 138, 3) := by decide +kernel
theorem dL_law_1309 : decode cL_law 1309 = .ok (.aload_n 2, 1) := by decide +kernel
theorem dL_law_1310 : decode cL_law 1310 = .ok (.aload_n 0, 1) := by decide +kernel
theorem dL_law_1311 : decode cL_law 1311 = .ok (.iload_n 3, 1) := by decide +kernel
theorem dL_law_1312 : decode cL_law 1312 = .ok (.iconst 1, 1) := by decide +kernel
theorem dL_law_1313 : decode cL_law 1313 = .ok (.iadd, 1) := by decide +kernel
theorem dL_law_1314 : decode cL_law 1314 = .ok (.iaload, 1) := by decide +kernel
theorem dL_law_1315 : decode cL_law 1315 = .ok (.invokevirtual 141, 3) := by decide +kernel
theorem dL_law_1318 : decode cL_law 1318 = .ok (.if_icmp .eq 401, 3) := by decide +kernel
theorem dL_law_1323 : decode cL_law 1323 = .ok (.aload_n 1, 1) := by decide +kernel
theorem dL_law_1324 : decode cL_law 1324 = .ok (.aload_n 0, 1) := by decide +kernel
theorem dL_law_1325 : decode cL_law 1325 = .ok (.iload_n 3, 1) := by decide +kernel
theorem dL_law_1326 : decode cL_law 1326 = .ok (.iconst 1, 1) := by decide +kernel
theorem dL_law_1327 : decode cL_law 1327 = .ok (.iadd, 1) := by decide +kernel
theorem dL_law_1328 : decode cL_law 1328 = .ok (.iaload, 1) := by decide +kernel
theorem dL_law_1329 : decode cL_law 1329 = .ok (.aload_n 0, 1) := by decide +kernel
theorem dL_law_1330 : decode cL_law 1330 = .ok (.iload_n 3, 1) := by decide +kernel
theorem dL_law_1331 : decode cL_law 1331 = .ok (.iconst 2, 1) := by decide +kernel
theorem dL_law_1332 : decode cL_law 1332 = .ok (.iadd, 1) := by decide +kernel
theorem dL_law_1333 : decode cL_law 1333 = .ok (.iaload, 1) := by decide +kernel
theorem dL_law_1334 : decode cL_law 1334 = .ok (.invokevirtual 142, 3) := by decide +kernel
theorem dL_law_1337 : decode cL_law 1337 = .ok (.aload_n 2, 1) := by decide +kernel
theorem dL_law_1338 : decode cL_law 1338 = .ok (.aload_n 0, 1) := by decide +kernel
theorem dL_law_1339 : decode cL_law 1339 = .ok (.iload_n 3, 1) := by decide +kernel
theorem dL_law_1340 : decode cL_law 1340 = .ok (.iconst 1, 1) := by decide +kernel
theorem dL_law_1341 : decode cL_law 1341 = .ok (.iadd, 1) := by decide +kernel
theorem dL_law_1342 : decode cL_law 1342 = .ok (.iaload, 1) := by decide +kernel
theorem dL_law_1343 : decode cL_law 1343 = .ok (.aload_n 0, 1) := by decide +kernel
theorem dL_law_1344 : decode cL_law 1344 = .ok (.iload_n 3, 1) := by decide +kernel
theorem dL_law_1345 : decode cL_law 1345 = .ok (.iconst 2, 1) := by decide +kernel
theorem dL_law_1346 : decode cL_law 1346 = .ok (.iadd, 1) := by decide +kernel
theorem dL_law_1347 : decode cL_law 1347 = .ok (.iaload, 1) := by decide +kernel
theorem dL_law_1348 : decode cL_law 1348 = .ok (.invokevirtual 145, 3) := by decide +kernel
theorem dL_law_1351 : decode cL_law 1351 = .ok (.if_icmp .eq 368, 3) := by decide +kernel
theorem dL_law_1356 : decode cL_law 1356 = .ok (.aload_n 1, 1) := by decide +kernel
theorem dL_law_1357 : decode cL_law 1357 = .ok (.aload_n 0, 1) := by decide +kernel
theorem dL_law_1358 : decode cL_law 1358 = .ok (.iload_n 3, 1) := by decide +kernel
theorem dL_law_1359 : decode cL_law 1359 = .ok (.iconst 1, 1) := by decide +kernel
theorem dL_law_1360 : decode cL_law 1360 = .ok (.iadd, 1) := by decide +kernel
theorem dL_law_1361 : decode cL_law 1361 = .ok (.iaload, 1) := by decide +kernel
theorem dL_law_1362 : decode cL_law 1362 = .ok (.aload_n 0, 1) := by decide +kernel
theorem dL_law_1363 : decode cL_law 1363 = .ok (.iload_n 3, 1) := by decide +kernel
theorem dL_law_1364 : decode cL_law 1364 = .ok (.iconst 2, 1) := by decide +kernel
theorem dL_law_1365 : decode cL_law 1365 = .ok (.iadd, 1) := by decide +kernel
theorem dL_law_1366 : decode cL_law 1366 = .ok (.iaload, 1) := by decide +kernel
theorem dL_law_1367 : decode cL_law 1367 = .ok (.invokevirtual 146, 3) := by decide +kernel
theorem dL_law_1370 : decode cL_law 1370 = .ok (.aload_n 2, 1) := by decide +kernel
theorem dL_law_1371 : decode cL_law 1371 = .ok (.aload_n 0, 1) := by decide +kernel
theorem dL_law_1372 : decode cL_law 1372 = .ok (.iload_n 3, 1) := by decide +kernel
theorem dL_law_1373 : decode cL_law 1373 = .ok (.iconst 1, 1) := by decide +kernel
theorem dL_law_1374 : decode cL_law 1374 = .ok (.iadd, 1) := by decide +kernel
theorem dL_law_1375 : decode cL_law 1375 = .ok (.iaload, 1) := by decide +kernel
theorem dL_law_1376 : decode cL_law 1376 = .ok (.aload_n 0, 1) := by decide +kernel
theorem dL_law_1377 : decode cL_law 1377 = .ok (.iload_n 3, 1) := by decide +kernel
theorem dL_law_1378 : decode cL_law 1378 = .ok (.iconst 2, 1) := by decide +kernel
theorem dL_law_1379 : decode cL_law 1379 = .ok (.iadd, 1) := by decide +kernel
theorem dL_law_1380 : decode cL_law 1380 = .ok (.iaload, 1) := by decide +kernel
theorem dL_law_1381 : decode cL_law 1381 = .ok (.invokevirtual 149, 3) := by decide +kernel
theorem dL_law_1384 : decode cL_law 1384 = .ok (.if_icmp .eq 335, 3) := by decide +kernel
theorem dL_law_1389 : decode cL_law 1389 = .ok (.aload_n 1, 1) := by decide +kernel
theorem dL_law_1390 : decode cL_law 1390 = .ok (.aload_n 0, 1) := by decide +kernel
theorem dL_law_1391 : decode cL_law 1391 = .ok (.iload_n 3, 1) := by decide +kernel
theorem dL_law_1392 : decode cL_law 1392 = .ok (.iconst 1, 1) := by decide +kernel
theorem dL_law_1393 : decode cL_law 1393 = .ok (.iadd, 1) := by decide +kernel
theorem dL_law_1394 : decode cL_law 1394 = .ok (.iaload, 1) := by decide +kernel
theorem dL_law_1395 : decode cL_law 1395 = .ok (.aload_n 0, 1) := by decide +kernel
theorem dL_law_1396 : decode cL_law 1396 = .ok (.iload_n 3, 1) := by decide +kernel
theorem dL_law_1397 : decode cL_law 1397 = .ok (.iconst 2, 1) := by decide +kernel
theorem dL_law_1398 : decode cL_law 1398 = .ok (.iadd, 1) := by decide +kernel
theorem dL_law_1399 : decode cL_law 1399 = .ok (.iaload, 1) := by decide +kernel
theorem dL_law_1400 : decode cL_law 1400 = .ok (.invokevirtual 150, 3) := by decide +kernel
theorem dL_law_1403 : decode cL_law 1403 = .ok (.aload_n 2, 1) := by decide +kernel
theorem dL_law_1404 : decode cL_law 1404 = .ok (.aload_n 0, 1) := by decide +kernel
theorem dL_law_1405 : decode cL_law 1405 = .ok (.iload_n 3, 1) := by decide +kernel
theorem dL_law_1406 : decode cL_law 1406 = .ok (.iconst 1, 1) := by decide +kernel
theorem dL_law_1407 : decode cL_law 1407 = .ok (.iadd, 1) := by decide +kernel
theorem dL_law_1408 : decode cL_law 1408 = .ok (.iaload, 1) := by decide +kernel
theorem dL_law_1409 : decode cL_law 1409 = .ok (.aload_n 0, 1) := by decide +kernel
theorem dL_law_1410 : decode cL_law 1410 = .ok (.iload_n 3, 1) := by decide +kernel
theorem dL_law_1411 : decode cL_law 1411 = .ok (.iconst 2, 1) := by decide +kernel
theorem dL_law_1412 : decode cL_law 1412 = .ok (.iadd, 1) := by decide +kernel
theorem dL_law_1413 : decode cL_law 1413 = .ok (.iaload, 1) := by decide +kernel
theorem dL_law_1414 : decode cL_law 1414 = .ok (.invokevirtual 153, 3) := by decide +kernel
theorem dL_law_1417 : decode cL_law 1417 = .ok (.if_icmp .eq 302, 3) := by decide +kernel
theorem dL_law_1422 : decode cL_law 1422 = .ok (.aload_n 1, 1) := by decide +kernel
theorem dL_law_1423 : decode cL_law 1423 = .ok (.aload_n 0, 1) := by decide +kernel
theorem dL_law_1424 : decode cL_law 1424 = .ok (.iload_n 3, 1) := by decide +kernel
theorem dL_law_1425 : decode cL_law 1425 = .ok (.iconst 1, 1) := by decide +kernel
theorem dL_law_1426 : decode cL_law 1426 = .ok (.iadd, 1) := by decide +kernel
theorem dL_law_1427 : decode cL_law 1427 = .ok (.iaload, 1) := by decide +kernel
theorem dL_law_1428 : decode cL_law 1428 = .ok (.aload_n 0, 1) := by decide +kernel
theorem dL_law_1429 : decode cL_law 1429 = .ok (.iload_n 3, 1) := by decide +kernel
theorem dL_law_1430 : decode cL_law 1430 = .ok (.iconst 2, 1) := by decide +kernel
theorem dL_law_1431 : decode cL_law 1431 = .ok (.iadd, 1) := by decide +kernel
theorem dL_law_1432 : decode cL_law 1432 = .ok (.iaload, 1) := by decide +kernel
theorem dL_law_1433 : decode cL_law 1433 = .ok (.invokevirtual 154, 3) := by decide +kernel
theorem dL_law_1436 : decode cL_law 1436 = .ok (.aload_n 2, 1) := by decide +kernel
theorem dL_law_1437 : decode cL_law 1437 = .ok (.aload_n 0, 1) := by decide +kernel
theorem dL_law_1438 : decode cL_law 1438 = .ok (.iload_n 3, 1) := by decide +kernel
theorem dL_law_1439 : decode cL_law 1439 = .ok (.iconst 1, 1) := by decide +kernel
theorem dL_law_1440 : decode cL_law 1440 = .ok (.iadd, 1) := by decide +kernel
theorem dL_law_1441 : decode cL_law 1441 = .ok (.iaload, 1) := by decide +kernel
theorem dL_law_1442 : decode cL_law 1442 = .ok (.aload_n 0, 1) := by decide +kernel
theorem dL_law_1443 : decode cL_law 1443 = .ok (.iload_n 3, 1) := by decide +kernel
theorem dL_law_1444 : decode cL_law 1444 = .ok (.iconst 2, 1) := by decide +kernel
theorem dL_law_1445 : decode cL_law 1445 = .ok (.iadd, 1) := by decide +kernel
theorem dL_law_1446 : decode cL_law 1446 = .ok (.iaload, 1) := by decide +kernel
theorem dL_law_1447 : decode cL_law 1447 = .ok (.invokevirtual 157, 3) := by decide +kernel
theorem dL_law_1450 : decode cL_law 1450 = .ok (.if_icmp .eq 269, 3) := by decide +kernel
theorem dL_law_1455 : decode cL_law 1455 = .ok (.aload_n 1, 1) := by decide +kernel
theorem dL_law_1456 : decode cL_law 1456 = .ok (.aload_n 0, 1) := by decide +kernel
theorem dL_law_1457 : decode cL_law 1457 = .ok (.iload_n 3, 1) := by decide +kernel
theorem dL_law_1458 : decode cL_law 1458 = .ok (.iconst 1, 1) := by decide +kernel
theorem dL_law_1459 : decode cL_law 1459 = .ok (.iadd, 1) := by decide +kernel
theorem dL_law_1460 : decode cL_law 1460 = .ok (.iaload, 1) := by decide +kernel
theorem dL_law_1461 : decode cL_law 1461 = .ok (.aload_n 0, 1) := by decide +kernel
theorem dL_law_1462 : decode cL_law 1462 = .ok (.iload_n 3, 1) := by decide +kernel
theorem dL_law_1463 : decode cL_law 1463 = .ok (.iconst 2, 1) := by decide +kernel
theorem dL_law_1464 : decode cL_law 1464 = .ok (.iadd, 1) := by decide +kernel
theorem dL_law_1465 : decode cL_law 1465 = .ok (.iaload, 1) := by decide +kernel
theorem dL_law_1466 : decode cL_law 1466 = .ok (.invokevirtual 158, 3) := by decide +kernel
theorem dL_law_1469 : decode cL_law 1469 = .ok (.aload_n 2, 1) := by decide +kernel
theorem dL_law_1470 : decode cL_law 1470 = .ok (.aload_n 0, 1) := by decide +kernel
theorem dL_law_1471 : decode cL_law 1471 = .ok (.iload_n 3, 1) := by decide +kernel
theorem dL_law_1472 : decode cL_law 1472 = .ok (.iconst 1, 1) := by decide +kernel
theorem dL_law_1473 : decode cL_law 1473 = .ok (.iadd, 1) := by decide +kernel
theorem dL_law_1474 : decode cL_law 1474 = .ok (.iaload, 1) := by decide +kernel
theorem dL_law_1475 : decode cL_law 1475 = .ok (.aload_n 0, 1) := by decide +kernel
theorem dL_law_1476 : decode cL_law 1476 = .ok (.iload_n 3, 1) := by decide +kernel
theorem dL_law_1477 : decode cL_law 1477 = .ok (.iconst 2, 1) := by decide +kernel
theorem dL_law_1478 : decode cL_law 1478 = .ok (.iadd, 1) := by decide +kernel
theorem dL_law_1479 : decode cL_law 1479 = .ok (.iaload, 1) := by decide +kernel
theorem dL_law_1480 : decode cL_law 1480 = .ok (.invokevirtual 161, 3) := by decide +kernel
theorem dL_law_1483 : decode cL_law 1483 = .ok (.if_icmp .eq 236, 3) := by decide +kernel
theorem dL_law_1488 : decode cL_law 1488 = .ok (.aload_n 1, 1) := by decide +kernel
theorem dL_law_1489 : decode cL_law 1489 = .ok (.aload_n 0, 1) := by decide +kernel
theorem dL_law_1490 : decode cL_law 1490 = .ok (.iload_n 3, 1) := by decide +kernel
theorem dL_law_1491 : decode cL_law 1491 = .ok (.iconst 1, 1) := by decide +kernel
theorem dL_law_1492 : decode cL_law 1492 = .ok (.iadd, 1) := by decide +kernel
theorem dL_law_1493 : decode cL_law 1493 = .ok (.iaload, 1) := by decide +kernel
theorem dL_law_1494 : decode cL_law 1494 = .ok (.aload_n 0, 1) := by decide +kernel
theorem dL_law_1495 : decode cL_law 1495 = .ok (.iload_n 3, 1) := by decide +kernel
theorem dL_law_1496 : decode cL_law 1496 = .ok (.iconst 2, 1) := by decide +kernel
theorem dL_law_1497 : decode cL_law 1497 = .ok (.iadd, 1) := by decide +kernel
theorem dL_law_1498 : decode cL_law 1498 = .ok (.iaload, 1) := by decide +kernel
theorem dL_law_1499 : decode cL_law 1499 = .ok (.aload_n 0, 1) := by decide +kernel
theorem dL_law_1500 : decode cL_law 1500 = .ok (.iload_n 3, 1) := by decide +kernel
theorem dL_law_1501 : decode cL_law 1501 = .ok (.iconst 3, 1) := by decide +kernel
theorem dL_law_1502 : decode cL_law 1502 = .ok (.iadd, 1) := by decide +kernel
theorem dL_law_1503 : decode cL_law 1503 = .ok (.iaload, 1) := by decide +kernel
theorem dL_law_1504 : decode cL_law 1504 = .ok (.aload_n 0, 1) := by decide +kernel
theorem dL_law_1505 : decode cL_law 1505 = .ok (.iload_n 3, 1) := by decide +kernel
theorem dL_law_1506 : decode cL_law 1506 = .ok (.iconst 4, 1) := by decide +kernel
theorem dL_law_1507 : decode cL_law 1507 = .ok (.iadd, 1) := by decide +kernel
theorem dL_law_1508 : decode cL_law 1508 = .ok (.iaload, 1) := by decide +kernel
theorem dL_law_1509 : decode cL_law 1509 = .ok (.invokevirtual 162, 3) := by decide +kernel
theorem dL_law_1512 : decode cL_law 1512 = .ok (.aload_n 2, 1) := by decide +kernel
theorem dL_law_1513 : decode cL_law 1513 = .ok (.aload_n 0, 1) := by decide +kernel
theorem dL_law_1514 : decode cL_law 1514 = .ok (.iload_n 3, 1) := by decide +kernel
theorem dL_law_1515 : decode cL_law 1515 = .ok (.iconst 1, 1) := by decide +kernel
theorem dL_law_1516 : decode cL_law 1516 = .ok (.iadd, 1) := by decide +kernel
theorem dL_law_1517 : decode cL_law 1517 = .ok (.iaload, 1) := by decide +kernel
theorem dL_law_1518 : decode cL_law 1518 = .ok (.aload_n 0, 1) := by decide +kernel
theorem dL_law_1519 : decode cL_law 1519 = .ok (.iload_n 3, 1) := by decide +kernel
theorem dL_law_1520 : decode cL_law 1520 = .ok (.iconst 2, 1) := by decide +kernel
theorem dL_law_1521 : decode cL_law 1521 = .ok (.iadd, 1) := by decide +kernel
theorem dL_law_1522 : decode cL_law 1522 = .ok (.iaload, 1) := by decide +kernel
theorem dL_law_1523 : decode cL_law 1523 = .ok (.aload_n 0, 1) := by decide +kernel
theorem dL_law_1524 : decode cL_law 1524 = .ok (.iload_n 3, 1) := by decide +kernel
theorem dL_law_1525 : decode cL_law 1525 = .ok (.iconst 3, 1) := by decide +kernel
theorem dL_law_1526 : decode cL_law 1526 = .ok (.iadd, 1) := by decide +kernel
theorem dL_law_1527 : decode cL_law 1527 = .ok (.iaload, 1) := by decide +kernel
theorem dL_law_1528 : decode cL_law 1528 = .ok (.aload_n 0, 1) := by decide +kernel
theorem dL_law_1529 : decode cL_law 1529 = .ok (.iload_n 3, 1) := by decide +kernel
theorem dL_law_1530 : decode cL_law 1530 = .ok (.iconst 4, 1) := by decide +kernel
theorem dL_law_1531 : decode cL_law 1531 = .ok (.iadd, 1) := by decide +kernel
theorem dL_law_1532 : decode cL_law 1532 = .ok (.iaload, 1) := by decide +kernel
theorem dL_law_1533 : decode cL_law 1533 = .ok (.invokevirtual 165, 3) := by decide +kernel
theorem dL_law_1536 : decode cL_law 1536 = .ok (.if_icmp .eq 183, 3) := by decide +kernel
theorem dL_law_1541 : decode cL_law 1541 = .ok (.aload_n 1, 1) := by decide +kernel
theorem dL_law_1542 : decode cL_law 1542 = .ok (.aload_n 0, 1) := by decide +kernel
theorem dL_law_1543 : decode cL_law 1543 = .ok (.iload_n 3, 1) := by decide +kernel
theorem dL_law_1544 : decode cL_law 1544 = .ok (.iconst 1, 1) := by decide +kernel
theorem dL_law_1545 : decode cL_law 1545 = .ok (.iadd, 1) := by decide +kernel
theorem dL_law_1546 : decode cL_law 1546 = .ok (.iaload, 1) := by decide +kernel
theorem dL_law_1547 : decode cL_law 1547 = .ok (.aload_n 0, 1) := by decide +kernel
theorem dL_law_1548 : decode cL_law 1548 = .ok (.iload_n 3, 1) := by decide +kernel
theorem dL_law_1549 : decode cL_law 1549 = .ok (.iconst 2, 1) := by decide +kernel
theorem dL_law_1550 : decode cL_law 1550 = .ok (.iadd, 1) := by decide +kernel
theorem dL_law_1551 : decode cL_law 1551 = .ok (.iaload, 1) := by decide +kernel
theorem dL_law_1552 : decode cL_law 1552 = .ok (.aload_n 0, 1) := by decide +kernel
theorem dL_law_1553 : decode cL_law 1553 = .ok (.iload_n 3, 1) := by decide +kernel
theorem dL_law_1554 : decode cL_law 1554 = .ok (.iconst 3, 1) := by decide +kernel
theorem dL_law_1555 : decode cL_law 1555 = .ok (.iadd, 1) := by decide +kernel
theorem dL_law_1556 : decode cL_law 1556 = .ok (.iaload, 1) := by decide +kernel
theorem dL_law_1557 : decode cL_law 1557 = .ok (.invokevirtual 166, 3) := by decide +kernel
theorem dL_law_1560 : decode cL_law 1560 = .ok (.aload_n 2, 1) := by decide +kernel
theorem dL_law_1561 : decode cL_law 1561 = .ok (.aload_n 0, 1) := by decide +kernel
theorem dL_law_1562 : decode cL_law 1562 = .ok (.iload_n 3, 1) := by decide +kernel
theorem dL_law_1563 : decode cL_law 1563 = .ok (.iconst 1, 1) := by decide +kernel
theorem dL_law_1564 : decode cL_law 1564 = .ok (.iadd, 1) := by decide +kernel
theorem dL_law_1565 : decode cL_law 1565 = .ok (.iaload, 1) := by decide +kernel
theorem dL_law_1566 : decode cL_law 1566 = .ok (.aload_n 0, 1) := by decide +kernel
theorem dL_law_1567 : decode cL_law 1567 = .ok (.iload_n 3, 1) := by decide +kernel
theorem dL_law_1568 : decode cL_law 1568 = .ok (.iconst 2, 1) := by decide +kernel
theorem dL_law_1569 : decode cL_law 1569 = .ok (.iadd, 1) := by decide +kernel
theorem dL_law_1570 : decode cL_law 1570 = .ok (.iaload, 1) := by decide +kernel
theorem dL_law_1571 : decode cL_law 1571 = .ok (.aload_n 0, 1) := by decide +kernel
theorem dL_law_1572 : decode cL_law 1572 = .ok (.iload_n 3, 1) := by decide +kernel
theorem dL_law_1573 : decode cL_law 1573 = .ok (.iconst 3, 1) := by decide +kernel
theorem dL_law_1574 : decode cL_law 1574 = .ok (.iadd, 1) := by decide +kernel
theorem dL_law_1575 : decode cL_law 1575 = .ok (.iaload, 1) := by decide +kernel
theorem dL_law_1576 : decode cL_law 1576 = .ok (.invokevirtual 169, 3) := by decide +kernel
theorem dL_law_1579 : decode cL_law 1579 = .ok (.if_icmp .eq 140, 3) := by decide +kernel
theorem dL_law_1584 : decode cL_law 1584 = .ok (.aload_n 1, 1) := by decide +kernel
theorem dL_law_1585 : decode cL_law 1585 = .ok (.aload_n 0, 1) := by decide +kernel
theorem dL_law_1586 : decode cL_law 1586 = .ok (.iload_n 3, 1) := by decide +kernel
theorem dL_law_1587 : decode cL_law 1587 = .ok (.iconst 1, 1) := by decide +kernel
theorem dL_law_1588 : decode cL_law 1588 = .ok (.iadd, 1) := by decide +kernel
theorem dL_law_1589 : decode cL_law 1589 = .ok (.iaload, 1) := by decide +kernel
theorem dL_law_1590 : decode cL_law 1590 = .ok (.aload_n 0, 1) := by decide +kernel
theorem dL_law_1591 : decode cL_law 1591 = .ok (.iload_n 3, 1) := by decide +kernel
theorem dL_law_1592 : decode cL_law 1592 = .ok (.iconst 2, 1) := by decide +kernel
theorem dL_law_1593 : decode cL_law 1593 = .ok (.iadd, 1) := by decide +kernel
theorem dL_law_1594 : decode cL_law 1594 = .ok (.iaload, 1) := by decide +kernel
theorem dL_law_1595 : decode cL_law 1595 = .ok (.aload_n 0, 1) := by decide +kernel
theorem dL_law_1596 : decode cL_law 1596 = .ok (.iload_n 3, 1) := by decide +kernel
theorem dL_law_1597 : decode cL_law 1597 = .ok (.iconst 3, 1) := by decide +kernel
theorem dL_law_1598 : decode cL_law 1598 = .ok (.iadd, 1) := by decide +kernel
theorem dL_law_1599 : decode cL_law 1599 = .ok (.iaload, 1) := by decide +kernel
theorem dL_law_1600 : decode cL_law 1600 = .ok (.invokevirtual 170, 3) := by decide +kernel
theorem dL_law_1603 : decode cL_law 1603 = .ok (.aload_n 2, 1) := by decide +kernel
theorem dL_law_1604 : decode cL_law 1604 = .ok (.aload_n 0, 1) := by decide +kernel
theorem dL_law_1605 : decode cL_law 1605 = .ok (.iload_n 3, 1) := by decide +kernel
theorem dL_law_1606 : decode cL_law 1606 = .ok (.iconst 1, 1) := by decide +kernel
theorem dL_law_1607 : decode cL_law 1607 = .ok (.iadd, 1) := by decide +kernel
theorem dL_law_1608 : decode cL_law 1608 = .ok (.iaload, 1) := by decide +kernel
theorem dL_law_1609 : decode cL_law 1609 = .ok (.aload_n 0, 1) := by decide +kernel
theorem dL_law_1610 : decode cL_law 1610 = .ok (.iload_n 3, 1) := by decide +kernel
theorem dL_law_1611 : decode cL_law 1611 = .ok (.iconst 2, 1) := by decide +kernel
theorem dL_law_1612 : decode cL_law 1612 = .ok (.iadd, 1) := by decide +kernel
theorem dL_law_1613 : decode cL_law 1613 = .ok (.iaload, 1) := by decide +kernel
theorem dL_law_1614 : decode cL_law 1614 = .ok (.aload_n 0, 1) := by decide +kernel
theorem dL_law_1615 : decode cL_law 1615 = .ok (.iload_n 3, 1) := by decide +kernel
theorem dL_law_1616 : decode cL_law 1616 = .ok (.iconst 3, 1) := by decide +kernel
theorem dL_law_1617 : decode cL_law 1617 = .ok (.iadd, 1) := by decide +kernel
theorem dL_law_1618 : decode cL_law 1618 = .ok (.iaload, 1) := by decide +kernel
theorem dL_law_1619 : decode cL_law 1619 = .ok (.invokevirtual 173, 3) := by decide +kernel
theorem dL_law_1622 : decode cL_law 1622 = .ok (.if_icmp .eq 97, 3) := by decide +kernel
theorem dL_law_1627 : decode cL_law 1627 = .ok (.aload_n 1, 1) := by decide +kernel
theorem dL_law_1628 : decode cL_law 1628 = .ok (.aload_n 0, 1) := by decide +kernel
theorem dL_law_1629 : decode cL_law 1629 = .ok (.iload_n 3, 1) := by decide +kernel
theorem dL_law_1630 : decode cL_law 1630 = .ok (.iconst 1, 1) := by decide +kernel
theorem dL_law_1631 : decode cL_law 1631 = .ok (.iadd, 1) := by decide +kernel
theorem dL_law_1632 : decode cL_law 1632 = .ok (.iaload, 1) := by decide +kernel
theorem dL_law_1633 : decode cL_law 1633 = .ok (.invokevirtual 174, 3) := by decide +kernel
theorem dL_law_1636 : decode cL_law 1636 = .ok (.aload_n 2, 1) := by decide +kernel
theorem dL_law_1637 : decode cL_law 1637 = .ok (.aload_n 0, 1) := by decide +kernel
theorem dL_law_1638 : decode cL_law 1638 = .ok (.iload_n 3, 1) := by decide +kernel
theorem dL_law_1639 : decode cL_law 1639 = .ok (.iconst 1, 1) := by decide +kernel
theorem dL_law_1640 : decode cL_law 1640 = .ok (.iadd, 1) := by decide +kernel
theorem dL_law_1641 : decode cL_law 1641 = .ok (.iaload, 1) := by decide +kernel
theorem dL_law_1642 : decode cL_law 1642 = .ok (.invokevirtual 177, 3) := by decide +kernel
theorem dL_law_1645 : decode cL_law 1645 = .ok (.if_icmp .eq 74, 3) := by decide +kernel
theorem dL_law_1650 : decode cL_law 1650 = .ok (.aload_n 1, 1) := by decide +kernel
theorem dL_law_1651 : decode cL_law 1651 = .ok (.invokevirtual 178, 3) := by decide +kernel
theorem dL_law_1654 : decode cL_law 1654 = .ok (.aload_n 2, 1) := by decide +kernel
theorem dL_law_1655 : decode cL_law 1655 = .ok (.invokevirtual 182, 3) := by decide +kernel
theorem dL_law_1658 : decode cL_law 1658 = .ok (.if_icmp .eq 61, 3) := by decide +kernel
theorem dL_law_1663 : decode cL_law 1663 = .ok (.aload_n 1, 1) := by decide +kernel
theorem dL_law_1664 : decode cL_law 1664 = .ok (.aload_n 0, 1) := by decide +kernel
theorem dL_law_1665 : decode cL_law 1665 = .ok (.iload_n 3, 1) := by decide +kernel
theorem dL_law_1666 : decode cL_law 1666 = .ok (.iconst 1, 1) := by decide +kernel
theorem dL_law_1667 : decode cL_law 1667 = .ok (.iadd, 1) := by decide +kernel
theorem dL_law_1668 : decode cL_law 1668 = .ok (.iaload, 1) := by decide +kernel
theorem dL_law_1669 : decode cL_law 1669 = .ok (.aload_n 0, 1) := by decide +kernel
theorem dL_law_1670 : decode cL_law 1670 = .ok (.iload_n 3, 1) := by decide +kernel
theorem dL_law_1671 : decode cL_law 1671 = .ok (.iconst 2, 1) := by decide +kernel
theorem dL_law_1672 : decode cL_law 1672 = .ok (.iadd, 1) := by decide +kernel
theorem dL_law_1673 : decode cL_law 1673 = .ok (.iaload, 1) := by decide +kernel
theorem dL_law_1674 : decode cL_law 1674 = .ok (.invokevirtual 183, 3) := by decide +kernel
theorem dL_law_1677 : decode cL_law 1677 = .ok (.aload_n 2, 1) := by decide +kernel
theorem dL_law_1678 : decode cL_law 1678 = .ok (.aload_n 0, 1) := by decide +kernel
theorem dL_law_1679 : decode cL_law 1679 = .ok (.iload_n 3, 1) := by decide +kernel
theorem dL_law_1680 : decode cL_law 1680 = .ok (.iconst 1, 1) := by decide +kernel
theorem dL_law_1681 : decode cL_law 1681 = .ok (.iadd, 1) := by decide +kernel
theorem dL_law_1682 : decode cL_law 1682 = .ok (.iaload, 1) := by decide +kernel
theorem dL_law_1683 : decode cL_law 1683 = .ok (.aload_n 0, 1) := by decide +kernel
theorem dL_law_1684 : decode cL_law 1684 = .ok (.iload_n 3, 1) := by decide +kernel
theorem dL_law_1685 : decode cL_law 1685 = .ok (.iconst 2, 1) := by decide +kernel
theorem dL_law_1686 : decode cL_law 1686 = .ok (.iadd, 1) := by decide +kernel
theorem dL_law_1687 : decode cL_law 1687 = .ok (.iaload, 1) := by decide +kernel
theorem dL_law_1688 : decode cL_law 1688 = .ok (.invokevirtual 186, 3) := by decide +kernel
theorem dL_law_1691 : decode cL_law 1691 = .ok (.if_icmp .eq 28, 3) := by decide +kernel
theorem dL_law_1696 : decode cL_law 1696 = .ok (.aload_n 1, 1) := by decide +kernel
theorem dL_law_1697 : decode cL_law 1697 = .ok (.aload_n 0, 1) := by decide +kernel
theorem dL_law_1698 : decode cL_law 1698 = .ok (.iload_n 3, 1) := by decide +kernel
theorem dL_law_1699 : decode cL_law 1699 = .ok (.iconst 1, 1) := by decide +kernel
theorem dL_law_1700 : decode cL_law 1700 = .ok (.iadd, 1) := by decide +kernel
theorem dL_law_1701 : decode cL_law 1701 = .ok (.iaload, 1) := by decide +kernel
theorem dL_law_1702 : decode cL_law 1702 = .ok (.invokevirtual 187, 3) := by decide +kernel
theorem dL_law_1705 : decode cL_law 1705 = .ok (.aload_n 2, 1) := by decide +kernel
theorem dL_law_1706 : decode cL_law 1706 = .ok (.aload_n 0, 1) := by decide +kernel
theorem dL_law_1707 : decode cL_law 1707 = .ok (.iload_n 3, 1) := by decide +kernel
theorem dL_law_1708 : decode cL_law 1708 = .ok (.iconst 1, 1) := by decide +kernel
theorem dL_law_1709 : decode cL_law 1709 = .ok (.iadd, 1) := by decide +kernel
theorem dL_law_1710 : decode cL_law 1710 = .ok (.iaload, 1) := by decide +kernel
theorem dL_law_1711 : decode cL_law 1711 = .ok (.invokevirtual 190, 3) := by decide +kernel
theorem dL_law_1714 : decode cL_law 1714 = .ok (.if_icmp .eq 5, 3) := by decide +kernel
theorem dL_law_1719 : decode cL_law 1719 = .ok (.iinc 3 6, 3) := by decide +kernel
theorem dL_law_1722 : decode cL_law 1722 = .ok (.goto (-1704), 3) := by decide +kernel
theorem dL_law_1725 : decode cL_law 1725 = .ok (.iconst 1, 1) := by decide +kernel
theorem dL_law_1726 : decode cL_law 1726 = .ok (.ireturn, 1) := by decide +kernel
theorem dX0_init_0 : decode cX0_init 0 = .ok (.aload_n 0, 1) := by decide +kernel
theorem dX0_init_1 : decode cX0_init 1 = .ok (.invokespecial 5, 3) := by decide +kernel
theorem dX0_init_4 : decode cX0_init 4 = .ok (.aload_n 0, 1) := by decide +kernel
theorem dX0_init_5 : decode cX0_init 5 = .ok (.new 11, 3) := by decide +kernel
theorem dX0_init_8 : decode cX0_init 8 = .ok (.dup, 1) := by decide +kernel
theorem dX0_init_9 : decode cX0_init 9 = .ok (.invokespecial 13, 3) := by decide +kernel
theorem dX0_init_12 : decode cX0_init 12 = .ok (.putfield 14, 3) := by decide +kernel
theorem dX0_init_15 : decode cX0_init 15 = .ok (.aload_n 0, 1) := by decide +kernel
theorem dX0_init_16 : decode cX0_init 16 = .ok (.bipush 9, 2) := by decide +kernel
theorem dX0_init_18 : decode cX0_init 18 = .ok (.newarray .int, 2) := by decide +kernel
theorem dX0_init_20 : decode cX0_init 20 = .ok (.putfield 18, 3) := by decide +kernel
theorem dX0_init_23 : decode cX0_init 23 = .ok (.aload_n 0, 1) := by decide +kernel
theorem dX0_init_24 : decode cX0_init 24 = .ok (.sipush 4096, 3) := by decide +kernel
theorem dX0_init_27 : decode cX0_init 27 = .ok (.newarray .int, 2) := by decide +kernel
theorem dX0_init_29 : decode cX0_init 29 = .ok (.putfield 22, 3) := by decide +kernel
theorem dX0_init_32 : decode cX0_init 32 = .ok (.aload_n 0, 1) := by decide +kernel
theorem dX0_init_33 : decode cX0_init 33 = .ok (.sipush 4096, 3) := by decide +kernel
theorem dX0_init_36 : decode cX0_init 36 = .ok (.newarray .int, 2) := by decide +kernel
theorem dX0_init_38 : decode cX0_init 38 = .ok (.putfield 25, 3) := by decide +kernel
theorem dX0_init_41 : decode cX0_init 41 = .ok (.return_, 1) := by decide +kernel
theorem dX11_adds_0 : decode cX11_adds 0 = .ok (.aload_n 0, 1) := by decide +kernel
theorem dX11_adds_1 : decode cX11_adds 1 = .ok (.iload_n 1, 1) := by decide +kernel
theorem dX11_adds_2 : decode cX11_adds 2 = .ok (.invokevirtual 116, 3) := by decide +kernel
theorem dX11_adds_5 : decode cX11_adds 5 = .ok (.astore 5, 2) := by decide +kernel
theorem dX11_adds_7 : decode cX11_adds 7 = .ok (.aload 5, 2) := by decide +kernel
theorem dX11_adds_9 : decode cX11_adds 9 = .ok (.ifnull 26, 3) := by decide +kernel
theorem dX11_adds_35 : decode cX11_adds 35 = .ok (.bipush (-2), 2) := by decide +kernel
theorem dX11_adds_37 : decode cX11_adds 37 = .ok (.ireturn, 1) := by decide +kernel
theorem dX11_among_0 : decode cX11_among 0 = .ok (.aload_n 0, 1) := by decide +kernel
theorem dX11_among_1 : decode cX11_among 1 = .ok (.iload_n 1, 1) := by decide +kernel
theorem dX11_among_2 : decode cX11_among 2 = .ok (.iload_n 2, 1) := by decide +kernel
theorem dX11_among_3 : decode cX11_among 3 = .ok (.invokevirtual 189, 3) := by decide +kernel
theorem dX11_among_6 : decode cX11_among 6 = .ok (.astore 4, 2) := by decide +kernel
theorem dX11_among_8 : decode cX11_among 8 = .ok (.aload 4, 2) := by decide +kernel
theorem dX11_among_10 : decode cX11_among 10 = .ok (.ifnull 22, 3) := by decide +kernel
theorem dX11_among_32 : decode cX11_among 32 = .ok (.bipush (-2), 2) := by decide +kernel
theorem dX11_among_34 : decode cX11_among 34 = .ok (.ireturn, 1) := by decide +kernel
theorem dX11_bag_0 : decode cX11_bag 0 = .ok (.aload_n 0, 1) := by decide +kernel
theorem dX11_bag_1 : decode cX11_bag 1 = .ok (.iload_n 1, 1) := by decide +kernel
theorem dX11_bag_2 : decode cX11_bag 2 = .ok (.invokevirtual 116, 3) := by decide +kernel
theorem dX11_bag_5 : decode cX11_bag 5 = .ok (.astore 4, 2) := by decide +kernel
theorem dX11_bag_7 : decode cX11_bag 7 = .ok (.aload 4, 2) := by decide +kernel
theorem dX11_bag_9 : decode cX11_bag 9 = .ok (.ifnull 12, 3) := by decide +kernel
theorem dX11_bag_21 : decode cX11_bag 21 = .ok (.bipush (-2), 2) := by decide +kernel
theorem dX11_bag_23 : decode cX11_bag 23 = .ok (.ireturn, 1) := by decide +kernel
theorem dX11_best_0 : decode cX11_best 0 = .ok (.aload_n 0, 1) := by decide +kernel
theorem dX11_best_1 : decode cX11_best 1 = .ok (.iload_n 1, 1) := by decide +kernel
theorem dX11_best_2 : decode cX11_best 2 = .ok (.iload_n 2, 1) := by decide +kernel
theorem dX11_best_3 : decode cX11_best 3 = .ok (.invokevirtual 189, 3) := by decide +kernel
theorem dX11_best_6 : decode cX11_best 6 = .ok (.astore 4, 2) := by decide +kernel
theorem dX11_best_8 : decode cX11_best 8 = .ok (.aload 4, 2) := by decide +kernel
theorem dX11_best_10 : decode cX11_best 10 = .ok (.ifnull 16, 3) := by decide +kernel
theorem dX11_best_26 : decode cX11_best 26 = .ok (.bipush (-2), 2) := by decide +kernel
theorem dX11_best_28 : decode cX11_best 28 = .ok (.goto 10, 3) := by decide +kernel
theorem dX11_best_38 : decode cX11_best 38 = .ok (.ireturn, 1) := by decide +kernel
theorem dX11_bound_0 : decode cX11_bound 0 = .ok (.aload_n 0, 1) := by decide +kernel
theorem dX11_bound_1 : decode cX11_bound 1 = .ok (.iload_n 1, 1) := by decide +kernel
theorem dX11_bound_2 : decode cX11_bound 2 = .ok (.invokevirtual 116, 3) := by decide +kernel
theorem dX11_bound_5 : decode cX11_bound 5 = .ok (.astore 4, 2) := by decide +kernel
theorem dX11_bound_7 : decode cX11_bound 7 = .ok (.aload 4, 2) := by decide +kernel
theorem dX11_bound_9 : decode cX11_bound 9 = .ok (.ifnull 10, 3) := by decide +kernel
theorem dX11_bound_19 : decode cX11_bound 19 = .ok (.bipush (-2), 2) := by decide +kernel
theorem dX11_bound_21 : decode cX11_bound 21 = .ok (.ireturn, 1) := by decide +kernel
theorem dX11_count_0 : decode cX11_count 0 = .ok (.iload_n 1, 1) := by decide +kernel
theorem dX11_count_1 : decode cX11_count 1 = .ok (.tableswitch 60 0 3 #[31, 36, 44, 52], 31) := by decide +kernel
theorem dX11_count_32 : decode cX11_count 32 = .ok (.aload_n 0, 1) := by decide +kernel
theorem dX11_count_33 : decode cX11_count 33 = .ok (.invokevirtual 109, 3) := by decide +kernel
theorem dX11_count_36 : decode cX11_count 36 = .ok (.ireturn, 1) := by decide +kernel
theorem dX11_count_37 : decode cX11_count 37 = .ok (.aload_n 0, 1) := by decide +kernel
theorem dX11_count_38 : decode cX11_count 38 = .ok (.getfield 61, 3) := by decide +kernel
theorem dX11_count_41 : decode cX11_count 41 = .ok (.getfield 113, 3) := by decide +kernel
theorem dX11_count_44 : decode cX11_count 44 = .ok (.ireturn, 1) := by decide +kernel
theorem dX11_count_45 : decode cX11_count 45 = .ok (.aload_n 0, 1) := by decide +kernel
theorem dX11_count_46 : decode cX11_count 46 = .ok (.getfield 14, 3) := by decide +kernel
theorem dX11_count_49 : decode cX11_count 49 = .ok (.getfield 79, 3) := by decide +kernel
theorem dX11_count_52 : decode cX11_count 52 = .ok (.ireturn, 1) := by decide +kernel
theorem dX11_count_53 : decode cX11_count 53 = .ok (.aload_n 0, 1) := by decide +kernel
theorem dX11_count_54 : decode cX11_count 54 = .ok (.getfield 18, 3) := by decide +kernel
theorem dX11_count_57 : decode cX11_count 57 = .ok (.getfield 79, 3) := by decide +kernel
theorem dX11_count_60 : decode cX11_count 60 = .ok (.ireturn, 1) := by decide +kernel
theorem dX11_count_61 : decode cX11_count 61 = .ok (.iconst (-1), 1) := by decide +kernel
theorem dX11_count_62 : decode cX11_count 62 = .ok (.ireturn, 1) := by decide +kernel
theorem dX11_cuts_0 : decode cX11_cuts 0 = .ok (.aload_n 0, 1) := by decide +kernel
theorem dX11_cuts_1 : decode cX11_cuts 1 = .ok (.iload_n 1, 1) := by decide +kernel
theorem dX11_cuts_2 : decode cX11_cuts 2 = .ok (.invokevirtual 116, 3) := by decide +kernel
theorem dX11_cuts_5 : decode cX11_cuts 5 = .ok (.astore 4, 2) := by decide +kernel
theorem dX11_cuts_7 : decode cX11_cuts 7 = .ok (.aload 4, 2) := by decide +kernel
theorem dX11_cuts_9 : decode cX11_cuts 9 = .ok (.ifnull 13, 3) := by decide +kernel
theorem dX11_cuts_22 : decode cX11_cuts 22 = .ok (.bipush (-2), 2) := by decide +kernel
theorem dX11_cuts_24 : decode cX11_cuts 24 = .ok (.ireturn, 1) := by decide +kernel
theorem dX11_drops_0 : decode cX11_drops 0 = .ok (.iload_n 1, 1) := by decide +kernel
theorem dX11_drops_1 : decode cX11_drops 1 = .ok (.invokestatic 83, 3) := by decide +kernel
theorem dX11_drops_4 : decode cX11_drops 4 = .ok (.ifCond .ne 6, 3) := by decide +kernel
theorem dX11_drops_7 : decode cX11_drops 7 = .ok (.bipush (-2), 2) := by decide +kernel
theorem dX11_drops_9 : decode cX11_drops 9 = .ok (.ireturn, 1) := by decide +kernel
theorem dX11_drops_10 : decode cX11_drops 10 = .ok (.aload_n 0, 1) := by decide +kernel
theorem dX11_drops_11 : decode cX11_drops 11 = .ok (.getfield 32, 3) := by decide +kernel
theorem dX11_drops_14 : decode cX11_drops 14 = .ok (.iload_n 1, 1) := by decide +kernel
theorem dX11_drops_15 : decode cX11_drops 15 = .ok (.aaload, 1) := by decide +kernel
theorem dX11_drops_16 : decode cX11_drops 16 = .ok (.astore_n 2, 1) := by decide +kernel
theorem dX11_drops_17 : decode cX11_drops 17 = .ok (.aload_n 2, 1) := by decide +kernel
theorem dX11_drops_18 : decode cX11_drops 18 = .ok (.getfield 120, 3) := by decide +kernel
theorem dX11_drops_21 : decode cX11_drops 21 = .ok (.ifCond .ne 5, 3) := by decide +kernel
theorem dX11_drops_24 : decode cX11_drops 24 = .ok (.iconst 0, 1) := by decide +kernel
theorem dX11_drops_25 : decode cX11_drops 25 = .ok (.ireturn, 1) := by decide +kernel
theorem dX11_end_0 : decode cX11_end 0 = .ok (.iload_n 1, 1) := by decide +kernel
theorem dX11_end_1 : decode cX11_end 1 = .ok (.ifCond .lt 14, 3) := by decide +kernel
theorem dX11_end_4 : decode cX11_end 4 = .ok (.iload_n 1, 1) := by decide +kernel
theorem dX11_end_5 : decode cX11_end 5 = .ok (.aload_n 0, 1) := by decide +kernel
theorem dX11_end_6 : decode cX11_end 6 = .ok (.getfield 14, 3) := by decide +kernel
theorem dX11_end_9 : decode cX11_end 9 = .ok (.getfield 79, 3) := by decide +kernel
theorem dX11_end_12 : decode cX11_end 12 = .ok (.if_icmp .le 5, 3) := by decide +kernel
theorem dX11_end_15 : decode cX11_end 15 = .ok (.iconst (-1), 1) := by decide +kernel
theorem dX11_end_16 : decode cX11_end 16 = .ok (.ireturn, 1) := by decide +kernel
theorem dX11_end_17 : decode cX11_end 17 = .ok (.aload_n 0, 1) := by decide +kernel
theorem dX11_end_18 : decode cX11_end 18 = .ok (.getfield 14, 3) := by decide +kernel
theorem dX11_end_21 : decode cX11_end 21 = .ok (.iload_n 1, 1) := by decide +kernel
theorem dX11_end_22 : decode cX11_end 22 = .ok (.putfield 79, 3) := by decide +kernel
theorem dX11_end_25 : decode cX11_end 25 = .ok (.iload_n 1, 1) := by decide +kernel
theorem dX11_end_26 : decode cX11_end 26 = .ok (.ireturn, 1) := by decide +kernel
theorem dX11_far_0 : decode cX11_far 0 = .ok (.aload_n 0, 1) := by decide +kernel
theorem dX11_far_1 : decode cX11_far 1 = .ok (.iload_n 1, 1) := by decide +kernel
theorem dX11_far_2 : decode cX11_far 2 = .ok (.invokevirtual 116, 3) := by decide +kernel
theorem dX11_far_5 : decode cX11_far 5 = .ok (.astore 4, 2) := by decide +kernel
theorem dX11_far_7 : decode cX11_far 7 = .ok (.aload 4, 2) := by decide +kernel
theorem dX11_far_9 : decode cX11_far 9 = .ok (.ifnull 21, 3) := by decide +kernel
theorem dX11_far_30 : decode cX11_far 30 = .ok (.bipush (-2), 2) := by decide +kernel
theorem dX11_far_32 : decode cX11_far 32 = .ok (.goto 10, 3) := by decide +kernel
theorem dX11_far_42 : decode cX11_far 42 = .ok (.ireturn, 1) := by decide +kernel
theorem dX11_fault_0 : decode cX11_fault 0 = .ok (.iload_n 1, 1) := by decide +kernel
theorem dX11_fault_1 : decode cX11_fault 1 = .ok (.ifCond .ne 11, 3) := by decide +kernel
theorem dX11_fault_4 : decode cX11_fault 4 = .ok (.aload_n 0, 1) := by decide +kernel
theorem dX11_fault_5 : decode cX11_fault 5 = .ok (.getfield 26, 3) := by decide +kernel
theorem dX11_fault_8 : decode cX11_fault 8 = .ok (.getfield 103, 3) := by decide +kernel
theorem dX11_fault_11 : decode cX11_fault 11 = .ok (.ireturn, 1) := by decide +kernel
theorem dX11_fault_12 : decode cX11_fault 12 = .ok (.iload_n 1, 1) := by decide +kernel
theorem dX11_fault_13 : decode cX11_fault 13 = .ok (.iconst 1, 1) := by decide +kernel
theorem dX11_fault_14 : decode cX11_fault 14 = .ok (.if_icmp .ne 13, 3) := by decide +kernel
theorem dX11_fault_17 : decode cX11_fault 17 = .ok (.aload_n 0, 1) := by decide +kernel
theorem dX11_fault_18 : decode cX11_fault 18 = .ok (.getfield 26, 3) := by decide +kernel
theorem dX11_fault_21 : decode cX11_fault 21 = .ok (.getfield 106, 3) := by decide +kernel
theorem dX11_fault_24 : decode cX11_fault 24 = .ok (.goto 4, 3) := by decide +kernel
theorem dX11_fault_27 : decode cX11_fault 27 = .ok (.iconst (-1), 1) := by decide +kernel
theorem dX11_fault_28 : decode cX11_fault 28 = .ok (.ireturn, 1) := by decide +kernel
theorem dX11_feed_0 : decode cX11_feed 0 = .ok (.aload_n 0, 1) := by decide +kernel
theorem dX11_feed_1 : decode cX11_feed 1 = .ok (.getfield 14, 3) := by decide +kernel
theorem dX11_feed_4 : decode cX11_feed 4 = .ok (.bipush 20, 2) := by decide +kernel
theorem dX11_feed_6 : decode cX11_feed 6 = .ok (.invokevirtual 72, 3) := by decide +kernel
theorem dX11_feed_9 : decode cX11_feed 9 = .ok (.ifCond .ne 5, 3) := by decide +kernel
theorem dX11_feed_14 : decode cX11_feed 14 = .ok (.aload_n 0, 1) := by decide +kernel
theorem dX11_feed_15 : decode cX11_feed 15 = .ok (.getfield 14, 3) := by decide +kernel
theorem dX11_feed_18 : decode cX11_feed 18 = .ok (.iload_n 1, 1) := by decide +kernel
theorem dX11_feed_19 : decode cX11_feed 19 = .ok (.invokevirtual 76, 3) := by decide +kernel
theorem dX11_feed_22 : decode cX11_feed 22 = .ok (.aload_n 0, 1) := by decide +kernel
theorem dX11_feed_23 : decode cX11_feed 23 = .ok (.getfield 14, 3) := by decide +kernel
theorem dX11_feed_26 : decode cX11_feed 26 = .ok (.iload_n 2, 1) := by decide +kernel
theorem dX11_feed_27 : decode cX11_feed 27 = .ok (.invokevirtual 76, 3) := by decide +kernel
theorem dX11_feed_30 : decode cX11_feed 30 = .ok (.aload_n 0, 1) := by decide +kernel
theorem dX11_feed_31 : decode cX11_feed 31 = .ok (.getfield 14, 3) := by decide +kernel
theorem dX11_feed_34 : decode cX11_feed 34 = .ok (.iload_n 3, 1) := by decide +kernel
theorem dX11_feed_35 : decode cX11_feed 35 = .ok (.invokevirtual 76, 3) := by decide +kernel
theorem dX11_feed_38 : decode cX11_feed 38 = .ok (.aload_n 0, 1) := by decide +kernel
theorem dX11_feed_39 : decode cX11_feed 39 = .ok (.getfield 14, 3) := by decide +kernel
theorem dX11_feed_42 : decode cX11_feed 42 = .ok (.iload 4, 2) := by decide +kernel
theorem dX11_feed_44 : decode cX11_feed 44 = .ok (.invokevirtual 76, 3) := by decide +kernel
theorem dX11_feed_47 : decode cX11_feed 47 = .ok (.aload_n 0, 1) := by decide +kernel
theorem dX11_feed_48 : decode cX11_feed 48 = .ok (.getfield 14, 3) := by decide +kernel
theorem dX11_feed_51 : decode cX11_feed 51 = .ok (.iload 5, 2) := by decide +kernel
theorem dX11_feed_53 : decode cX11_feed 53 = .ok (.invokevirtual 76, 3) := by decide +kernel
theorem dX11_feed_56 : decode cX11_feed 56 = .ok (.aload_n 0, 1) := by decide +kernel
theorem dX11_feed_57 : decode cX11_feed 57 = .ok (.getfield 14, 3) := by decide +kernel
theorem dX11_feed_60 : decode cX11_feed 60 = .ok (.getfield 79, 3) := by decide +kernel
theorem dX11_feed_63 : decode cX11_feed 63 = .ok (.ireturn, 1) := by decide +kernel
theorem dX11_filled_0 : decode cX11_filled 0 = .ok (.aload_n 0, 1) := by decide +kernel
theorem dX11_filled_1 : decode cX11_filled 1 = .ok (.iload_n 1, 1) := by decide +kernel
theorem dX11_filled_2 : decode cX11_filled 2 = .ok (.invokevirtual 116, 3) := by decide +kernel
theorem dX11_filled_5 : decode cX11_filled 5 = .ok (.astore_n 3, 1) := by decide +kernel
theorem dX11_filled_6 : decode cX11_filled 6 = .ok (.aload_n 3, 1) := by decide +kernel
theorem dX11_filled_7 : decode cX11_filled 7 = .ok (.ifnull 8, 3) := by decide +kernel
theorem dX11_filled_15 : decode cX11_filled 15 = .ok (.bipush (-2), 2) := by decide +kernel
theorem dX11_filled_17 : decode cX11_filled 17 = .ok (.goto 8, 3) := by decide +kernel
theorem dX11_filled_25 : decode cX11_filled 25 = .ok (.ireturn, 1) := by decide +kernel
theorem dX11_filledSlots_0 : decode cX11_filledSlots 0 = .ok (.iconst 0, 1) := by decide +kernel
theorem dX11_filledSlots_1 : decode cX11_filledSlots 1 = .ok (.istore_n 1, 1) := by decide +kernel
theorem dX11_filledSlots_2 : decode cX11_filledSlots 2 = .ok (.iconst 0, 1) := by decide +kernel
theorem dX11_filledSlots_3 : decode cX11_filledSlots 3 = .ok (.istore_n 2, 1) := by decide +kernel
theorem dX11_filledSlots_4 : decode cX11_filledSlots 4 = .ok (.iload_n 2, 1) := by decide +kernel
theorem dX11_filledSlots_5 : decode cX11_filledSlots 5 = .ok (.iconst 3, 1) := by decide +kernel
theorem dX11_filledSlots_6 : decode cX11_filledSlots 6 = .ok (.if_icmp .ge 27, 3) := by decide +kernel
theorem dX11_filledSlots_9 : decode cX11_filledSlots 9 = .ok (.aload_n 0, 1) := by decide +kernel
theorem dX11_filledSlots_10 : decode cX11_filledSlots 10 = .ok (.getfield 32, 3) := by decide +kernel
theorem dX11_filledSlots_13 : decode cX11_filledSlots 13 = .ok (.iload_n 2, 1) := by decide +kernel
theorem dX11_filledSlots_14 : decode cX11_filledSlots 14 = .ok (.aaload, 1) := by decide +kernel
theorem dX11_filledSlots_15 : decode cX11_filledSlots 15 = .ok (.getfield 120, 3) := by decide +kernel
theorem dX11_filledSlots_18 : decode cX11_filledSlots 18 = .ok (.ifCond .le 9, 3) := by decide +kernel
theorem dX11_filledSlots_27 : decode cX11_filledSlots 27 = .ok (.iinc 2 1, 3) := by decide +kernel
theorem dX11_filledSlots_30 : decode cX11_filledSlots 30 = .ok (.goto (-26), 3) := by decide +kernel
theorem dX11_filledSlots_33 : decode cX11_filledSlots 33 = .ok (.iload_n 1, 1) := by decide +kernel
theorem dX11_filledSlots_34 : decode cX11_filledSlots 34 = .ok (.ireturn, 1) := by decide +kernel
theorem dX11_findingOf_0 : decode cX11_findingOf 0 = .ok (.aload_n 0, 1) := by decide +kernel
theorem dX11_findingOf_1 : decode cX11_findingOf 1 = .ok (.iload_n 1, 1) := by decide +kernel
theorem dX11_findingOf_2 : decode cX11_findingOf 2 = .ok (.invokevirtual 116, 3) := by decide +kernel
theorem dX11_findingOf_5 : decode cX11_findingOf 5 = .ok (.astore_n 3, 1) := by decide +kernel
theorem dX11_findingOf_6 : decode cX11_findingOf 6 = .ok (.aload_n 3, 1) := by decide +kernel
theorem dX11_findingOf_7 : decode cX11_findingOf 7 = .ok (.ifnull 10, 3) := by decide +kernel
theorem dX11_findingOf_17 : decode cX11_findingOf 17 = .ok (.aconst_null, 1) := by decide +kernel
theorem dX11_findingOf_18 : decode cX11_findingOf 18 = .ok (.areturn, 1) := by decide +kernel
theorem dX11_firsts_0 : decode cX11_firsts 0 = .ok (.aload_n 0, 1) := by decide +kernel
theorem dX11_firsts_1 : decode cX11_firsts 1 = .ok (.iload_n 1, 1) := by decide +kernel
theorem dX11_firsts_2 : decode cX11_firsts 2 = .ok (.iload_n 2, 1) := by decide +kernel
theorem dX11_firsts_3 : decode cX11_firsts 3 = .ok (.invokevirtual 189, 3) := by decide +kernel
theorem dX11_firsts_6 : decode cX11_firsts 6 = .ok (.astore_n 3, 1) := by decide +kernel
theorem dX11_firsts_7 : decode cX11_firsts 7 = .ok (.aload_n 3, 1) := by decide +kernel
theorem dX11_firsts_8 : decode cX11_firsts 8 = .ok (.ifnonnull 8, 3) := by decide +kernel
theorem dX11_firsts_11 : decode cX11_firsts 11 = .ok (.bipush (-2), 2) := by decide +kernel
theorem dX11_firsts_13 : decode cX11_firsts 13 = .ok (.goto 7, 3) := by decide +kernel
theorem dX11_firsts_20 : decode cX11_firsts 20 = .ok (.ireturn, 1) := by decide +kernel
theorem dX11_gain_0 : decode cX11_gain 0 = .ok (.aload_n 0, 1) := by decide +kernel
theorem dX11_gain_1 : decode cX11_gain 1 = .ok (.iload_n 1, 1) := by decide +kernel
theorem dX11_gain_2 : decode cX11_gain 2 = .ok (.invokevirtual 116, 3) := by decide +kernel
theorem dX11_gain_5 : decode cX11_gain 5 = .ok (.astore 5, 2) := by decide +kernel
theorem dX11_gain_7 : decode cX11_gain 7 = .ok (.aload 5, 2) := by decide +kernel
theorem dX11_gain_9 : decode cX11_gain 9 = .ok (.ifnull 29, 3) := by decide +kernel
theorem dX11_gain_38 : decode cX11_gain 38 = .ok (.sipush (-1000), 3) := by decide +kernel
theorem dX11_gain_41 : decode cX11_gain 41 = .ok (.ireturn, 1) := by decide +kernel
theorem dX11_greedy_0 : decode cX11_greedy 0 = .ok (.aload_n 0, 1) := by decide +kernel
theorem dX11_greedy_1 : decode cX11_greedy 1 = .ok (.iload_n 1, 1) := by decide +kernel
theorem dX11_greedy_2 : decode cX11_greedy 2 = .ok (.invokevirtual 116, 3) := by decide +kernel
theorem dX11_greedy_5 : decode cX11_greedy 5 = .ok (.astore_n 3, 1) := by decide +kernel
theorem dX11_greedy_6 : decode cX11_greedy 6 = .ok (.aload_n 3, 1) := by decide +kernel
theorem dX11_greedy_7 : decode cX11_greedy 7 = .ok (.ifnull 10, 3) := by decide +kernel
theorem dX11_greedy_17 : decode cX11_greedy 17 = .ok (.bipush (-2), 2) := by decide +kernel
theorem dX11_greedy_19 : decode cX11_greedy 19 = .ok (.ireturn, 1) := by decide +kernel
theorem dX11_halve_0 : decode cX11_halve 0 = .ok (.aload_n 0, 1) := by decide +kernel
theorem dX11_halve_1 : decode cX11_halve 1 = .ok (.iload_n 1, 1) := by decide +kernel
theorem dX11_halve_2 : decode cX11_halve 2 = .ok (.invokevirtual 116, 3) := by decide +kernel
theorem dX11_halve_5 : decode cX11_halve 5 = .ok (.astore_n 2, 1) := by decide +kernel
theorem dX11_halve_6 : decode cX11_halve 6 = .ok (.aload_n 2, 1) := by decide +kernel
theorem dX11_halve_7 : decode cX11_halve 7 = .ok (.ifnonnull 8, 3) := by decide +kernel
theorem dX11_halve_10 : decode cX11_halve 10 = .ok (.bipush (-2), 2) := by decide +kernel
theorem dX11_halve_12 : decode cX11_halve 12 = .ok (.goto 7, 3) := by decide +kernel
theorem dX11_halve_19 : decode cX11_halve 19 = .ok (.ireturn, 1) := by decide +kernel
theorem dX11_init_0 : decode cX11_init 0 = .ok (.aload_n 0, 1) := by decide +kernel
theorem dX11_init_1 : decode cX11_init 1 = .ok (.invokespecial 1, 3) := by decide +kernel
theorem dX11_init_4 : decode cX11_init 4 = .ok (.aload_n 0, 1) := by decide +kernel
theorem dX11_init_5 : decode cX11_init 5 = .ok (.new 7, 3) := by decide +kernel
theorem dX11_init_8 : decode cX11_init 8 = .ok (.dup, 1) := by decide +kernel
theorem dX11_init_9 : decode cX11_init 9 = .ok (.sipush 400, 3) := by decide +kernel
theorem dX11_init_12 : decode cX11_init 12 = .ok (.invokespecial 11, 3) := by decide +kernel
theorem dX11_init_15 : decode cX11_init 15 = .ok (.putfield 14, 3) := by decide +kernel
theorem dX11_init_18 : decode cX11_init 18 = .ok (.aload_n 0, 1) := by decide +kernel
theorem dX11_init_19 : decode cX11_init 19 = .ok (.new 7, 3) := by decide +kernel
theorem dX11_init_22 : decode cX11_init 22 = .ok (.dup, 1) := by decide +kernel
theorem dX11_init_23 : decode cX11_init 23 = .ok (.sipush 256, 3) := by decide +kernel
theorem dX11_init_26 : decode cX11_init 26 = .ok (.invokespecial 11, 3) := by decide +kernel
theorem dX11_init_29 : decode cX11_init 29 = .ok (.putfield 18, 3) := by decide +kernel
theorem dX11_init_32 : decode cX11_init 32 = .ok (.aload_n 0, 1) := by decide +kernel
theorem dX11_init_33 : decode cX11_init 33 = .ok (.new 21, 3) := by decide +kernel
theorem dX11_init_36 : decode cX11_init 36 = .ok (.dup, 1) := by decide +kernel
theorem dX11_init_37 : decode cX11_init 37 = .ok (.aload_n 0, 1) := by decide +kernel
theorem dX11_init_38 : decode cX11_init 38 = .ok (.getfield 14, 3) := by decide +kernel
theorem dX11_init_41 : decode cX11_init 41 = .ok (.invokespecial 23, 3) := by decide +kernel
theorem dX11_init_44 : decode cX11_init 44 = .ok (.putfield 26, 3) := by decide +kernel
theorem dX11_init_47 : decode cX11_init 47 = .ok (.aload_n 0, 1) := by decide +kernel
theorem dX11_init_48 : decode cX11_init 48 = .ok (.iconst 3, 1) := by decide +kernel
theorem dX11_init_49 : decode cX11_init 49 = .ok (.anewarray 30, 3) := by decide +kernel
theorem dX11_init_52 : decode cX11_init 52 = .ok (.putfield 32, 3) := by decide +kernel
theorem dX11_init_55 : decode cX11_init 55 = .ok (.aload_n 0, 1) := by decide +kernel
theorem dX11_init_56 : decode cX11_init 56 = .ok (.iconst 3, 1) := by decide +kernel
theorem dX11_init_57 : decode cX11_init 57 = .ok (.anewarray 36, 3) := by decide +kernel
theorem dX11_init_60 : decode cX11_init 60 = .ok (.putfield 38, 3) := by decide +kernel
theorem dX11_init_63 : decode cX11_init 63 = .ok (.iconst 0, 1) := by decide +kernel
theorem dX11_init_64 : decode cX11_init 64 = .ok (.istore_n 1, 1) := by decide +kernel
theorem dX11_init_65 : decode cX11_init 65 = .ok (.iload_n 1, 1) := by decide +kernel
theorem dX11_init_66 : decode cX11_init 66 = .ok (.iconst 3, 1) := by decide +kernel
theorem dX11_init_67 : decode cX11_init 67 = .ok (.if_icmp .ge 35, 3) := by decide +kernel
theorem dX11_init_70 : decode cX11_init 70 = .ok (.aload_n 0, 1) := by decide +kernel
theorem dX11_init_71 : decode cX11_init 71 = .ok (.getfield 32, 3) := by decide +kernel
theorem dX11_init_74 : decode cX11_init 74 = .ok (.iload_n 1, 1) := by decide +kernel
theorem dX11_init_75 : decode cX11_init 75 = .ok (.new 30, 3) := by decide +kernel
theorem dX11_init_78 : decode cX11_init 78 = .ok (.dup, 1) := by decide +kernel
theorem dX11_init_79 : decode cX11_init 79 = .ok (.invokespecial 42, 3) := by decide +kernel
theorem dX11_init_82 : decode cX11_init 82 = .ok (.aastore, 1) := by decide +kernel
theorem dX11_init_83 : decode cX11_init 83 = .ok (.aload_n 0, 1) := by decide +kernel
theorem dX11_init_84 : decode cX11_init 84 = .ok (.getfield 38, 3) := by decide +kernel
theorem dX11_init_87 : decode cX11_init 87 = .ok (.iload_n 1, 1) := by decide +kernel
theorem dX11_init_88 : decode cX11_init 88 = .ok (.new 36, 3) := by decide +kernel
theorem dX11_init_91 : decode cX11_init 91 = .ok (.dup, 1) := by decide +kernel
theorem dX11_init_92 : decode cX11_init 92 = .ok (.invokespecial 43, 3) := by decide +kernel
theorem dX11_init_95 : decode cX11_init 95 = .ok (.aastore, 1) := by decide +kernel
theorem dX11_init_96 : decode cX11_init 96 = .ok (.iinc 1 1, 3) := by decide +kernel
theorem dX11_init_99 : decode cX11_init 99 = .ok (.goto (-34), 3) := by decide +kernel
theorem dX11_init_102 : decode cX11_init 102 = .ok (.aload_n 0, 1) := by decide +kernel
theorem dX11_init_103 : decode cX11_init 103 = .ok (.new 44, 3) := by decide +kernel
theorem dX11_init_106 : decode cX11_init 106 = .ok (.dup, 1) := by decide +kernel
theorem dX11_init_107 : decode cX11_init 107 = .ok (.invokespecial 46, 3) := by decide +kernel
theorem dX11_init_110 : decode cX11_init 110 = .ok (.putfield 47, 3) := by decide +kernel
theorem dX11_init_113 : decode cX11_init 113 = .ok (.aload_n 0, 1) := by decide +kernel
theorem dX11_init_114 : decode cX11_init 114 = .ok (.new 51, 3) := by decide +kernel
theorem dX11_init_117 : decode cX11_init 117 = .ok (.dup, 1) := by decide +kernel
theorem dX11_init_118 : decode cX11_init 118 = .ok (.invokespecial 53, 3) := by decide +kernel
theorem dX11_init_121 : decode cX11_init 121 = .ok (.putfield 54, 3) := by decide +kernel
theorem dX11_init_124 : decode cX11_init 124 = .ok (.aload_n 0, 1) := by decide +kernel
theorem dX11_init_125 : decode cX11_init 125 = .ok (.new 58, 3) := by decide +kernel
theorem dX11_init_128 : decode cX11_init 128 = .ok (.dup, 1) := by decide +kernel
theorem dX11_init_129 : decode cX11_init 129 = .ok (.invokespecial 60, 3) := by decide +kernel
theorem dX11_init_132 : decode cX11_init 132 = .ok (.putfield 61, 3) := by decide +kernel
theorem dX11_init_135 : decode cX11_init 135 = .ok (.aload_n 0, 1) := by decide +kernel
theorem dX11_init_136 : decode cX11_init 136 = .ok (.new 30, 3) := by decide +kernel
theorem dX11_init_139 : decode cX11_init 139 = .ok (.dup, 1) := by decide +kernel
theorem dX11_init_140 : decode cX11_init 140 = .ok (.invokespecial 42, 3) := by decide +kernel
theorem dX11_init_143 : decode cX11_init 143 = .ok (.putfield 65, 3) := by decide +kernel
theorem dX11_init_146 : decode cX11_init 146 = .ok (.aload_n 0, 1) := by decide +kernel
theorem dX11_init_147 : decode cX11_init 147 = .ok (.new 30, 3) := by decide +kernel
theorem dX11_init_150 : decode cX11_init 150 = .ok (.dup, 1) := by decide +kernel
theorem dX11_init_151 : decode cX11_init 151 = .ok (.invokespecial 42, 3) := by decide +kernel
theorem dX11_init_154 : decode cX11_init 154 = .ok (.putfield 69, 3) := by decide +kernel
theorem dX11_init_157 : decode cX11_init 157 = .ok (.return_, 1) := by decide +kernel
theorem dX11_isSlot_0 : decode cX11_isSlot 0 = .ok (.iload_n 0, 1) := by decide +kernel
theorem dX11_isSlot_1 : decode cX11_isSlot 1 = .ok (.ifCond .lt 12, 3) := by decide +kernel
theorem dX11_isSlot_4 : decode cX11_isSlot 4 = .ok (.iload_n 0, 1) := by decide +kernel
theorem dX11_isSlot_5 : decode cX11_isSlot 5 = .ok (.iconst 3, 1) := by decide +kernel
theorem dX11_isSlot_6 : decode cX11_isSlot 6 = .ok (.if_icmp .ge 7, 3) := by decide +kernel
theorem dX11_isSlot_9 : decode cX11_isSlot 9 = .ok (.iconst 1, 1) := by decide +kernel
theorem dX11_isSlot_10 : decode cX11_isSlot 10 = .ok (.goto 4, 3) := by decide +kernel
theorem dX11_isSlot_13 : decode cX11_isSlot 13 = .ok (.iconst 0, 1) := by decide +kernel
theorem dX11_isSlot_14 : decode cX11_isSlot 14 = .ok (.ireturn, 1) := by decide +kernel
theorem dX11_layers_0 : decode cX11_layers 0 = .ok (.aload_n 0, 1) := by decide +kernel
theorem dX11_layers_1 : decode cX11_layers 1 = .ok (.iload_n 1, 1) := by decide +kernel
theorem dX11_layers_2 : decode cX11_layers 2 = .ok (.invokevirtual 116, 3) := by decide +kernel
theorem dX11_layers_5 : decode cX11_layers 5 = .ok (.astore_n 3, 1) := by decide +kernel
theorem dX11_layers_6 : decode cX11_layers 6 = .ok (.aload_n 3, 1) := by decide +kernel
theorem dX11_layers_7 : decode cX11_layers 7 = .ok (.ifnull 11, 3) := by decide +kernel
theorem dX11_layers_18 : decode cX11_layers 18 = .ok (.bipush (-2), 2) := by decide +kernel
theorem dX11_layers_20 : decode cX11_layers 20 = .ok (.ireturn, 1) := by decide +kernel
theorem dX11_least_0 : decode cX11_least 0 = .ok (.aload_n 0, 1) := by decide +kernel
theorem dX11_least_1 : decode cX11_least 1 = .ok (.iload_n 1, 1) := by decide +kernel
theorem dX11_least_2 : decode cX11_least 2 = .ok (.iload_n 2, 1) := by decide +kernel
theorem dX11_least_3 : decode cX11_least 3 = .ok (.invokevirtual 189, 3) := by decide +kernel
theorem dX11_least_6 : decode cX11_least 6 = .ok (.astore_n 3, 1) := by decide +kernel
theorem dX11_least_7 : decode cX11_least 7 = .ok (.aload_n 3, 1) := by decide +kernel
theorem dX11_least_8 : decode cX11_least 8 = .ok (.ifnonnull 8, 3) := by decide +kernel
theorem dX11_least_11 : decode cX11_least 11 = .ok (.bipush (-2), 2) := by decide +kernel
theorem dX11_least_13 : decode cX11_least 13 = .ok (.goto 7, 3) := by decide +kernel
theorem dX11_least_20 : decode cX11_least 20 = .ok (.ireturn, 1) := by decide +kernel
theorem dX11_line_0 : decode cX11_line 0 = .ok (.aload_n 0, 1) := by decide +kernel
theorem dX11_line_1 : decode cX11_line 1 = .ok (.iload_n 1, 1) := by decide +kernel
theorem dX11_line_2 : decode cX11_line 2 = .ok (.invokevirtual 116, 3) := by decide +kernel
theorem dX11_line_5 : decode cX11_line 5 = .ok (.astore 4, 2) := by decide +kernel
theorem dX11_line_7 : decode cX11_line 7 = .ok (.aload 4, 2) := by decide +kernel
theorem dX11_line_9 : decode cX11_line 9 = .ok (.ifnull 21, 3) := by decide +kernel
theorem dX11_line_30 : decode cX11_line 30 = .ok (.bipush (-2), 2) := by decide +kernel
theorem dX11_line_32 : decode cX11_line 32 = .ok (.goto 10, 3) := by decide +kernel
theorem dX11_line_42 : decode cX11_line 42 = .ok (.ireturn, 1) := by decide +kernel
theorem dX11_longest_0 : decode cX11_longest 0 = .ok (.aload_n 0, 1) := by decide +kernel
theorem dX11_longest_1 : decode cX11_longest 1 = .ok (.iload_n 1, 1) := by decide +kernel
theorem dX11_longest_2 : decode cX11_longest 2 = .ok (.invokevirtual 116, 3) := by decide +kernel
theorem dX11_longest_5 : decode cX11_longest 5 = .ok (.astore_n 2, 1) := by decide +kernel
theorem dX11_longest_6 : decode cX11_longest 6 = .ok (.aload_n 2, 1) := by decide +kernel
theorem dX11_longest_7 : decode cX11_longest 7 = .ok (.ifnonnull 8, 3) := by decide +kernel
theorem dX11_longest_10 : decode cX11_longest 10 = .ok (.bipush (-2), 2) := by decide +kernel
theorem dX11_longest_12 : decode cX11_longest 12 = .ok (.goto 7, 3) := by decide +kernel
theorem dX11_longest_19 : decode cX11_longest 19 = .ok (.ireturn, 1) := by decide +kernel
theorem dX11_look_0 : decode cX11_look 0 = .ok (.aload_n 0, 1) := by decide +kernel
theorem dX11_look_1 : decode cX11_look 1 = .ok (.iload_n 1, 1) := by decide +kernel
theorem dX11_look_2 : decode cX11_look 2 = .ok (.invokevirtual 116, 3) := by decide +kernel
theorem dX11_look_5 : decode cX11_look 5 = .ok (.astore_n 3, 1) := by decide +kernel
theorem dX11_look_6 : decode cX11_look 6 = .ok (.aload_n 3, 1) := by decide +kernel
theorem dX11_look_7 : decode cX11_look 7 = .ok (.ifnonnull 6, 3) := by decide +kernel
theorem dX11_look_10 : decode cX11_look 10 = .ok (.bipush (-2), 2) := by decide +kernel
theorem dX11_look_12 : decode cX11_look 12 = .ok (.ireturn, 1) := by decide +kernel
theorem dX11_merges_0 : decode cX11_merges 0 = .ok (.aload_n 0, 1) := by decide +kernel
theorem dX11_merges_1 : decode cX11_merges 1 = .ok (.iload_n 1, 1) := by decide +kernel
theorem dX11_merges_2 : decode cX11_merges 2 = .ok (.invokevirtual 116, 3) := by decide +kernel
theorem dX11_merges_5 : decode cX11_merges 5 = .ok (.astore 4, 2) := by decide +kernel
theorem dX11_merges_7 : decode cX11_merges 7 = .ok (.aload 4, 2) := by decide +kernel
theorem dX11_merges_9 : decode cX11_merges 9 = .ok (.ifnull 13, 3) := by decide +kernel
theorem dX11_merges_22 : decode cX11_merges 22 = .ok (.bipush (-2), 2) := by decide +kernel
theorem dX11_merges_24 : decode cX11_merges 24 = .ok (.ireturn, 1) := by decide +kernel
theorem dX11_minor_0 : decode cX11_minor 0 = .ok (.aload_n 0, 1) := by decide +kernel
theorem dX11_minor_1 : decode cX11_minor 1 = .ok (.iload_n 1, 1) := by decide +kernel
theorem dX11_minor_2 : decode cX11_minor 2 = .ok (.invokevirtual 116, 3) := by decide +kernel
theorem dX11_minor_5 : decode cX11_minor 5 = .ok (.astore_n 2, 1) := by decide +kernel
theorem dX11_minor_6 : decode cX11_minor 6 = .ok (.aload_n 2, 1) := by decide +kernel
theorem dX11_minor_7 : decode cX11_minor 7 = .ok (.ifnonnull 6, 3) := by decide +kernel
theorem dX11_minor_10 : decode cX11_minor 10 = .ok (.bipush (-2), 2) := by decide +kernel
theorem dX11_minor_12 : decode cX11_minor 12 = .ok (.ireturn, 1) := by decide +kernel
theorem dX11_moves_0 : decode cX11_moves 0 = .ok (.aload_n 0, 1) := by decide +kernel
theorem dX11_moves_1 : decode cX11_moves 1 = .ok (.iload_n 1, 1) := by decide +kernel
theorem dX11_moves_2 : decode cX11_moves 2 = .ok (.invokevirtual 116, 3) := by decide +kernel
theorem dX11_moves_5 : decode cX11_moves 5 = .ok (.astore 4, 2) := by decide +kernel
theorem dX11_moves_7 : decode cX11_moves 7 = .ok (.aload 4, 2) := by decide +kernel
theorem dX11_moves_9 : decode cX11_moves 9 = .ok (.ifnull 21, 3) := by decide +kernel
theorem dX11_moves_30 : decode cX11_moves 30 = .ok (.bipush (-2), 2) := by decide +kernel
theorem dX11_moves_32 : decode cX11_moves 32 = .ok (.ireturn, 1) := by decide +kernel
theorem dX11_near_0 : decode cX11_near 0 = .ok (.aload_n 0, 1) := by decide +kernel
theorem dX11_near_1 : decode cX11_near 1 = .ok (.iload_n 1, 1) := by decide +kernel
theorem dX11_near_2 : decode cX11_near 2 = .ok (.invokevirtual 116, 3) := by decide +kernel
theorem dX11_near_5 : decode cX11_near 5 = .ok (.astore_n 3, 1) := by decide +kernel
theorem dX11_near_6 : decode cX11_near 6 = .ok (.aload_n 3, 1) := by decide +kernel
theorem dX11_near_7 : decode cX11_near 7 = .ok (.ifnull 11, 3) := by decide +kernel
theorem dX11_near_18 : decode cX11_near 18 = .ok (.bipush (-2), 2) := by decide +kernel
theorem dX11_near_20 : decode cX11_near 20 = .ok (.goto 9, 3) := by decide +kernel
theorem dX11_near_29 : decode cX11_near 29 = .ok (.ireturn, 1) := by decide +kernel
theorem dX11_netIn_0 : decode cX11_netIn 0 = .ok (.iload_n 1, 1) := by decide +kernel
theorem dX11_netIn_1 : decode cX11_netIn 1 = .ok (.invokestatic 83, 3) := by decide +kernel
theorem dX11_netIn_4 : decode cX11_netIn 4 = .ok (.ifCond .eq 24, 3) := by decide +kernel
theorem dX11_netIn_7 : decode cX11_netIn 7 = .ok (.aload_n 0, 1) := by decide +kernel
theorem dX11_netIn_8 : decode cX11_netIn 8 = .ok (.getfield 32, 3) := by decide +kernel
theorem dX11_netIn_11 : decode cX11_netIn 11 = .ok (.iload_n 1, 1) := by decide +kernel
theorem dX11_netIn_12 : decode cX11_netIn 12 = .ok (.aaload, 1) := by decide +kernel
theorem dX11_netIn_13 : decode cX11_netIn 13 = .ok (.getfield 120, 3) := by decide +kernel
theorem dX11_netIn_16 : decode cX11_netIn 16 = .ok (.ifCond .le 12, 3) := by decide +kernel
theorem dX11_netIn_28 : decode cX11_netIn 28 = .ok (.aconst_null, 1) := by decide +kernel
theorem dX11_netIn_29 : decode cX11_netIn 29 = .ok (.areturn, 1) := by decide +kernel
theorem dX11_octet_0 : decode cX11_octet 0 = .ok (.aload_n 0, 1) := by decide +kernel
theorem dX11_octet_1 : decode cX11_octet 1 = .ok (.getfield 18, 3) := by decide +kernel
theorem dX11_octet_4 : decode cX11_octet 4 = .ok (.iload_n 1, 1) := by decide +kernel
theorem dX11_octet_5 : decode cX11_octet 5 = .ok (.invokevirtual 308, 3) := by decide +kernel
theorem dX11_octet_8 : decode cX11_octet 8 = .ok (.ireturn, 1) := by decide +kernel
theorem dX11_place_0 : decode cX11_place 0 = .ok (.aload_n 0, 1) := by decide +kernel
theorem dX11_place_1 : decode cX11_place 1 = .ok (.iload_n 1, 1) := by decide +kernel
theorem dX11_place_2 : decode cX11_place 2 = .ok (.invokevirtual 116, 3) := by decide +kernel
theorem dX11_place_5 : decode cX11_place 5 = .ok (.astore_n 3, 1) := by decide +kernel
theorem dX11_place_6 : decode cX11_place 6 = .ok (.aload_n 3, 1) := by decide +kernel
theorem dX11_place_7 : decode cX11_place 7 = .ok (.ifnull 11, 3) := by decide +kernel
theorem dX11_place_18 : decode cX11_place 18 = .ok (.bipush (-2), 2) := by decide +kernel
theorem dX11_place_20 : decode cX11_place 20 = .ok (.goto 8, 3) := by decide +kernel
theorem dX11_place_28 : decode cX11_place 28 = .ok (.ireturn, 1) := by decide +kernel
theorem dX11_polish_0 : decode cX11_polish 0 = .ok (.aload_n 0, 1) := by decide +kernel
theorem dX11_polish_1 : decode cX11_polish 1 = .ok (.iload_n 1, 1) := by decide +kernel
theorem dX11_polish_2 : decode cX11_polish 2 = .ok (.invokevirtual 116, 3) := by decide +kernel
theorem dX11_polish_5 : decode cX11_polish 5 = .ok (.astore_n 3, 1) := by decide +kernel
theorem dX11_polish_6 : decode cX11_polish 6 = .ok (.aload_n 3, 1) := by decide +kernel
theorem dX11_polish_7 : decode cX11_polish 7 = .ok (.ifnull 10, 3) := by decide +kernel
theorem dX11_polish_17 : decode cX11_polish 17 = .ok (.bipush (-2), 2) := by decide +kernel
theorem dX11_polish_19 : decode cX11_polish 19 = .ok (.ireturn, 1) := by decide +kernel
theorem dX11_polished_0 : decode cX11_polished 0 = .ok (.aload_n 0, 1) := by decide +kernel
theorem dX11_polished_1 : decode cX11_polished 1 = .ok (.iload_n 1, 1) := by decide +kernel
theorem dX11_polished_2 : decode cX11_polished 2 = .ok (.invokevirtual 116, 3) := by decide +kernel
theorem dX11_polished_5 : decode cX11_polished 5 = .ok (.astore_n 3, 1) := by decide +kernel
theorem dX11_polished_6 : decode cX11_polished 6 = .ok (.aload_n 3, 1) := by decide +kernel
theorem dX11_polished_7 : decode cX11_polished 7 = .ok (.ifnull 10, 3) := by decide +kernel
theorem dX11_polished_17 : decode cX11_polished 17 = .ok (.bipush (-2), 2) := by decide +kernel
theorem dX11_polished_19 : decode cX11_polished 19 = .ok (.ireturn, 1) := by decide +kernel
theorem dX11_price_0 : decode cX11_price 0 = .ok (.aload_n 0, 1) := by decide +kernel
theorem dX11_price_1 : decode cX11_price 1 = .ok (.iload_n 1, 1) := by decide +kernel
theorem dX11_price_2 : decode cX11_price 2 = .ok (.invokevirtual 116, 3) := by decide +kernel
theorem dX11_price_5 : decode cX11_price 5 = .ok (.astore 4, 2) := by decide +kernel
theorem dX11_price_7 : decode cX11_price 7 = .ok (.aload 4, 2) := by decide +kernel
theorem dX11_price_9 : decode cX11_price 9 = .ok (.ifnull 10, 3) := by decide +kernel
theorem dX11_price_19 : decode cX11_price 19 = .ok (.bipush (-2), 2) := by decide +kernel
theorem dX11_price_21 : decode cX11_price 21 = .ok (.ireturn, 1) := by decide +kernel
theorem dX11_reverse_0 : decode cX11_reverse 0 = .ok (.aload_n 0, 1) := by decide +kernel
theorem dX11_reverse_1 : decode cX11_reverse 1 = .ok (.iload_n 1, 1) := by decide +kernel
theorem dX11_reverse_2 : decode cX11_reverse 2 = .ok (.invokevirtual 116, 3) := by decide +kernel
theorem dX11_reverse_5 : decode cX11_reverse 5 = .ok (.astore_n 2, 1) := by decide +kernel
theorem dX11_reverse_6 : decode cX11_reverse 6 = .ok (.aload_n 2, 1) := by decide +kernel
theorem dX11_reverse_7 : decode cX11_reverse 7 = .ok (.ifnonnull 6, 3) := by decide +kernel
theorem dX11_reverse_10 : decode cX11_reverse 10 = .ok (.bipush (-2), 2) := by decide +kernel
theorem dX11_reverse_12 : decode cX11_reverse 12 = .ok (.ireturn, 1) := by decide +kernel
theorem dX11_row_0 : decode cX11_row 0 = .ok (.aload_n 0, 1) := by decide +kernel
theorem dX11_row_1 : decode cX11_row 1 = .ok (.iload_n 1, 1) := by decide +kernel
theorem dX11_row_2 : decode cX11_row 2 = .ok (.invokevirtual 116, 3) := by decide +kernel
theorem dX11_row_5 : decode cX11_row 5 = .ok (.astore_n 3, 1) := by decide +kernel
theorem dX11_row_6 : decode cX11_row 6 = .ok (.aload_n 3, 1) := by decide +kernel
theorem dX11_row_7 : decode cX11_row 7 = .ok (.ifnull 11, 3) := by decide +kernel
theorem dX11_row_18 : decode cX11_row 18 = .ok (.bipush (-2), 2) := by decide +kernel
theorem dX11_row_20 : decode cX11_row 20 = .ok (.goto 9, 3) := by decide +kernel
theorem dX11_row_29 : decode cX11_row 29 = .ok (.ireturn, 1) := by decide +kernel
theorem dX11_split_0 : decode cX11_split 0 = .ok (.aload_n 0, 1) := by decide +kernel
theorem dX11_split_1 : decode cX11_split 1 = .ok (.iload_n 1, 1) := by decide +kernel
theorem dX11_split_2 : decode cX11_split 2 = .ok (.invokevirtual 116, 3) := by decide +kernel
theorem dX11_split_5 : decode cX11_split 5 = .ok (.astore 4, 2) := by decide +kernel
theorem dX11_split_7 : decode cX11_split 7 = .ok (.aload 4, 2) := by decide +kernel
theorem dX11_split_9 : decode cX11_split 9 = .ok (.ifnull 16, 3) := by decide +kernel
theorem dX11_split_25 : decode cX11_split 25 = .ok (.bipush (-2), 2) := by decide +kernel
theorem dX11_split_27 : decode cX11_split 27 = .ok (.ireturn, 1) := by decide +kernel
theorem dX11_swaps_0 : decode cX11_swaps 0 = .ok (.aload_n 0, 1) := by decide +kernel
theorem dX11_swaps_1 : decode cX11_swaps 1 = .ok (.iload_n 1, 1) := by decide +kernel
theorem dX11_swaps_2 : decode cX11_swaps 2 = .ok (.invokevirtual 116, 3) := by decide +kernel
theorem dX11_swaps_5 : decode cX11_swaps 5 = .ok (.astore 4, 2) := by decide +kernel
theorem dX11_swaps_7 : decode cX11_swaps 7 = .ok (.aload 4, 2) := by decide +kernel
theorem dX11_swaps_9 : decode cX11_swaps 9 = .ok (.ifnull 21, 3) := by decide +kernel
theorem dX11_swaps_30 : decode cX11_swaps 30 = .ok (.bipush (-2), 2) := by decide +kernel
theorem dX11_swaps_32 : decode cX11_swaps 32 = .ok (.ireturn, 1) := by decide +kernel
theorem dX11_takes_0 : decode cX11_takes 0 = .ok (.aload_n 0, 1) := by decide +kernel
theorem dX11_takes_1 : decode cX11_takes 1 = .ok (.iload_n 1, 1) := by decide +kernel
theorem dX11_takes_2 : decode cX11_takes 2 = .ok (.iload_n 2, 1) := by decide +kernel
theorem dX11_takes_3 : decode cX11_takes 3 = .ok (.invokevirtual 189, 3) := by decide +kernel
theorem dX11_takes_6 : decode cX11_takes 6 = .ok (.astore_n 3, 1) := by decide +kernel
theorem dX11_takes_7 : decode cX11_takes 7 = .ok (.aload_n 3, 1) := by decide +kernel
theorem dX11_takes_8 : decode cX11_takes 8 = .ok (.ifnonnull 6, 3) := by decide +kernel
theorem dX11_takes_11 : decode cX11_takes 11 = .ok (.bipush (-2), 2) := by decide +kernel
theorem dX11_takes_13 : decode cX11_takes 13 = .ok (.ireturn, 1) := by decide +kernel
theorem dX11_tell_0 : decode cX11_tell 0 = .ok (.aload_n 0, 1) := by decide +kernel
theorem dX11_tell_1 : decode cX11_tell 1 = .ok (.iload_n 1, 1) := by decide +kernel
theorem dX11_tell_2 : decode cX11_tell 2 = .ok (.invokevirtual 116, 3) := by decide +kernel
theorem dX11_tell_5 : decode cX11_tell 5 = .ok (.astore_n 3, 1) := by decide +kernel
theorem dX11_tell_6 : decode cX11_tell 6 = .ok (.aload_n 3, 1) := by decide +kernel
theorem dX11_tell_7 : decode cX11_tell 7 = .ok (.ifnull 12, 3) := by decide +kernel
theorem dX11_tell_19 : decode cX11_tell 19 = .ok (.bipush (-2), 2) := by decide +kernel
theorem dX11_tell_21 : decode cX11_tell 21 = .ok (.ireturn, 1) := by decide +kernel
theorem dX11_told_0 : decode cX11_told 0 = .ok (.iload_n 1, 1) := by decide +kernel
theorem dX11_told_1 : decode cX11_told 1 = .ok (.invokestatic 83, 3) := by decide +kernel
theorem dX11_told_4 : decode cX11_told 4 = .ok (.ifCond .ne 6, 3) := by decide +kernel
theorem dX11_told_7 : decode cX11_told 7 = .ok (.bipush (-2), 2) := by decide +kernel
theorem dX11_told_9 : decode cX11_told 9 = .ok (.ireturn, 1) := by decide +kernel
theorem dX11_told_10 : decode cX11_told 10 = .ok (.aload_n 0, 1) := by decide +kernel
theorem dX11_told_11 : decode cX11_told 11 = .ok (.getfield 26, 3) := by decide +kernel
theorem dX11_told_14 : decode cX11_told 14 = .ok (.invokevirtual 86, 3) := by decide +kernel
theorem dX11_told_17 : decode cX11_told 17 = .ok (.istore_n 2, 1) := by decide +kernel
theorem dX11_told_18 : decode cX11_told 18 = .ok (.aload_n 0, 1) := by decide +kernel
theorem dX11_told_19 : decode cX11_told 19 = .ok (.getfield 14, 3) := by decide +kernel
theorem dX11_told_22 : decode cX11_told 22 = .ok (.iconst 0, 1) := by decide +kernel
theorem dX11_told_23 : decode cX11_told 23 = .ok (.putfield 79, 3) := by decide +kernel
theorem dX11_told_26 : decode cX11_told 26 = .ok (.iload_n 2, 1) := by decide +kernel
theorem dX11_told_27 : decode cX11_told 27 = .ok (.ifCond .ne 6, 3) := by decide +kernel
theorem dX11_told_30 : decode cX11_told 30 = .ok (.bipush (-4), 2) := by decide +kernel
theorem dX11_told_32 : decode cX11_told 32 = .ok (.ireturn, 1) := by decide +kernel
theorem dX11_undo_0 : decode cX11_undo 0 = .ok (.aload_n 0, 1) := by decide +kernel
theorem dX11_undo_1 : decode cX11_undo 1 = .ok (.getfield 61, 3) := by decide +kernel
theorem dX11_undo_4 : decode cX11_undo 4 = .ok (.getfield 113, 3) := by decide +kernel
theorem dX11_undo_7 : decode cX11_undo 7 = .ok (.ifCond .ne 5, 3) := by decide +kernel
theorem dX11_undo_10 : decode cX11_undo 10 = .ok (.iconst (-1), 1) := by decide +kernel
theorem dX11_undo_11 : decode cX11_undo 11 = .ok (.ireturn, 1) := by decide +kernel
theorem dX11_value_0 : decode cX11_value 0 = .ok (.aload_n 0, 1) := by decide +kernel
theorem dX11_value_1 : decode cX11_value 1 = .ok (.iload_n 1, 1) := by decide +kernel
theorem dX11_value_2 : decode cX11_value 2 = .ok (.invokevirtual 116, 3) := by decide +kernel
theorem dX11_value_5 : decode cX11_value 5 = .ok (.astore_n 3, 1) := by decide +kernel
theorem dX11_value_6 : decode cX11_value 6 = .ok (.aload_n 3, 1) := by decide +kernel
theorem dX11_value_7 : decode cX11_value 7 = .ok (.ifnull 10, 3) := by decide +kernel
theorem dX11_value_17 : decode cX11_value 17 = .ok (.bipush (-2), 2) := by decide +kernel
theorem dX11_value_19 : decode cX11_value 19 = .ok (.goto 8, 3) := by decide +kernel
theorem dX11_value_27 : decode cX11_value 27 = .ok (.ireturn, 1) := by decide +kernel
theorem dX11_ways_0 : decode cX11_ways 0 = .ok (.aload_n 0, 1) := by decide +kernel
theorem dX11_ways_1 : decode cX11_ways 1 = .ok (.iload_n 1, 1) := by decide +kernel
theorem dX11_ways_2 : decode cX11_ways 2 = .ok (.iload_n 2, 1) := by decide +kernel
theorem dX11_ways_3 : decode cX11_ways 3 = .ok (.invokevirtual 189, 3) := by decide +kernel
theorem dX11_ways_6 : decode cX11_ways 6 = .ok (.astore_n 3, 1) := by decide +kernel
theorem dX11_ways_7 : decode cX11_ways 7 = .ok (.aload_n 3, 1) := by decide +kernel
theorem dX11_ways_8 : decode cX11_ways 8 = .ok (.ifnonnull 8, 3) := by decide +kernel
theorem dX11_ways_11 : decode cX11_ways 11 = .ok (.bipush (-2), 2) := by decide +kernel
theorem dX11_ways_13 : decode cX11_ways 13 = .ok (.goto 7, 3) := by decide +kernel
theorem dX11_ways_20 : decode cX11_ways 20 = .ok (.ireturn, 1) := by decide +kernel
theorem dX11_within_0 : decode cX11_within 0 = .ok (.aload_n 0, 1) := by decide +kernel
theorem dX11_within_1 : decode cX11_within 1 = .ok (.iload_n 1, 1) := by decide +kernel
theorem dX11_within_2 : decode cX11_within 2 = .ok (.invokevirtual 116, 3) := by decide +kernel
theorem dX11_within_5 : decode cX11_within 5 = .ok (.astore 4, 2) := by decide +kernel
theorem dX11_within_7 : decode cX11_within 7 = .ok (.aload 4, 2) := by decide +kernel
theorem dX11_within_9 : decode cX11_within 9 = .ok (.ifnull 14, 3) := by decide +kernel
theorem dX11_within_23 : decode cX11_within 23 = .ok (.bipush (-2), 2) := by decide +kernel
theorem dX11_within_25 : decode cX11_within 25 = .ok (.ireturn, 1) := by decide +kernel
theorem dX11_worst_0 : decode cX11_worst 0 = .ok (.aload_n 0, 1) := by decide +kernel
theorem dX11_worst_1 : decode cX11_worst 1 = .ok (.iload_n 1, 1) := by decide +kernel
theorem dX11_worst_2 : decode cX11_worst 2 = .ok (.invokevirtual 116, 3) := by decide +kernel
theorem dX11_worst_5 : decode cX11_worst 5 = .ok (.astore_n 3, 1) := by decide +kernel
theorem dX11_worst_6 : decode cX11_worst 6 = .ok (.aload_n 3, 1) := by decide +kernel
theorem dX11_worst_7 : decode cX11_worst 7 = .ok (.ifnull 10, 3) := by decide +kernel
theorem dX11_worst_17 : decode cX11_worst 17 = .ok (.bipush (-2), 2) := by decide +kernel
theorem dX11_worst_19 : decode cX11_worst 19 = .ok (.ireturn, 1) := by decide +kernel
theorem dX12_adds_0 : decode cX12_adds 0 = .ok (.aload_n 0, 1) := by decide +kernel
theorem dX12_adds_1 : decode cX12_adds 1 = .ok (.iload_n 1, 1) := by decide +kernel
theorem dX12_adds_2 : decode cX12_adds 2 = .ok (.iload_n 2, 1) := by decide +kernel
theorem dX12_adds_3 : decode cX12_adds 3 = .ok (.iload_n 3, 1) := by decide +kernel
theorem dX12_adds_4 : decode cX12_adds 4 = .ok (.invokevirtual 326, 3) := by decide +kernel
theorem dX12_adds_7 : decode cX12_adds 7 = .ok (.ifCond .eq 16, 3) := by decide +kernel
theorem dX12_adds_23 : decode cX12_adds 23 = .ok (.bipush (-2), 2) := by decide +kernel
theorem dX12_adds_25 : decode cX12_adds 25 = .ok (.ireturn, 1) := by decide +kernel
theorem dX12_among_0 : decode cX12_among 0 = .ok (.aload_n 0, 1) := by decide +kernel
theorem dX12_among_1 : decode cX12_among 1 = .ok (.iload_n 1, 1) := by decide +kernel
theorem dX12_among_2 : decode cX12_among 2 = .ok (.invokevirtual 67, 3) := by decide +kernel
theorem dX12_among_5 : decode cX12_among 5 = .ok (.ifCond .eq 29, 3) := by decide +kernel
theorem dX12_among_34 : decode cX12_among 34 = .ok (.bipush (-2), 2) := by decide +kernel
theorem dX12_among_36 : decode cX12_among 36 = .ok (.ireturn, 1) := by decide +kernel
theorem dX12_areTwo_0 : decode cX12_areTwo 0 = .ok (.aload_n 0, 1) := by decide +kernel
theorem dX12_areTwo_1 : decode cX12_areTwo 1 = .ok (.iload_n 1, 1) := by decide +kernel
theorem dX12_areTwo_2 : decode cX12_areTwo 2 = .ok (.iload_n 2, 1) := by decide +kernel
theorem dX12_areTwo_3 : decode cX12_areTwo 3 = .ok (.invokevirtual 70, 3) := by decide +kernel
theorem dX12_areTwo_6 : decode cX12_areTwo 6 = .ok (.ifCond .eq 21, 3) := by decide +kernel
theorem dX12_areTwo_27 : decode cX12_areTwo 27 = .ok (.iconst 0, 1) := by decide +kernel
theorem dX12_areTwo_28 : decode cX12_areTwo 28 = .ok (.ireturn, 1) := by decide +kernel
theorem dX12_bag_0 : decode cX12_bag 0 = .ok (.aload_n 0, 1) := by decide +kernel
theorem dX12_bag_1 : decode cX12_bag 1 = .ok (.iload_n 1, 1) := by decide +kernel
theorem dX12_bag_2 : decode cX12_bag 2 = .ok (.iload_n 3, 1) := by decide +kernel
theorem dX12_bag_3 : decode cX12_bag 3 = .ok (.invokevirtual 70, 3) := by decide +kernel
theorem dX12_bag_6 : decode cX12_bag 6 = .ok (.ifCond .eq 13, 3) := by decide +kernel
theorem dX12_bag_19 : decode cX12_bag 19 = .ok (.bipush (-2), 2) := by decide +kernel
theorem dX12_bag_21 : decode cX12_bag 21 = .ok (.ireturn, 1) := by decide +kernel
theorem dX12_best_0 : decode cX12_best 0 = .ok (.aload_n 0, 1) := by decide +kernel
theorem dX12_best_1 : decode cX12_best 1 = .ok (.iload_n 1, 1) := by decide +kernel
theorem dX12_best_2 : decode cX12_best 2 = .ok (.iload_n 3, 1) := by decide +kernel
theorem dX12_best_3 : decode cX12_best 3 = .ok (.invokevirtual 70, 3) := by decide +kernel
theorem dX12_best_6 : decode cX12_best 6 = .ok (.ifCond .eq 10, 3) := by decide +kernel
theorem dX12_best_16 : decode cX12_best 16 = .ok (.bipush (-2), 2) := by decide +kernel
theorem dX12_best_18 : decode cX12_best 18 = .ok (.ireturn, 1) := by decide +kernel
theorem dX12_bound_0 : decode cX12_bound 0 = .ok (.aload_n 0, 1) := by decide +kernel
theorem dX12_bound_1 : decode cX12_bound 1 = .ok (.iload_n 1, 1) := by decide +kernel
theorem dX12_bound_2 : decode cX12_bound 2 = .ok (.invokevirtual 67, 3) := by decide +kernel
theorem dX12_bound_5 : decode cX12_bound 5 = .ok (.ifCond .eq 41, 3) := by decide +kernel
theorem dX12_bound_46 : decode cX12_bound 46 = .ok (.bipush (-2), 2) := by decide +kernel
theorem dX12_bound_48 : decode cX12_bound 48 = .ok (.ireturn, 1) := by decide +kernel
theorem dX12_count_0 : decode cX12_count 0 = .ok (.iconst 0, 1) := by decide +kernel
theorem dX12_count_1 : decode cX12_count 1 = .ok (.istore_n 2, 1) := by decide +kernel
theorem dX12_count_2 : decode cX12_count 2 = .ok (.iconst 0, 1) := by decide +kernel
theorem dX12_count_3 : decode cX12_count 3 = .ok (.istore_n 3, 1) := by decide +kernel
theorem dX12_count_4 : decode cX12_count 4 = .ok (.iload_n 3, 1) := by decide +kernel
theorem dX12_count_5 : decode cX12_count 5 = .ok (.iconst 3, 1) := by decide +kernel
theorem dX12_count_6 : decode cX12_count 6 = .ok (.if_icmp .ge 27, 3) := by decide +kernel
theorem dX12_count_9 : decode cX12_count 9 = .ok (.iload_n 2, 1) := by decide +kernel
theorem dX12_count_10 : decode cX12_count 10 = .ok (.aload_n 0, 1) := by decide +kernel
theorem dX12_count_11 : decode cX12_count 11 = .ok (.iload_n 3, 1) := by decide +kernel
theorem dX12_count_12 : decode cX12_count 12 = .ok (.invokevirtual 67, 3) := by decide +kernel
theorem dX12_count_15 : decode cX12_count 15 = .ok (.ifCond .eq 9, 3) := by decide +kernel
theorem dX12_count_24 : decode cX12_count 24 = .ok (.iconst 0, 1) := by decide +kernel
theorem dX12_count_25 : decode cX12_count 25 = .ok (.ior, 1) := by decide +kernel
theorem dX12_count_26 : decode cX12_count 26 = .ok (.istore_n 2, 1) := by decide +kernel
theorem dX12_count_27 : decode cX12_count 27 = .ok (.iinc 3 1, 3) := by decide +kernel
theorem dX12_count_30 : decode cX12_count 30 = .ok (.goto (-26), 3) := by decide +kernel
theorem dX12_count_33 : decode cX12_count 33 = .ok (.iload_n 1, 1) := by decide +kernel
theorem dX12_count_34 : decode cX12_count 34 = .ok (.tableswitch 47 0 3 #[30, 32, 37, 42], 30) := by decide +kernel
theorem dX12_count_64 : decode cX12_count 64 = .ok (.iload_n 2, 1) := by decide +kernel
theorem dX12_count_65 : decode cX12_count 65 = .ok (.ireturn, 1) := by decide +kernel
theorem dX12_count_66 : decode cX12_count 66 = .ok (.aload_n 0, 1) := by decide +kernel
theorem dX12_count_67 : decode cX12_count 67 = .ok (.getfield 87, 3) := by decide +kernel
theorem dX12_count_70 : decode cX12_count 70 = .ok (.ireturn, 1) := by decide +kernel
theorem dX12_count_71 : decode cX12_count 71 = .ok (.aload_n 0, 1) := by decide +kernel
theorem dX12_count_72 : decode cX12_count 72 = .ok (.getfield 100, 3) := by decide +kernel
theorem dX12_count_75 : decode cX12_count 75 = .ok (.ireturn, 1) := by decide +kernel
theorem dX12_count_76 : decode cX12_count 76 = .ok (.aload_n 0, 1) := by decide +kernel
theorem dX12_count_77 : decode cX12_count 77 = .ok (.getfield 193, 3) := by decide +kernel
theorem dX12_count_80 : decode cX12_count 80 = .ok (.ireturn, 1) := by decide +kernel
theorem dX12_count_81 : decode cX12_count 81 = .ok (.iconst (-1), 1) := by decide +kernel
theorem dX12_count_82 : decode cX12_count 82 = .ok (.ireturn, 1) := by decide +kernel
theorem dX12_cuts_0 : decode cX12_cuts 0 = .ok (.aload_n 0, 1) := by decide +kernel
theorem dX12_cuts_1 : decode cX12_cuts 1 = .ok (.iload_n 1, 1) := by decide +kernel
theorem dX12_cuts_2 : decode cX12_cuts 2 = .ok (.iload_n 2, 1) := by decide +kernel
theorem dX12_cuts_3 : decode cX12_cuts 3 = .ok (.iload_n 3, 1) := by decide +kernel
theorem dX12_cuts_4 : decode cX12_cuts 4 = .ok (.invokevirtual 326, 3) := by decide +kernel
theorem dX12_cuts_7 : decode cX12_cuts 7 = .ok (.ifCond .ne 6, 3) := by decide +kernel
theorem dX12_cuts_10 : decode cX12_cuts 10 = .ok (.bipush (-2), 2) := by decide +kernel
theorem dX12_cuts_12 : decode cX12_cuts 12 = .ok (.ireturn, 1) := by decide +kernel
theorem dX12_drops_0 : decode cX12_drops 0 = .ok (.iload_n 1, 1) := by decide +kernel
theorem dX12_drops_1 : decode cX12_drops 1 = .ok (.invokestatic 59, 3) := by decide +kernel
theorem dX12_drops_4 : decode cX12_drops 4 = .ok (.ifCond .ne 6, 3) := by decide +kernel
theorem dX12_drops_7 : decode cX12_drops 7 = .ok (.bipush (-2), 2) := by decide +kernel
theorem dX12_drops_9 : decode cX12_drops 9 = .ok (.ireturn, 1) := by decide +kernel
theorem dX12_drops_10 : decode cX12_drops 10 = .ok (.aload_n 0, 1) := by decide +kernel
theorem dX12_drops_11 : decode cX12_drops 11 = .ok (.iload_n 1, 1) := by decide +kernel
theorem dX12_drops_12 : decode cX12_drops 12 = .ok (.invokevirtual 67, 3) := by decide +kernel
theorem dX12_drops_15 : decode cX12_drops 15 = .ok (.ifCond .ne 5, 3) := by decide +kernel
theorem dX12_drops_18 : decode cX12_drops 18 = .ok (.iconst 0, 1) := by decide +kernel
theorem dX12_drops_19 : decode cX12_drops 19 = .ok (.ireturn, 1) := by decide +kernel
theorem dX12_empties_0 : decode cX12_empties 0 = .ok (.iconst 0, 1) := by decide +kernel
theorem dX12_empties_1 : decode cX12_empties 1 = .ok (.istore_n 2, 1) := by decide +kernel
theorem dX12_empties_2 : decode cX12_empties 2 = .ok (.iload_n 2, 1) := by decide +kernel
theorem dX12_empties_3 : decode cX12_empties 3 = .ok (.bipush 91, 2) := by decide +kernel
theorem dX12_empties_5 : decode cX12_empties 5 = .ok (.if_icmp .ge 21, 3) := by decide +kernel
theorem dX12_empties_8 : decode cX12_empties 8 = .ok (.aload_n 0, 1) := by decide +kernel
theorem dX12_empties_9 : decode cX12_empties 9 = .ok (.getfield 7, 3) := by decide +kernel
theorem dX12_empties_12 : decode cX12_empties 12 = .ok (.bipush 91, 2) := by decide +kernel
theorem dX12_empties_14 : decode cX12_empties 14 = .ok (.iload_n 1, 1) := by decide +kernel
theorem dX12_empties_15 : decode cX12_empties 15 = .ok (.imul, 1) := by decide +kernel
theorem dX12_empties_16 : decode cX12_empties 16 = .ok (.iload_n 2, 1) := by decide +kernel
theorem dX12_empties_17 : decode cX12_empties 17 = .ok (.iadd, 1) := by decide +kernel
theorem dX12_empties_18 : decode cX12_empties 18 = .ok (.iconst 0, 1) := by decide +kernel
theorem dX12_empties_19 : decode cX12_empties 19 = .ok (.iastore, 1) := by decide +kernel
theorem dX12_empties_20 : decode cX12_empties 20 = .ok (.iinc 2 1, 3) := by decide +kernel
theorem dX12_empties_23 : decode cX12_empties 23 = .ok (.goto (-21), 3) := by decide +kernel
theorem dX12_empties_26 : decode cX12_empties 26 = .ok (.return_, 1) := by decide +kernel
theorem dX12_end_0 : decode cX12_end 0 = .ok (.iload_n 1, 1) := by decide +kernel
theorem dX12_end_1 : decode cX12_end 1 = .ok (.i2l, 1) := by decide +kernel
theorem dX12_end_2 : decode cX12_end 2 = .ok (.lconst 0, 1) := by decide +kernel
theorem dX12_end_3 : decode cX12_end 3 = .ok (.aload_n 0, 1) := by decide +kernel
theorem dX12_end_4 : decode cX12_end 4 = .ok (.getfield 100, 3) := by decide +kernel
theorem dX12_end_7 : decode cX12_end 7 = .ok (.i2l, 1) := by decide +kernel
theorem dX12_end_8 : decode cX12_end 8 = .ok (.invokestatic 55, 3) := by decide +kernel
theorem dX12_end_11 : decode cX12_end 11 = .ok (.ifCond .ne 5, 3) := by decide +kernel
theorem dX12_end_14 : decode cX12_end 14 = .ok (.iconst (-1), 1) := by decide +kernel
theorem dX12_end_15 : decode cX12_end 15 = .ok (.ireturn, 1) := by decide +kernel
theorem dX12_end_16 : decode cX12_end 16 = .ok (.aload_n 0, 1) := by decide +kernel
theorem dX12_end_17 : decode cX12_end 17 = .ok (.iload_n 1, 1) := by decide +kernel
theorem dX12_end_18 : decode cX12_end 18 = .ok (.putfield 100, 3) := by decide +kernel
theorem dX12_end_21 : decode cX12_end 21 = .ok (.iload_n 1, 1) := by decide +kernel
theorem dX12_end_22 : decode cX12_end 22 = .ok (.ireturn, 1) := by decide +kernel
theorem dX12_far_0 : decode cX12_far 0 = .ok (.aload_n 0, 1) := by decide +kernel
theorem dX12_far_1 : decode cX12_far 1 = .ok (.iload_n 1, 1) := by decide +kernel
theorem dX12_far_2 : decode cX12_far 2 = .ok (.iload_n 2, 1) := by decide +kernel
theorem dX12_far_3 : decode cX12_far 3 = .ok (.invokevirtual 70, 3) := by decide +kernel
theorem dX12_far_6 : decode cX12_far 6 = .ok (.ifCond .eq 22, 3) := by decide +kernel
theorem dX12_far_28 : decode cX12_far 28 = .ok (.bipush (-2), 2) := by decide +kernel
theorem dX12_far_30 : decode cX12_far 30 = .ok (.ireturn, 1) := by decide +kernel
theorem dX12_fault_0 : decode cX12_fault 0 = .ok (.iload_n 1, 1) := by decide +kernel
theorem dX12_fault_1 : decode cX12_fault 1 = .ok (.ifCond .ne 10, 3) := by decide +kernel
theorem dX12_fault_4 : decode cX12_fault 4 = .ok (.aload_n 0, 1) := by decide +kernel
theorem dX12_fault_5 : decode cX12_fault 5 = .ok (.getfield 127, 3) := by decide +kernel
theorem dX12_fault_8 : decode cX12_fault 8 = .ok (.goto 16, 3) := by decide +kernel
theorem dX12_fault_11 : decode cX12_fault 11 = .ok (.iload_n 1, 1) := by decide +kernel
theorem dX12_fault_12 : decode cX12_fault 12 = .ok (.iconst 1, 1) := by decide +kernel
theorem dX12_fault_13 : decode cX12_fault 13 = .ok (.if_icmp .ne 10, 3) := by decide +kernel
theorem dX12_fault_16 : decode cX12_fault 16 = .ok (.aload_n 0, 1) := by decide +kernel
theorem dX12_fault_17 : decode cX12_fault 17 = .ok (.getfield 22, 3) := by decide +kernel
theorem dX12_fault_20 : decode cX12_fault 20 = .ok (.goto 4, 3) := by decide +kernel
theorem dX12_fault_23 : decode cX12_fault 23 = .ok (.iconst (-1), 1) := by decide +kernel
theorem dX12_fault_24 : decode cX12_fault 24 = .ok (.ireturn, 1) := by decide +kernel
theorem dX12_faults_0 : decode cX12_faults 0 = .ok (.aload_n 0, 1) := by decide +kernel
theorem dX12_faults_1 : decode cX12_faults 1 = .ok (.getfield 123, 3) := by decide +kernel
theorem dX12_faults_4 : decode cX12_faults 4 = .ok (.ifCond .ne 21, 3) := by decide +kernel
theorem dX12_faults_7 : decode cX12_faults 7 = .ok (.aload_n 0, 1) := by decide +kernel
theorem dX12_faults_8 : decode cX12_faults 8 = .ok (.iconst 1, 1) := by decide +kernel
theorem dX12_faults_9 : decode cX12_faults 9 = .ok (.putfield 123, 3) := by decide +kernel
theorem dX12_faults_12 : decode cX12_faults 12 = .ok (.aload_n 0, 1) := by decide +kernel
theorem dX12_faults_13 : decode cX12_faults 13 = .ok (.iload_n 1, 1) := by decide +kernel
theorem dX12_faults_14 : decode cX12_faults 14 = .ok (.putfield 127, 3) := by decide +kernel
theorem dX12_faults_17 : decode cX12_faults 17 = .ok (.aload_n 0, 1) := by decide +kernel
theorem dX12_faults_18 : decode cX12_faults 18 = .ok (.aload_n 0, 1) := by decide +kernel
theorem dX12_faults_19 : decode cX12_faults 19 = .ok (.getfield 109, 3) := by decide +kernel
theorem dX12_faults_22 : decode cX12_faults 22 = .ok (.putfield 22, 3) := by decide +kernel
theorem dX12_faults_25 : decode cX12_faults 25 = .ok (.return_, 1) := by decide +kernel
theorem dX12_feed_0 : decode cX12_feed 0 = .ok (.aload_n 0, 1) := by decide +kernel
theorem dX12_feed_1 : decode cX12_feed 1 = .ok (.getfield 100, 3) := by decide +kernel
theorem dX12_feed_4 : decode cX12_feed 4 = .ok (.sipush 380, 3) := by decide +kernel
theorem dX12_feed_7 : decode cX12_feed 7 = .ok (.if_icmp .le 5, 3) := by decide +kernel
theorem dX12_feed_12 : decode cX12_feed 12 = .ok (.iconst 5, 1) := by decide +kernel
theorem dX12_feed_13 : decode cX12_feed 13 = .ok (.newarray .int, 2) := by decide +kernel
theorem dX12_feed_15 : decode cX12_feed 15 = .ok (.dup, 1) := by decide +kernel
theorem dX12_feed_16 : decode cX12_feed 16 = .ok (.iconst 0, 1) := by decide +kernel
theorem dX12_feed_17 : decode cX12_feed 17 = .ok (.iload_n 1, 1) := by decide +kernel
theorem dX12_feed_18 : decode cX12_feed 18 = .ok (.iastore, 1) := by decide +kernel
theorem dX12_feed_19 : decode cX12_feed 19 = .ok (.dup, 1) := by decide +kernel
theorem dX12_feed_20 : decode cX12_feed 20 = .ok (.iconst 1, 1) := by decide +kernel
theorem dX12_feed_21 : decode cX12_feed 21 = .ok (.iload_n 2, 1) := by decide +kernel
theorem dX12_feed_22 : decode cX12_feed 22 = .ok (.iastore, 1) := by decide +kernel
theorem dX12_feed_23 : decode cX12_feed 23 = .ok (.dup, 1) := by decide +kernel
theorem dX12_feed_24 : decode cX12_feed 24 = .ok (.iconst 2, 1) := by decide +kernel
theorem dX12_feed_25 : decode cX12_feed 25 = .ok (.iload_n 3, 1) := by decide +kernel
theorem dX12_feed_26 : decode cX12_feed 26 = .ok (.iastore, 1) := by decide +kernel
theorem dX12_feed_27 : decode cX12_feed 27 = .ok (.dup, 1) := by decide +kernel
theorem dX12_feed_28 : decode cX12_feed 28 = .ok (.iconst 3, 1) := by decide +kernel
theorem dX12_feed_29 : decode cX12_feed 29 = .ok (.iload 4, 2) := by decide +kernel
theorem dX12_feed_31 : decode cX12_feed 31 = .ok (.iastore, 1) := by decide +kernel
theorem dX12_feed_32 : decode cX12_feed 32 = .ok (.dup, 1) := by decide +kernel
theorem dX12_feed_33 : decode cX12_feed 33 = .ok (.iconst 4, 1) := by decide +kernel
theorem dX12_feed_34 : decode cX12_feed 34 = .ok (.iload 5, 2) := by decide +kernel
theorem dX12_feed_36 : decode cX12_feed 36 = .ok (.iastore, 1) := by decide +kernel
theorem dX12_feed_37 : decode cX12_feed 37 = .ok (.astore 6, 2) := by decide +kernel
theorem dX12_feed_39 : decode cX12_feed 39 = .ok (.iconst 0, 1) := by decide +kernel
theorem dX12_feed_40 : decode cX12_feed 40 = .ok (.istore 7, 2) := by decide +kernel
theorem dX12_feed_42 : decode cX12_feed 42 = .ok (.iload 7, 2) := by decide +kernel
theorem dX12_feed_44 : decode cX12_feed 44 = .ok (.bipush 20, 2) := by decide +kernel
theorem dX12_feed_46 : decode cX12_feed 46 = .ok (.if_icmp .ge 43, 3) := by decide +kernel
theorem dX12_feed_49 : decode cX12_feed 49 = .ok (.aload_n 0, 1) := by decide +kernel
theorem dX12_feed_50 : decode cX12_feed 50 = .ok (.getfield 19, 3) := by decide +kernel
theorem dX12_feed_53 : decode cX12_feed 53 = .ok (.aload_n 0, 1) := by decide +kernel
theorem dX12_feed_54 : decode cX12_feed 54 = .ok (.getfield 100, 3) := by decide +kernel
theorem dX12_feed_57 : decode cX12_feed 57 = .ok (.iload 7, 2) := by decide +kernel
theorem dX12_feed_59 : decode cX12_feed 59 = .ok (.iadd, 1) := by decide +kernel
theorem dX12_feed_60 : decode cX12_feed 60 = .ok (.aload 6, 2) := by decide +kernel
theorem dX12_feed_62 : decode cX12_feed 62 = .ok (.iload 7, 2) := by decide +kernel
theorem dX12_feed_64 : decode cX12_feed 64 = .ok (.iconst 4, 1) := by decide +kernel
theorem dX12_feed_65 : decode cX12_feed 65 = .ok (.idiv, 1) := by decide +kernel
theorem dX12_feed_66 : decode cX12_feed 66 = .ok (.iaload, 1) := by decide +kernel
theorem dX12_feed_67 : decode cX12_feed 67 = .ok (.bipush 24, 2) := by decide +kernel
theorem dX12_feed_69 : decode cX12_feed 69 = .ok (.bipush 8, 2) := by decide +kernel
theorem dX12_feed_71 : decode cX12_feed 71 = .ok (.iload 7, 2) := by decide +kernel
theorem dX12_feed_73 : decode cX12_feed 73 = .ok (.iconst 4, 1) := by decide +kernel
theorem dX12_feed_74 : decode cX12_feed 74 = .ok (.irem, 1) := by decide +kernel
theorem dX12_feed_75 : decode cX12_feed 75 = .ok (.imul, 1) := by decide +kernel
theorem dX12_feed_76 : decode cX12_feed 76 = .ok (.isub, 1) := by decide +kernel
theorem dX12_feed_77 : decode cX12_feed 77 = .ok (.iushr, 1) := by decide +kernel
theorem dX12_feed_78 : decode cX12_feed 78 = .ok (.sipush 255, 3) := by decide +kernel
theorem dX12_feed_81 : decode cX12_feed 81 = .ok (.iand, 1) := by decide +kernel
theorem dX12_feed_82 : decode cX12_feed 82 = .ok (.iastore, 1) := by decide +kernel
theorem dX12_feed_83 : decode cX12_feed 83 = .ok (.iinc 7 1, 3) := by decide +kernel
theorem dX12_feed_86 : decode cX12_feed 86 = .ok (.goto (-44), 3) := by decide +kernel
theorem dX12_feed_89 : decode cX12_feed 89 = .ok (.aload_n 0, 1) := by decide +kernel
theorem dX12_feed_90 : decode cX12_feed 90 = .ok (.dup, 1) := by decide +kernel
theorem dX12_feed_91 : decode cX12_feed 91 = .ok (.getfield 100, 3) := by decide +kernel
theorem dX12_feed_94 : decode cX12_feed 94 = .ok (.bipush 20, 2) := by decide +kernel
theorem dX12_feed_96 : decode cX12_feed 96 = .ok (.iadd, 1) := by decide +kernel
theorem dX12_feed_97 : decode cX12_feed 97 = .ok (.putfield 100, 3) := by decide +kernel
theorem dX12_feed_100 : decode cX12_feed 100 = .ok (.aload_n 0, 1) := by decide +kernel
theorem dX12_feed_101 : decode cX12_feed 101 = .ok (.getfield 100, 3) := by decide +kernel
theorem dX12_feed_104 : decode cX12_feed 104 = .ok (.ireturn, 1) := by decide +kernel
theorem dX12_filled_0 : decode cX12_filled 0 = .ok (.aload_n 0, 1) := by decide +kernel
theorem dX12_filled_1 : decode cX12_filled 1 = .ok (.iload_n 1, 1) := by decide +kernel
theorem dX12_filled_2 : decode cX12_filled 2 = .ok (.invokevirtual 67, 3) := by decide +kernel
theorem dX12_filled_5 : decode cX12_filled 5 = .ok (.ifCond .eq 8, 3) := by decide +kernel
theorem dX12_filled_13 : decode cX12_filled 13 = .ok (.bipush (-2), 2) := by decide +kernel
theorem dX12_filled_15 : decode cX12_filled 15 = .ok (.ireturn, 1) := by decide +kernel
theorem dX12_firsts_0 : decode cX12_firsts 0 = .ok (.aload_n 0, 1) := by decide +kernel
theorem dX12_firsts_1 : decode cX12_firsts 1 = .ok (.iload_n 1, 1) := by decide +kernel
theorem dX12_firsts_2 : decode cX12_firsts 2 = .ok (.invokevirtual 67, 3) := by decide +kernel
theorem dX12_firsts_5 : decode cX12_firsts 5 = .ok (.ifCond .eq 10, 3) := by decide +kernel
theorem dX12_firsts_15 : decode cX12_firsts 15 = .ok (.bipush (-2), 2) := by decide +kernel
theorem dX12_firsts_17 : decode cX12_firsts 17 = .ok (.ireturn, 1) := by decide +kernel
theorem dX12_gain_0 : decode cX12_gain 0 = .ok (.aload_n 0, 1) := by decide +kernel
theorem dX12_gain_1 : decode cX12_gain 1 = .ok (.iload_n 1, 1) := by decide +kernel
theorem dX12_gain_2 : decode cX12_gain 2 = .ok (.iload_n 3, 1) := by decide +kernel
theorem dX12_gain_3 : decode cX12_gain 3 = .ok (.invokevirtual 70, 3) := by decide +kernel
theorem dX12_gain_6 : decode cX12_gain 6 = .ok (.ifCond .eq 20, 3) := by decide +kernel
theorem dX12_gain_26 : decode cX12_gain 26 = .ok (.sipush (-1000), 3) := by decide +kernel
theorem dX12_gain_29 : decode cX12_gain 29 = .ok (.ireturn, 1) := by decide +kernel
theorem dX12_greedy_0 : decode cX12_greedy 0 = .ok (.aload_n 0, 1) := by decide +kernel
theorem dX12_greedy_1 : decode cX12_greedy 1 = .ok (.iload_n 1, 1) := by decide +kernel
theorem dX12_greedy_2 : decode cX12_greedy 2 = .ok (.invokevirtual 67, 3) := by decide +kernel
theorem dX12_greedy_5 : decode cX12_greedy 5 = .ok (.ifCond .eq 15, 3) := by decide +kernel
theorem dX12_greedy_20 : decode cX12_greedy 20 = .ok (.bipush (-2), 2) := by decide +kernel
theorem dX12_greedy_22 : decode cX12_greedy 22 = .ok (.ireturn, 1) := by decide +kernel
theorem dX12_halve_0 : decode cX12_halve 0 = .ok (.aload_n 0, 1) := by decide +kernel
theorem dX12_halve_1 : decode cX12_halve 1 = .ok (.iload_n 1, 1) := by decide +kernel
theorem dX12_halve_2 : decode cX12_halve 2 = .ok (.invokevirtual 67, 3) := by decide +kernel
theorem dX12_halve_5 : decode cX12_halve 5 = .ok (.ifCond .ne 6, 3) := by decide +kernel
theorem dX12_halve_8 : decode cX12_halve 8 = .ok (.bipush (-2), 2) := by decide +kernel
theorem dX12_halve_10 : decode cX12_halve 10 = .ok (.ireturn, 1) := by decide +kernel
theorem dX12_here_0 : decode cX12_here 0 = .ok (.aload_n 0, 1) := by decide +kernel
theorem dX12_here_1 : decode cX12_here 1 = .ok (.getfield 123, 3) := by decide +kernel
theorem dX12_here_4 : decode cX12_here 4 = .ok (.ifCond .eq 5, 3) := by decide +kernel
theorem dX12_here_7 : decode cX12_here 7 = .ok (.iload_n 1, 1) := by decide +kernel
theorem dX12_here_8 : decode cX12_here 8 = .ok (.ireturn, 1) := by decide +kernel
theorem dX12_in_0 : decode cX12_in 0 = .ok (.lload_n 0, 1) := by decide +kernel
theorem dX12_in_1 : decode cX12_in 1 = .ok (.lload_n 2, 1) := by decide +kernel
theorem dX12_in_2 : decode cX12_in 2 = .ok (.lcmp, 1) := by decide +kernel
theorem dX12_in_3 : decode cX12_in 3 = .ok (.ifCond .lt 14, 3) := by decide +kernel
theorem dX12_in_6 : decode cX12_in 6 = .ok (.lload_n 0, 1) := by decide +kernel
theorem dX12_in_7 : decode cX12_in 7 = .ok (.lload 4, 2) := by decide +kernel
theorem dX12_in_9 : decode cX12_in 9 = .ok (.lcmp, 1) := by decide +kernel
theorem dX12_in_10 : decode cX12_in 10 = .ok (.ifCond .gt 7, 3) := by decide +kernel
theorem dX12_in_13 : decode cX12_in 13 = .ok (.iconst 1, 1) := by decide +kernel
theorem dX12_in_14 : decode cX12_in 14 = .ok (.goto 4, 3) := by decide +kernel
theorem dX12_in_17 : decode cX12_in 17 = .ok (.iconst 0, 1) := by decide +kernel
theorem dX12_in_18 : decode cX12_in 18 = .ok (.ireturn, 1) := by decide +kernel
theorem dX12_init_0 : decode cX12_init 0 = .ok (.aload_n 0, 1) := by decide +kernel
theorem dX12_init_1 : decode cX12_init 1 = .ok (.invokespecial 1, 3) := by decide +kernel
theorem dX12_init_4 : decode cX12_init 4 = .ok (.aload_n 0, 1) := by decide +kernel
theorem dX12_init_5 : decode cX12_init 5 = .ok (.sipush 273, 3) := by decide +kernel
theorem dX12_init_8 : decode cX12_init 8 = .ok (.newarray .int, 2) := by decide +kernel
theorem dX12_init_10 : decode cX12_init 10 = .ok (.putfield 7, 3) := by decide +kernel
theorem dX12_init_13 : decode cX12_init 13 = .ok (.aload_n 0, 1) := by decide +kernel
theorem dX12_init_14 : decode cX12_init 14 = .ok (.sipush 273, 3) := by decide +kernel
theorem dX12_init_17 : decode cX12_init 17 = .ok (.newarray .int, 2) := by decide +kernel
theorem dX12_init_19 : decode cX12_init 19 = .ok (.putfield 13, 3) := by decide +kernel
theorem dX12_init_22 : decode cX12_init 22 = .ok (.aload_n 0, 1) := by decide +kernel
theorem dX12_init_23 : decode cX12_init 23 = .ok (.sipush 2730, 3) := by decide +kernel
theorem dX12_init_26 : decode cX12_init 26 = .ok (.newarray .int, 2) := by decide +kernel
theorem dX12_init_28 : decode cX12_init 28 = .ok (.putfield 16, 3) := by decide +kernel
theorem dX12_init_31 : decode cX12_init 31 = .ok (.aload_n 0, 1) := by decide +kernel
theorem dX12_init_32 : decode cX12_init 32 = .ok (.sipush 400, 3) := by decide +kernel
theorem dX12_init_35 : decode cX12_init 35 = .ok (.newarray .int, 2) := by decide +kernel
theorem dX12_init_37 : decode cX12_init 37 = .ok (.putfield 19, 3) := by decide +kernel
theorem dX12_init_40 : decode cX12_init 40 = .ok (.aload_n 0, 1) := by decide +kernel
theorem dX12_init_41 : decode cX12_init 41 = .ok (.iconst (-1), 1) := by decide +kernel
theorem dX12_init_42 : decode cX12_init 42 = .ok (.putfield 22, 3) := by decide +kernel
theorem dX12_init_45 : decode cX12_init 45 = .ok (.aload_n 0, 1) := by decide +kernel
theorem dX12_init_46 : decode cX12_init 46 = .ok (.bipush 9, 2) := by decide +kernel
theorem dX12_init_48 : decode cX12_init 48 = .ok (.newarray .int, 2) := by decide +kernel
theorem dX12_init_50 : decode cX12_init 50 = .ok (.putfield 26, 3) := by decide +kernel
theorem dX12_init_53 : decode cX12_init 53 = .ok (.aload_n 0, 1) := by decide +kernel
theorem dX12_init_54 : decode cX12_init 54 = .ok (.sipush 512, 3) := by decide +kernel
theorem dX12_init_57 : decode cX12_init 57 = .ok (.newarray .int, 2) := by decide +kernel
theorem dX12_init_59 : decode cX12_init 59 = .ok (.putfield 29, 3) := by decide +kernel
theorem dX12_init_62 : decode cX12_init 62 = .ok (.aload_n 0, 1) := by decide +kernel
theorem dX12_init_63 : decode cX12_init 63 = .ok (.sipush 512, 3) := by decide +kernel
theorem dX12_init_66 : decode cX12_init 66 = .ok (.newarray .int, 2) := by decide +kernel
theorem dX12_init_68 : decode cX12_init 68 = .ok (.putfield 32, 3) := by decide +kernel
theorem dX12_init_71 : decode cX12_init 71 = .ok (.aload_n 0, 1) := by decide +kernel
theorem dX12_init_72 : decode cX12_init 72 = .ok (.sipush 4608, 3) := by decide +kernel
theorem dX12_init_75 : decode cX12_init 75 = .ok (.newarray .int, 2) := by decide +kernel
theorem dX12_init_77 : decode cX12_init 77 = .ok (.putfield 35, 3) := by decide +kernel
theorem dX12_init_80 : decode cX12_init 80 = .ok (.aload_n 0, 1) := by decide +kernel
theorem dX12_init_81 : decode cX12_init 81 = .ok (.bipush 9, 2) := by decide +kernel
theorem dX12_init_83 : decode cX12_init 83 = .ok (.newarray .int, 2) := by decide +kernel
theorem dX12_init_85 : decode cX12_init 85 = .ok (.putfield 38, 3) := by decide +kernel
theorem dX12_init_88 : decode cX12_init 88 = .ok (.aload_n 0, 1) := by decide +kernel
theorem dX12_init_89 : decode cX12_init 89 = .ok (.bipush 9, 2) := by decide +kernel
theorem dX12_init_91 : decode cX12_init 91 = .ok (.newarray .int, 2) := by decide +kernel
theorem dX12_init_93 : decode cX12_init 93 = .ok (.putfield 41, 3) := by decide +kernel
theorem dX12_init_96 : decode cX12_init 96 = .ok (.aload_n 0, 1) := by decide +kernel
theorem dX12_init_97 : decode cX12_init 97 = .ok (.bipush 9, 2) := by decide +kernel
theorem dX12_init_99 : decode cX12_init 99 = .ok (.newarray .int, 2) := by decide +kernel
theorem dX12_init_101 : decode cX12_init 101 = .ok (.putfield 44, 3) := by decide +kernel
theorem dX12_init_104 : decode cX12_init 104 = .ok (.aload_n 0, 1) := by decide +kernel
theorem dX12_init_105 : decode cX12_init 105 = .ok (.bipush 81, 2) := by decide +kernel
theorem dX12_init_107 : decode cX12_init 107 = .ok (.newarray .int, 2) := by decide +kernel
theorem dX12_init_109 : decode cX12_init 109 = .ok (.putfield 47, 3) := by decide +kernel
theorem dX12_init_112 : decode cX12_init 112 = .ok (.aload_n 0, 1) := by decide +kernel
theorem dX12_init_113 : decode cX12_init 113 = .ok (.sipush 400, 3) := by decide +kernel
theorem dX12_init_116 : decode cX12_init 116 = .ok (.newarray .int, 2) := by decide +kernel
theorem dX12_init_118 : decode cX12_init 118 = .ok (.putfield 50, 3) := by decide +kernel
theorem dX12_init_121 : decode cX12_init 121 = .ok (.return_, 1) := by decide +kernel
theorem dX12_isAt_0 : decode cX12_isAt 0 = .ok (.aload_n 0, 1) := by decide +kernel
theorem dX12_isAt_1 : decode cX12_isAt 1 = .ok (.getfield 103, 3) := by decide +kernel
theorem dX12_isAt_4 : decode cX12_isAt 4 = .ok (.aload_n 0, 1) := by decide +kernel
theorem dX12_isAt_5 : decode cX12_isAt 5 = .ok (.getfield 100, 3) := by decide +kernel
theorem dX12_isAt_8 : decode cX12_isAt 8 = .ok (.if_icmp .ge 27, 3) := by decide +kernel
theorem dX12_isAt_35 : decode cX12_isAt 35 = .ok (.iconst 0, 1) := by decide +kernel
theorem dX12_isAt_36 : decode cX12_isAt 36 = .ok (.ireturn, 1) := by decide +kernel
theorem dX12_isNet_0 : decode cX12_isNet 0 = .ok (.iload_n 1, 1) := by decide +kernel
theorem dX12_isNet_1 : decode cX12_isNet 1 = .ok (.invokestatic 59, 3) := by decide +kernel
theorem dX12_isNet_4 : decode cX12_isNet 4 = .ok (.ifCond .eq 15, 3) := by decide +kernel
theorem dX12_isNet_7 : decode cX12_isNet 7 = .ok (.aload_n 0, 1) := by decide +kernel
theorem dX12_isNet_8 : decode cX12_isNet 8 = .ok (.iload_n 1, 1) := by decide +kernel
theorem dX12_isNet_9 : decode cX12_isNet 9 = .ok (.invokevirtual 63, 3) := by decide +kernel
theorem dX12_isNet_12 : decode cX12_isNet 12 = .ok (.ifCond .le 7, 3) := by decide +kernel
theorem dX12_isNet_19 : decode cX12_isNet 19 = .ok (.iconst 0, 1) := by decide +kernel
theorem dX12_isNet_20 : decode cX12_isNet 20 = .ok (.ireturn, 1) := by decide +kernel
theorem dX12_isPoint_0 : decode cX12_isPoint 0 = .ok (.aload_n 0, 1) := by decide +kernel
theorem dX12_isPoint_1 : decode cX12_isPoint 1 = .ok (.iload_n 1, 1) := by decide +kernel
theorem dX12_isPoint_2 : decode cX12_isPoint 2 = .ok (.invokevirtual 67, 3) := by decide +kernel
theorem dX12_isPoint_5 : decode cX12_isPoint 5 = .ok (.ifCond .eq 24, 3) := by decide +kernel
theorem dX12_isPoint_29 : decode cX12_isPoint 29 = .ok (.iconst 0, 1) := by decide +kernel
theorem dX12_isPoint_30 : decode cX12_isPoint 30 = .ok (.ireturn, 1) := by decide +kernel
theorem dX12_isSign_0 : decode cX12_isSign 0 = .ok (.aload_n 0, 1) := by decide +kernel
theorem dX12_isSign_1 : decode cX12_isSign 1 = .ok (.getfield 123, 3) := by decide +kernel
theorem dX12_isSign_4 : decode cX12_isSign 4 = .ok (.ifCond .ne 28, 3) := by decide +kernel
theorem dX12_isSign_32 : decode cX12_isSign 32 = .ok (.iconst 0, 1) := by decide +kernel
theorem dX12_isSign_33 : decode cX12_isSign 33 = .ok (.ireturn, 1) := by decide +kernel
theorem dX12_isSlot_0 : decode cX12_isSlot 0 = .ok (.iload_n 0, 1) := by decide +kernel
theorem dX12_isSlot_1 : decode cX12_isSlot 1 = .ok (.i2l, 1) := by decide +kernel
theorem dX12_isSlot_2 : decode cX12_isSlot 2 = .ok (.lconst 0, 1) := by decide +kernel
theorem dX12_isSlot_3 : decode cX12_isSlot 3 = .ok (.ldc2_w 53, 3) := by decide +kernel
theorem dX12_isSlot_6 : decode cX12_isSlot 6 = .ok (.invokestatic 55, 3) := by decide +kernel
theorem dX12_isSlot_9 : decode cX12_isSlot 9 = .ok (.ireturn, 1) := by decide +kernel
theorem dX12_isWord_0 : decode cX12_isWord 0 = .ok (.aload_n 0, 1) := by decide +kernel
theorem dX12_isWord_1 : decode cX12_isWord 1 = .ok (.getfield 123, 3) := by decide +kernel
theorem dX12_isWord_4 : decode cX12_isWord 4 = .ok (.ifCond .ne 31, 3) := by decide +kernel
theorem dX12_isWord_7 : decode cX12_isWord 7 = .ok (.aload_n 0, 1) := by decide +kernel
theorem dX12_isWord_8 : decode cX12_isWord 8 = .ok (.getfield 115, 3) := by decide +kernel
theorem dX12_isWord_11 : decode cX12_isWord 11 = .ok (.iconst 1, 1) := by decide +kernel
theorem dX12_isWord_12 : decode cX12_isWord 12 = .ok (.if_icmp .ne 23, 3) := by decide +kernel
theorem dX12_isWord_35 : decode cX12_isWord 35 = .ok (.iconst 0, 1) := by decide +kernel
theorem dX12_isWord_36 : decode cX12_isWord 36 = .ok (.istore_n 2, 1) := by decide +kernel
theorem dX12_isWord_37 : decode cX12_isWord 37 = .ok (.iconst 0, 1) := by decide +kernel
theorem dX12_isWord_38 : decode cX12_isWord 38 = .ok (.istore_n 3, 1) := by decide +kernel
theorem dX12_isWord_39 : decode cX12_isWord 39 = .ok (.iload_n 3, 1) := by decide +kernel
theorem dX12_isWord_40 : decode cX12_isWord 40 = .ok (.aload_n 1, 1) := by decide +kernel
theorem dX12_isWord_41 : decode cX12_isWord 41 = .ok (.invokevirtual 133, 3) := by decide +kernel
theorem dX12_isWord_44 : decode cX12_isWord 44 = .ok (.if_icmp .ge 38, 3) := by decide +kernel
theorem dX12_isWord_47 : decode cX12_isWord 47 = .ok (.iload_n 2, 1) := by decide +kernel
theorem dX12_isWord_48 : decode cX12_isWord 48 = .ok (.ifCond .eq 34, 3) := by decide +kernel
theorem dX12_isWord_82 : decode cX12_isWord 82 = .ok (.iload_n 2, 1) := by decide +kernel
theorem dX12_isWord_83 : decode cX12_isWord 83 = .ok (.ireturn, 1) := by decide +kernel
theorem dX12_layers_0 : decode cX12_layers 0 = .ok (.aload_n 0, 1) := by decide +kernel
theorem dX12_layers_1 : decode cX12_layers 1 = .ok (.iload_n 1, 1) := by decide +kernel
theorem dX12_layers_2 : decode cX12_layers 2 = .ok (.iload_n 2, 1) := by decide +kernel
theorem dX12_layers_3 : decode cX12_layers 3 = .ok (.invokevirtual 70, 3) := by decide +kernel
theorem dX12_layers_6 : decode cX12_layers 6 = .ok (.ifCond .ne 6, 3) := by decide +kernel
theorem dX12_layers_9 : decode cX12_layers 9 = .ok (.bipush (-2), 2) := by decide +kernel
theorem dX12_layers_11 : decode cX12_layers 11 = .ok (.ireturn, 1) := by decide +kernel
theorem dX12_least_0 : decode cX12_least 0 = .ok (.aload_n 0, 1) := by decide +kernel
theorem dX12_least_1 : decode cX12_least 1 = .ok (.iload_n 1, 1) := by decide +kernel
theorem dX12_least_2 : decode cX12_least 2 = .ok (.invokevirtual 67, 3) := by decide +kernel
theorem dX12_least_5 : decode cX12_least 5 = .ok (.ifCond .eq 10, 3) := by decide +kernel
theorem dX12_least_15 : decode cX12_least 15 = .ok (.bipush (-2), 2) := by decide +kernel
theorem dX12_least_17 : decode cX12_least 17 = .ok (.ireturn, 1) := by decide +kernel
theorem dX12_line_0 : decode cX12_line 0 = .ok (.aload_n 0, 1) := by decide +kernel
theorem dX12_line_1 : decode cX12_line 1 = .ok (.iload_n 1, 1) := by decide +kernel
theorem dX12_line_2 : decode cX12_line 2 = .ok (.iload_n 2, 1) := by decide +kernel
theorem dX12_line_3 : decode cX12_line 3 = .ok (.invokevirtual 70, 3) := by decide +kernel
theorem dX12_line_6 : decode cX12_line 6 = .ok (.ifCond .eq 22, 3) := by decide +kernel
theorem dX12_line_28 : decode cX12_line 28 = .ok (.bipush (-2), 2) := by decide +kernel
theorem dX12_line_30 : decode cX12_line 30 = .ok (.ireturn, 1) := by decide +kernel
theorem dX12_longest_0 : decode cX12_longest 0 = .ok (.aload_n 0, 1) := by decide +kernel
theorem dX12_longest_1 : decode cX12_longest 1 = .ok (.iload_n 1, 1) := by decide +kernel
theorem dX12_longest_2 : decode cX12_longest 2 = .ok (.invokevirtual 67, 3) := by decide +kernel
theorem dX12_longest_5 : decode cX12_longest 5 = .ok (.ifCond .ne 6, 3) := by decide +kernel
theorem dX12_longest_8 : decode cX12_longest 8 = .ok (.bipush (-2), 2) := by decide +kernel
theorem dX12_longest_10 : decode cX12_longest 10 = .ok (.ireturn, 1) := by decide +kernel
theorem dX12_look_0 : decode cX12_look 0 = .ok (.aload_n 0, 1) := by decide +kernel
theorem dX12_look_1 : decode cX12_look 1 = .ok (.iload_n 1, 1) := by decide +kernel
theorem dX12_look_2 : decode cX12_look 2 = .ok (.invokevirtual 67, 3) := by decide +kernel
theorem dX12_look_5 : decode cX12_look 5 = .ok (.ifCond .eq 15, 3) := by decide +kernel
theorem dX12_look_20 : decode cX12_look 20 = .ok (.bipush (-2), 2) := by decide +kernel
theorem dX12_look_22 : decode cX12_look 22 = .ok (.ireturn, 1) := by decide +kernel
theorem dX12_merges_0 : decode cX12_merges 0 = .ok (.aload_n 0, 1) := by decide +kernel
theorem dX12_merges_1 : decode cX12_merges 1 = .ok (.iload_n 1, 1) := by decide +kernel
theorem dX12_merges_2 : decode cX12_merges 2 = .ok (.iload_n 2, 1) := by decide +kernel
theorem dX12_merges_3 : decode cX12_merges 3 = .ok (.iload_n 3, 1) := by decide +kernel
theorem dX12_merges_4 : decode cX12_merges 4 = .ok (.invokevirtual 326, 3) := by decide +kernel
theorem dX12_merges_7 : decode cX12_merges 7 = .ok (.ifCond .ne 6, 3) := by decide +kernel
theorem dX12_merges_10 : decode cX12_merges 10 = .ok (.bipush (-2), 2) := by decide +kernel
theorem dX12_merges_12 : decode cX12_merges 12 = .ok (.ireturn, 1) := by decide +kernel
theorem dX12_minor_0 : decode cX12_minor 0 = .ok (.aload_n 0, 1) := by decide +kernel
theorem dX12_minor_1 : decode cX12_minor 1 = .ok (.iload_n 1, 1) := by decide +kernel
theorem dX12_minor_2 : decode cX12_minor 2 = .ok (.invokevirtual 67, 3) := by decide +kernel
theorem dX12_minor_5 : decode cX12_minor 5 = .ok (.ifCond .ne 6, 3) := by decide +kernel
theorem dX12_minor_8 : decode cX12_minor 8 = .ok (.bipush (-2), 2) := by decide +kernel
theorem dX12_minor_10 : decode cX12_minor 10 = .ok (.ireturn, 1) := by decide +kernel
theorem dX12_moves_0 : decode cX12_moves 0 = .ok (.aload_n 0, 1) := by decide +kernel
theorem dX12_moves_1 : decode cX12_moves 1 = .ok (.iload_n 1, 1) := by decide +kernel
theorem dX12_moves_2 : decode cX12_moves 2 = .ok (.iload_n 2, 1) := by decide +kernel
theorem dX12_moves_3 : decode cX12_moves 3 = .ok (.invokevirtual 70, 3) := by decide +kernel
theorem dX12_moves_6 : decode cX12_moves 6 = .ok (.ifCond .eq 12, 3) := by decide +kernel
theorem dX12_moves_18 : decode cX12_moves 18 = .ok (.bipush (-2), 2) := by decide +kernel
theorem dX12_moves_20 : decode cX12_moves 20 = .ok (.ireturn, 1) := by decide +kernel
theorem dX12_must_0 : decode cX12_must 0 = .ok (.iload_n 1, 1) := by decide +kernel
theorem dX12_must_1 : decode cX12_must 1 = .ok (.ifCond .ne 8, 3) := by decide +kernel
theorem dX12_must_4 : decode cX12_must 4 = .ok (.aload_n 0, 1) := by decide +kernel
theorem dX12_must_5 : decode cX12_must 5 = .ok (.iconst 1, 1) := by decide +kernel
theorem dX12_must_6 : decode cX12_must 6 = .ok (.invokevirtual 143, 3) := by decide +kernel
theorem dX12_must_9 : decode cX12_must 9 = .ok (.aload_n 0, 1) := by decide +kernel
theorem dX12_must_10 : decode cX12_must 10 = .ok (.invokevirtual 146, 3) := by decide +kernel
theorem dX12_must_13 : decode cX12_must 13 = .ok (.return_, 1) := by decide +kernel
theorem dX12_near_0 : decode cX12_near 0 = .ok (.aload_n 0, 1) := by decide +kernel
theorem dX12_near_1 : decode cX12_near 1 = .ok (.iload_n 1, 1) := by decide +kernel
theorem dX12_near_2 : decode cX12_near 2 = .ok (.iload_n 2, 1) := by decide +kernel
theorem dX12_near_3 : decode cX12_near 3 = .ok (.invokevirtual 70, 3) := by decide +kernel
theorem dX12_near_6 : decode cX12_near 6 = .ok (.ifCond .eq 12, 3) := by decide +kernel
theorem dX12_near_18 : decode cX12_near 18 = .ok (.bipush (-2), 2) := by decide +kernel
theorem dX12_near_20 : decode cX12_near 20 = .ok (.ireturn, 1) := by decide +kernel
theorem dX12_next_0 : decode cX12_next 0 = .ok (.aload_n 0, 1) := by decide +kernel
theorem dX12_next_1 : decode cX12_next 1 = .ok (.bipush 32, 2) := by decide +kernel
theorem dX12_next_3 : decode cX12_next 3 = .ok (.bipush 32, 2) := by decide +kernel
theorem dX12_next_5 : decode cX12_next 5 = .ok (.invokevirtual 106, 3) := by decide +kernel
theorem dX12_next_8 : decode cX12_next 8 = .ok (.ifCond .ne 14, 3) := by decide +kernel
theorem dX12_next_11 : decode cX12_next 11 = .ok (.aload_n 0, 1) := by decide +kernel
theorem dX12_next_12 : decode cX12_next 12 = .ok (.bipush 10, 2) := by decide +kernel
theorem dX12_next_14 : decode cX12_next 14 = .ok (.bipush 10, 2) := by decide +kernel
theorem dX12_next_16 : decode cX12_next 16 = .ok (.invokevirtual 106, 3) := by decide +kernel
theorem dX12_next_19 : decode cX12_next 19 = .ok (.ifCond .eq 16, 3) := by decide +kernel
theorem dX12_next_35 : decode cX12_next 35 = .ok (.aload_n 0, 1) := by decide +kernel
theorem dX12_next_36 : decode cX12_next 36 = .ok (.aload_n 0, 1) := by decide +kernel
theorem dX12_next_37 : decode cX12_next 37 = .ok (.getfield 103, 3) := by decide +kernel
theorem dX12_next_40 : decode cX12_next 40 = .ok (.putfield 109, 3) := by decide +kernel
theorem dX12_next_43 : decode cX12_next 43 = .ok (.aload_n 0, 1) := by decide +kernel
theorem dX12_next_44 : decode cX12_next 44 = .ok (.iconst 0, 1) := by decide +kernel
theorem dX12_next_45 : decode cX12_next 45 = .ok (.putfield 112, 3) := by decide +kernel
theorem dX12_next_48 : decode cX12_next 48 = .ok (.aload_n 0, 1) := by decide +kernel
theorem dX12_next_49 : decode cX12_next 49 = .ok (.getfield 103, 3) := by decide +kernel
theorem dX12_next_52 : decode cX12_next 52 = .ok (.aload_n 0, 1) := by decide +kernel
theorem dX12_next_53 : decode cX12_next 53 = .ok (.getfield 100, 3) := by decide +kernel
theorem dX12_next_56 : decode cX12_next 56 = .ok (.if_icmp .ne 11, 3) := by decide +kernel
theorem dX12_next_59 : decode cX12_next 59 = .ok (.aload_n 0, 1) := by decide +kernel
theorem dX12_next_60 : decode cX12_next 60 = .ok (.iconst 0, 1) := by decide +kernel
theorem dX12_next_61 : decode cX12_next 61 = .ok (.putfield 115, 3) := by decide +kernel
theorem dX12_next_64 : decode cX12_next 64 = .ok (.goto 128, 3) := by decide +kernel
theorem dX12_next_192 : decode cX12_next 192 = .ok (.return_, 1) := by decide +kernel
theorem dX12_octet_0 : decode cX12_octet 0 = .ok (.iload_n 1, 1) := by decide +kernel
theorem dX12_octet_1 : decode cX12_octet 1 = .ok (.i2l, 1) := by decide +kernel
theorem dX12_octet_2 : decode cX12_octet 2 = .ok (.lconst 0, 1) := by decide +kernel
theorem dX12_octet_3 : decode cX12_octet 3 = .ok (.aload_n 0, 1) := by decide +kernel
theorem dX12_octet_4 : decode cX12_octet 4 = .ok (.getfield 193, 3) := by decide +kernel
theorem dX12_octet_7 : decode cX12_octet 7 = .ok (.iconst 1, 1) := by decide +kernel
theorem dX12_octet_8 : decode cX12_octet 8 = .ok (.isub, 1) := by decide +kernel
theorem dX12_octet_9 : decode cX12_octet 9 = .ok (.i2l, 1) := by decide +kernel
theorem dX12_octet_10 : decode cX12_octet 10 = .ok (.invokestatic 55, 3) := by decide +kernel
theorem dX12_octet_13 : decode cX12_octet 13 = .ok (.ifCond .eq 12, 3) := by decide +kernel
theorem dX12_octet_25 : decode cX12_octet 25 = .ok (.iconst (-1), 1) := by decide +kernel
theorem dX12_octet_26 : decode cX12_octet 26 = .ok (.ireturn, 1) := by decide +kernel
theorem dX12_passes_0 : decode cX12_passes 0 = .ok (.aload_n 0, 1) := by decide +kernel
theorem dX12_passes_1 : decode cX12_passes 1 = .ok (.getfield 123, 3) := by decide +kernel
theorem dX12_passes_4 : decode cX12_passes 4 = .ok (.ifCond .ne 7, 3) := by decide +kernel
theorem dX12_passes_11 : decode cX12_passes 11 = .ok (.return_, 1) := by decide +kernel
theorem dX12_place_0 : decode cX12_place 0 = .ok (.aload_n 0, 1) := by decide +kernel
theorem dX12_place_1 : decode cX12_place 1 = .ok (.iload_n 1, 1) := by decide +kernel
theorem dX12_place_2 : decode cX12_place 2 = .ok (.iload_n 2, 1) := by decide +kernel
theorem dX12_place_3 : decode cX12_place 3 = .ok (.invokevirtual 70, 3) := by decide +kernel
theorem dX12_place_6 : decode cX12_place 6 = .ok (.ifCond .eq 12, 3) := by decide +kernel
theorem dX12_place_18 : decode cX12_place 18 = .ok (.bipush (-2), 2) := by decide +kernel
theorem dX12_place_20 : decode cX12_place 20 = .ok (.ireturn, 1) := by decide +kernel
theorem dX12_points_0 : decode cX12_points 0 = .ok (.aload_n 0, 1) := by decide +kernel
theorem dX12_points_1 : decode cX12_points 1 = .ok (.getfield 7, 3) := by decide +kernel
theorem dX12_points_4 : decode cX12_points 4 = .ok (.bipush 91, 2) := by decide +kernel
theorem dX12_points_6 : decode cX12_points 6 = .ok (.iload_n 1, 1) := by decide +kernel
theorem dX12_points_7 : decode cX12_points 7 = .ok (.imul, 1) := by decide +kernel
theorem dX12_points_8 : decode cX12_points 8 = .ok (.iaload, 1) := by decide +kernel
theorem dX12_points_9 : decode cX12_points 9 = .ok (.ireturn, 1) := by decide +kernel
theorem dX12_polish_0 : decode cX12_polish 0 = .ok (.aload_n 0, 1) := by decide +kernel
theorem dX12_polish_1 : decode cX12_polish 1 = .ok (.iload_n 1, 1) := by decide +kernel
theorem dX12_polish_2 : decode cX12_polish 2 = .ok (.invokevirtual 67, 3) := by decide +kernel
theorem dX12_polish_5 : decode cX12_polish 5 = .ok (.ifCond .eq 10, 3) := by decide +kernel
theorem dX12_polish_15 : decode cX12_polish 15 = .ok (.bipush (-2), 2) := by decide +kernel
theorem dX12_polish_17 : decode cX12_polish 17 = .ok (.ireturn, 1) := by decide +kernel
theorem dX12_polished_0 : decode cX12_polished 0 = .ok (.aload_n 0, 1) := by decide +kernel
theorem dX12_polished_1 : decode cX12_polished 1 = .ok (.iload_n 1, 1) := by decide +kernel
theorem dX12_polished_2 : decode cX12_polished 2 = .ok (.invokevirtual 67, 3) := by decide +kernel
theorem dX12_polished_5 : decode cX12_polished 5 = .ok (.ifCond .eq 10, 3) := by decide +kernel
theorem dX12_polished_15 : decode cX12_polished 15 = .ok (.bipush (-2), 2) := by decide +kernel
theorem dX12_polished_17 : decode cX12_polished 17 = .ok (.ireturn, 1) := by decide +kernel
theorem dX12_price_0 : decode cX12_price 0 = .ok (.aload_n 0, 1) := by decide +kernel
theorem dX12_price_1 : decode cX12_price 1 = .ok (.iload_n 1, 1) := by decide +kernel
theorem dX12_price_2 : decode cX12_price 2 = .ok (.invokevirtual 67, 3) := by decide +kernel
theorem dX12_price_5 : decode cX12_price 5 = .ok (.ifCond .eq 43, 3) := by decide +kernel
theorem dX12_price_48 : decode cX12_price 48 = .ok (.bipush (-2), 2) := by decide +kernel
theorem dX12_price_50 : decode cX12_price 50 = .ok (.ireturn, 1) := by decide +kernel
theorem dX12_puts_0 : decode cX12_puts 0 = .ok (.aload_n 0, 1) := by decide +kernel
theorem dX12_puts_1 : decode cX12_puts 1 = .ok (.getfield 7, 3) := by decide +kernel
theorem dX12_puts_4 : decode cX12_puts 4 = .ok (.bipush 91, 2) := by decide +kernel
theorem dX12_puts_6 : decode cX12_puts 6 = .ok (.iload_n 1, 1) := by decide +kernel
theorem dX12_puts_7 : decode cX12_puts 7 = .ok (.imul, 1) := by decide +kernel
theorem dX12_puts_8 : decode cX12_puts 8 = .ok (.bipush 82, 2) := by decide +kernel
theorem dX12_puts_10 : decode cX12_puts 10 = .ok (.iadd, 1) := by decide +kernel
theorem dX12_puts_11 : decode cX12_puts 11 = .ok (.iload_n 2, 1) := by decide +kernel
theorem dX12_puts_12 : decode cX12_puts 12 = .ok (.iadd, 1) := by decide +kernel
theorem dX12_puts_13 : decode cX12_puts 13 = .ok (.iload_n 3, 1) := by decide +kernel
theorem dX12_puts_14 : decode cX12_puts 14 = .ok (.iastore, 1) := by decide +kernel
theorem dX12_puts_15 : decode cX12_puts 15 = .ok (.return_, 1) := by decide +kernel
theorem dX12_readsNet_0 : decode cX12_readsNet 0 = .ok (.aload_n 0, 1) := by decide +kernel
theorem dX12_readsNet_1 : decode cX12_readsNet 1 = .ok (.aload_n 0, 1) := by decide +kernel
theorem dX12_readsNet_2 : decode cX12_readsNet 2 = .ok (.ldc 173, 2) := by decide +kernel
theorem dX12_readsNet_4 : decode cX12_readsNet 4 = .ok (.invokevirtual 175, 3) := by decide +kernel
theorem dX12_readsNet_7 : decode cX12_readsNet 7 = .ok (.invokevirtual 158, 3) := by decide +kernel
theorem dX12_readsNet_10 : decode cX12_readsNet 10 = .ok (.aload_n 0, 1) := by decide +kernel
theorem dX12_readsNet_11 : decode cX12_readsNet 11 = .ok (.iconst 1, 1) := by decide +kernel
theorem dX12_readsNet_12 : decode cX12_readsNet 12 = .ok (.bipush 9, 2) := by decide +kernel
theorem dX12_readsNet_14 : decode cX12_readsNet 14 = .ok (.invokevirtual 149, 3) := by decide +kernel
theorem dX12_readsNet_17 : decode cX12_readsNet 17 = .ok (.istore_n 2, 1) := by decide +kernel
theorem dX12_readsNet_18 : decode cX12_readsNet 18 = .ok (.aload_n 0, 1) := by decide +kernel
theorem dX12_readsNet_19 : decode cX12_readsNet 19 = .ok (.invokevirtual 146, 3) := by decide +kernel
theorem dX12_readsNet_22 : decode cX12_readsNet 22 = .ok (.aload_n 0, 1) := by decide +kernel
theorem dX12_readsNet_23 : decode cX12_readsNet 23 = .ok (.iload_n 1, 1) := by decide +kernel
theorem dX12_readsNet_24 : decode cX12_readsNet 24 = .ok (.invokevirtual 96, 3) := by decide +kernel
theorem dX12_readsNet_27 : decode cX12_readsNet 27 = .ok (.aload_n 0, 1) := by decide +kernel
theorem dX12_readsNet_28 : decode cX12_readsNet 28 = .ok (.getfield 7, 3) := by decide +kernel
theorem dX12_readsNet_31 : decode cX12_readsNet 31 = .ok (.bipush 91, 2) := by decide +kernel
theorem dX12_readsNet_33 : decode cX12_readsNet 33 = .ok (.iload_n 1, 1) := by decide +kernel
theorem dX12_readsNet_34 : decode cX12_readsNet 34 = .ok (.imul, 1) := by decide +kernel
theorem dX12_readsNet_35 : decode cX12_readsNet 35 = .ok (.iload_n 2, 1) := by decide +kernel
theorem dX12_readsNet_36 : decode cX12_readsNet 36 = .ok (.iastore, 1) := by decide +kernel
theorem dX12_readsNet_37 : decode cX12_readsNet 37 = .ok (.iconst 0, 1) := by decide +kernel
theorem dX12_readsNet_38 : decode cX12_readsNet 38 = .ok (.istore_n 3, 1) := by decide +kernel
theorem dX12_readsNet_39 : decode cX12_readsNet 39 = .ok (.iload_n 3, 1) := by decide +kernel
theorem dX12_readsNet_40 : decode cX12_readsNet 40 = .ok (.iload_n 2, 1) := by decide +kernel
theorem dX12_readsNet_41 : decode cX12_readsNet 41 = .ok (.if_icmp .ge 16, 3) := by decide +kernel
theorem dX12_readsNet_44 : decode cX12_readsNet 44 = .ok (.aload_n 0, 1) := by decide +kernel
theorem dX12_readsNet_45 : decode cX12_readsNet 45 = .ok (.iload_n 1, 1) := by decide +kernel
theorem dX12_readsNet_46 : decode cX12_readsNet 46 = .ok (.iload_n 3, 1) := by decide +kernel
theorem dX12_readsNet_47 : decode cX12_readsNet 47 = .ok (.iload_n 3, 1) := by decide +kernel
theorem dX12_readsNet_48 : decode cX12_readsNet 48 = .ok (.invokevirtual 169, 3) := by decide +kernel
theorem dX12_readsNet_51 : decode cX12_readsNet 51 = .ok (.iinc 3 1, 3) := by decide +kernel
theorem dX12_readsNet_54 : decode cX12_readsNet 54 = .ok (.goto (-15), 3) := by decide +kernel
theorem dX12_readsNet_57 : decode cX12_readsNet 57 = .ok (.aload_n 0, 1) := by decide +kernel
theorem dX12_readsNet_58 : decode cX12_readsNet 58 = .ok (.bipush 58, 2) := by decide +kernel
theorem dX12_readsNet_60 : decode cX12_readsNet 60 = .ok (.invokevirtual 155, 3) := by decide +kernel
theorem dX12_readsNet_63 : decode cX12_readsNet 63 = .ok (.ifCond .eq 33, 3) := by decide +kernel
theorem dX12_readsNet_96 : decode cX12_readsNet 96 = .ok (.aload_n 0, 1) := by decide +kernel
theorem dX12_readsNet_97 : decode cX12_readsNet 97 = .ok (.aload_n 0, 1) := by decide +kernel
theorem dX12_readsNet_98 : decode cX12_readsNet 98 = .ok (.bipush 59, 2) := by decide +kernel
theorem dX12_readsNet_100 : decode cX12_readsNet 100 = .ok (.invokevirtual 155, 3) := by decide +kernel
theorem dX12_readsNet_103 : decode cX12_readsNet 103 = .ok (.invokevirtual 158, 3) := by decide +kernel
theorem dX12_readsNet_106 : decode cX12_readsNet 106 = .ok (.aload_n 0, 1) := by decide +kernel
theorem dX12_readsNet_107 : decode cX12_readsNet 107 = .ok (.ldc 182, 2) := by decide +kernel
theorem dX12_readsNet_109 : decode cX12_readsNet 109 = .ok (.invokevirtual 175, 3) := by decide +kernel
theorem dX12_readsNet_112 : decode cX12_readsNet 112 = .ok (.ifCond .eq 8, 3) := by decide +kernel
theorem dX12_readsNet_120 : decode cX12_readsNet 120 = .ok (.aload_n 0, 1) := by decide +kernel
theorem dX12_readsNet_121 : decode cX12_readsNet 121 = .ok (.getfield 123, 3) := by decide +kernel
theorem dX12_readsNet_124 : decode cX12_readsNet 124 = .ok (.ifCond .ne 15, 3) := by decide +kernel
theorem dX12_readsNet_139 : decode cX12_readsNet 139 = .ok (.return_, 1) := by decide +kernel
theorem dX12_remembers_0 : decode cX12_remembers 0 = .ok (.iconst 0, 1) := by decide +kernel
theorem dX12_remembers_1 : decode cX12_remembers 1 = .ok (.istore_n 1, 1) := by decide +kernel
theorem dX12_remembers_2 : decode cX12_remembers 2 = .ok (.iload_n 1, 1) := by decide +kernel
theorem dX12_remembers_3 : decode cX12_remembers 3 = .ok (.sipush 273, 3) := by decide +kernel
theorem dX12_remembers_6 : decode cX12_remembers 6 = .ok (.if_icmp .ge 21, 3) := by decide +kernel
theorem dX12_remembers_9 : decode cX12_remembers 9 = .ok (.aload_n 0, 1) := by decide +kernel
theorem dX12_remembers_10 : decode cX12_remembers 10 = .ok (.getfield 13, 3) := by decide +kernel
theorem dX12_remembers_13 : decode cX12_remembers 13 = .ok (.iload_n 1, 1) := by decide +kernel
theorem dX12_remembers_14 : decode cX12_remembers 14 = .ok (.aload_n 0, 1) := by decide +kernel
theorem dX12_remembers_15 : decode cX12_remembers 15 = .ok (.getfield 7, 3) := by decide +kernel
theorem dX12_remembers_18 : decode cX12_remembers 18 = .ok (.iload_n 1, 1) := by decide +kernel
theorem dX12_remembers_19 : decode cX12_remembers 19 = .ok (.iaload, 1) := by decide +kernel
theorem dX12_remembers_20 : decode cX12_remembers 20 = .ok (.iastore, 1) := by decide +kernel
theorem dX12_remembers_21 : decode cX12_remembers 21 = .ok (.iinc 1 1, 3) := by decide +kernel
theorem dX12_remembers_24 : decode cX12_remembers 24 = .ok (.goto (-22), 3) := by decide +kernel
theorem dX12_remembers_27 : decode cX12_remembers 27 = .ok (.return_, 1) := by decide +kernel
theorem dX12_reverse_0 : decode cX12_reverse 0 = .ok (.aload_n 0, 1) := by decide +kernel
theorem dX12_reverse_1 : decode cX12_reverse 1 = .ok (.iload_n 1, 1) := by decide +kernel
theorem dX12_reverse_2 : decode cX12_reverse 2 = .ok (.invokevirtual 67, 3) := by decide +kernel
theorem dX12_reverse_5 : decode cX12_reverse 5 = .ok (.ifCond .ne 6, 3) := by decide +kernel
theorem dX12_reverse_8 : decode cX12_reverse 8 = .ok (.bipush (-2), 2) := by decide +kernel
theorem dX12_reverse_10 : decode cX12_reverse 10 = .ok (.ireturn, 1) := by decide +kernel
theorem dX12_row_0 : decode cX12_row 0 = .ok (.aload_n 0, 1) := by decide +kernel
theorem dX12_row_1 : decode cX12_row 1 = .ok (.iload_n 1, 1) := by decide +kernel
theorem dX12_row_2 : decode cX12_row 2 = .ok (.iload_n 2, 1) := by decide +kernel
theorem dX12_row_3 : decode cX12_row 3 = .ok (.invokevirtual 70, 3) := by decide +kernel
theorem dX12_row_6 : decode cX12_row 6 = .ok (.ifCond .eq 12, 3) := by decide +kernel
theorem dX12_row_18 : decode cX12_row 18 = .ok (.bipush (-2), 2) := by decide +kernel
theorem dX12_row_20 : decode cX12_row 20 = .ok (.ireturn, 1) := by decide +kernel
theorem dX12_split_0 : decode cX12_split 0 = .ok (.aload_n 0, 1) := by decide +kernel
theorem dX12_split_1 : decode cX12_split 1 = .ok (.iload_n 1, 1) := by decide +kernel
theorem dX12_split_2 : decode cX12_split 2 = .ok (.invokevirtual 67, 3) := by decide +kernel
theorem dX12_split_5 : decode cX12_split 5 = .ok (.ifCond .eq 44, 3) := by decide +kernel
theorem dX12_split_49 : decode cX12_split 49 = .ok (.bipush (-2), 2) := by decide +kernel
theorem dX12_split_51 : decode cX12_split 51 = .ok (.ireturn, 1) := by decide +kernel
theorem dX12_swaps_0 : decode cX12_swaps 0 = .ok (.aload_n 0, 1) := by decide +kernel
theorem dX12_swaps_1 : decode cX12_swaps 1 = .ok (.iload_n 1, 1) := by decide +kernel
theorem dX12_swaps_2 : decode cX12_swaps 2 = .ok (.iload_n 2, 1) := by decide +kernel
theorem dX12_swaps_3 : decode cX12_swaps 3 = .ok (.invokevirtual 70, 3) := by decide +kernel
theorem dX12_swaps_6 : decode cX12_swaps 6 = .ok (.ifCond .eq 12, 3) := by decide +kernel
theorem dX12_swaps_18 : decode cX12_swaps 18 = .ok (.bipush (-2), 2) := by decide +kernel
theorem dX12_swaps_20 : decode cX12_swaps 20 = .ok (.ireturn, 1) := by decide +kernel
theorem dX12_takes_0 : decode cX12_takes 0 = .ok (.aload_n 0, 1) := by decide +kernel
theorem dX12_takes_1 : decode cX12_takes 1 = .ok (.iload_n 1, 1) := by decide +kernel
theorem dX12_takes_2 : decode cX12_takes 2 = .ok (.invokevirtual 67, 3) := by decide +kernel
theorem dX12_takes_5 : decode cX12_takes 5 = .ok (.ifCond .eq 10, 3) := by decide +kernel
theorem dX12_takes_15 : decode cX12_takes 15 = .ok (.bipush (-2), 2) := by decide +kernel
theorem dX12_takes_17 : decode cX12_takes 17 = .ok (.ireturn, 1) := by decide +kernel
theorem dX12_tell_0 : decode cX12_tell 0 = .ok (.aload_n 0, 1) := by decide +kernel
theorem dX12_tell_1 : decode cX12_tell 1 = .ok (.iload_n 1, 1) := by decide +kernel
theorem dX12_tell_2 : decode cX12_tell 2 = .ok (.invokevirtual 67, 3) := by decide +kernel
theorem dX12_tell_5 : decode cX12_tell 5 = .ok (.ifCond .eq 13, 3) := by decide +kernel
theorem dX12_tell_18 : decode cX12_tell 18 = .ok (.bipush (-2), 2) := by decide +kernel
theorem dX12_tell_20 : decode cX12_tell 20 = .ok (.ireturn, 1) := by decide +kernel
theorem dX12_told_0 : decode cX12_told 0 = .ok (.iload_n 1, 1) := by decide +kernel
theorem dX12_told_1 : decode cX12_told 1 = .ok (.invokestatic 59, 3) := by decide +kernel
theorem dX12_told_4 : decode cX12_told 4 = .ok (.ifCond .ne 6, 3) := by decide +kernel
theorem dX12_told_7 : decode cX12_told 7 = .ok (.bipush (-2), 2) := by decide +kernel
theorem dX12_told_9 : decode cX12_told 9 = .ok (.ireturn, 1) := by decide +kernel
theorem dX12_told_10 : decode cX12_told 10 = .ok (.aload_n 0, 1) := by decide +kernel
theorem dX12_told_11 : decode cX12_told 11 = .ok (.iconst 0, 1) := by decide +kernel
theorem dX12_told_12 : decode cX12_told 12 = .ok (.putfield 127, 3) := by decide +kernel
theorem dX12_told_15 : decode cX12_told 15 = .ok (.aload_n 0, 1) := by decide +kernel
theorem dX12_told_16 : decode cX12_told 16 = .ok (.iconst (-1), 1) := by decide +kernel
theorem dX12_told_17 : decode cX12_told 17 = .ok (.putfield 22, 3) := by decide +kernel
theorem dX12_told_20 : decode cX12_told 20 = .ok (.aload_n 0, 1) := by decide +kernel
theorem dX12_told_21 : decode cX12_told 21 = .ok (.iconst 0, 1) := by decide +kernel
theorem dX12_told_22 : decode cX12_told 22 = .ok (.putfield 123, 3) := by decide +kernel
theorem dX12_told_25 : decode cX12_told 25 = .ok (.aload_n 0, 1) := by decide +kernel
theorem dX12_told_26 : decode cX12_told 26 = .ok (.iconst 0, 1) := by decide +kernel
theorem dX12_told_27 : decode cX12_told 27 = .ok (.putfield 103, 3) := by decide +kernel
theorem dX12_told_30 : decode cX12_told 30 = .ok (.aload_n 0, 1) := by decide +kernel
theorem dX12_told_31 : decode cX12_told 31 = .ok (.invokevirtual 93, 3) := by decide +kernel
theorem dX12_told_34 : decode cX12_told 34 = .ok (.aload_n 0, 1) := by decide +kernel
theorem dX12_told_35 : decode cX12_told 35 = .ok (.invokevirtual 130, 3) := by decide +kernel
theorem dX12_told_38 : decode cX12_told 38 = .ok (.aload_n 0, 1) := by decide +kernel
theorem dX12_told_39 : decode cX12_told 39 = .ok (.iload_n 1, 1) := by decide +kernel
theorem dX12_told_40 : decode cX12_told 40 = .ok (.invokevirtual 187, 3) := by decide +kernel
theorem dX12_told_43 : decode cX12_told 43 = .ok (.aload_n 0, 1) := by decide +kernel
theorem dX12_told_44 : decode cX12_told 44 = .ok (.iconst 0, 1) := by decide +kernel
theorem dX12_told_45 : decode cX12_told 45 = .ok (.putfield 100, 3) := by decide +kernel
theorem dX12_told_48 : decode cX12_told 48 = .ok (.aload_n 0, 1) := by decide +kernel
theorem dX12_told_49 : decode cX12_told 49 = .ok (.getfield 123, 3) := by decide +kernel
theorem dX12_told_52 : decode cX12_told 52 = .ok (.ifCond .eq 33, 3) := by decide +kernel
theorem dX12_told_55 : decode cX12_told 55 = .ok (.iconst 0, 1) := by decide +kernel
theorem dX12_told_56 : decode cX12_told 56 = .ok (.istore_n 2, 1) := by decide +kernel
theorem dX12_told_57 : decode cX12_told 57 = .ok (.iload_n 2, 1) := by decide +kernel
theorem dX12_told_58 : decode cX12_told 58 = .ok (.sipush 273, 3) := by decide +kernel
theorem dX12_told_61 : decode cX12_told 61 = .ok (.if_icmp .ge 21, 3) := by decide +kernel
theorem dX12_told_64 : decode cX12_told 64 = .ok (.aload_n 0, 1) := by decide +kernel
theorem dX12_told_65 : decode cX12_told 65 = .ok (.getfield 7, 3) := by decide +kernel
theorem dX12_told_68 : decode cX12_told 68 = .ok (.iload_n 2, 1) := by decide +kernel
theorem dX12_told_69 : decode cX12_told 69 = .ok (.aload_n 0, 1) := by decide +kernel
theorem dX12_told_70 : decode cX12_told 70 = .ok (.getfield 13, 3) := by decide +kernel
theorem dX12_told_73 : decode cX12_told 73 = .ok (.iload_n 2, 1) := by decide +kernel
theorem dX12_told_74 : decode cX12_told 74 = .ok (.iaload, 1) := by decide +kernel
theorem dX12_told_75 : decode cX12_told 75 = .ok (.iastore, 1) := by decide +kernel
theorem dX12_told_76 : decode cX12_told 76 = .ok (.iinc 2 1, 3) := by decide +kernel
theorem dX12_told_79 : decode cX12_told 79 = .ok (.goto (-22), 3) := by decide +kernel
theorem dX12_told_82 : decode cX12_told 82 = .ok (.bipush (-4), 2) := by decide +kernel
theorem dX12_told_84 : decode cX12_told 84 = .ok (.ireturn, 1) := by decide +kernel
theorem dX12_undo_0 : decode cX12_undo 0 = .ok (.aload_n 0, 1) := by decide +kernel
theorem dX12_undo_1 : decode cX12_undo 1 = .ok (.getfield 87, 3) := by decide +kernel
theorem dX12_undo_4 : decode cX12_undo 4 = .ok (.ifCond .ne 5, 3) := by decide +kernel
theorem dX12_undo_7 : decode cX12_undo 7 = .ok (.iconst (-1), 1) := by decide +kernel
theorem dX12_undo_8 : decode cX12_undo 8 = .ok (.ireturn, 1) := by decide +kernel
theorem dX12_value_0 : decode cX12_value 0 = .ok (.aload_n 0, 1) := by decide +kernel
theorem dX12_value_1 : decode cX12_value 1 = .ok (.iload_n 1, 1) := by decide +kernel
theorem dX12_value_2 : decode cX12_value 2 = .ok (.invokevirtual 67, 3) := by decide +kernel
theorem dX12_value_5 : decode cX12_value 5 = .ok (.ifCond .eq 10, 3) := by decide +kernel
theorem dX12_value_15 : decode cX12_value 15 = .ok (.bipush (-2), 2) := by decide +kernel
theorem dX12_value_17 : decode cX12_value 17 = .ok (.ireturn, 1) := by decide +kernel
theorem dX12_ways_0 : decode cX12_ways 0 = .ok (.aload_n 0, 1) := by decide +kernel
theorem dX12_ways_1 : decode cX12_ways 1 = .ok (.iload_n 1, 1) := by decide +kernel
theorem dX12_ways_2 : decode cX12_ways 2 = .ok (.invokevirtual 67, 3) := by decide +kernel
theorem dX12_ways_5 : decode cX12_ways 5 = .ok (.ifCond .eq 10, 3) := by decide +kernel
theorem dX12_ways_15 : decode cX12_ways 15 = .ok (.bipush (-2), 2) := by decide +kernel
theorem dX12_ways_17 : decode cX12_ways 17 = .ok (.ireturn, 1) := by decide +kernel
theorem dX12_within_0 : decode cX12_within 0 = .ok (.aload_n 0, 1) := by decide +kernel
theorem dX12_within_1 : decode cX12_within 1 = .ok (.iload_n 1, 1) := by decide +kernel
theorem dX12_within_2 : decode cX12_within 2 = .ok (.invokevirtual 67, 3) := by decide +kernel
theorem dX12_within_5 : decode cX12_within 5 = .ok (.ifCond .eq 26, 3) := by decide +kernel
theorem dX12_within_31 : decode cX12_within 31 = .ok (.bipush (-2), 2) := by decide +kernel
theorem dX12_within_33 : decode cX12_within 33 = .ok (.ireturn, 1) := by decide +kernel
theorem dX12_worst_0 : decode cX12_worst 0 = .ok (.aload_n 0, 1) := by decide +kernel
theorem dX12_worst_1 : decode cX12_worst 1 = .ok (.iload_n 1, 1) := by decide +kernel
theorem dX12_worst_2 : decode cX12_worst 2 = .ok (.invokevirtual 67, 3) := by decide +kernel
theorem dX12_worst_5 : decode cX12_worst 5 = .ok (.ifCond .eq 31, 3) := by decide +kernel
theorem dX12_worst_36 : decode cX12_worst 36 = .ok (.bipush (-2), 2) := by decide +kernel
theorem dX12_worst_38 : decode cX12_worst 38 = .ok (.ireturn, 1) := by decide +kernel
theorem dX1_at_0 : decode cX1_at 0 = .ok (.iload_n 1, 1) := by decide +kernel
theorem dX1_at_1 : decode cX1_at 1 = .ok (.ifCond .lt 24, 3) := by decide +kernel
theorem dX1_at_4 : decode cX1_at 4 = .ok (.iload_n 1, 1) := by decide +kernel
theorem dX1_at_5 : decode cX1_at 5 = .ok (.aload_n 0, 1) := by decide +kernel
theorem dX1_at_6 : decode cX1_at 6 = .ok (.getfield 21, 3) := by decide +kernel
theorem dX1_at_9 : decode cX1_at 9 = .ok (.if_icmp .ge 16, 3) := by decide +kernel
theorem dX1_at_12 : decode cX1_at 12 = .ok (.aload_n 0, 1) := by decide +kernel
theorem dX1_at_13 : decode cX1_at 13 = .ok (.getfield 15, 3) := by decide +kernel
theorem dX1_at_16 : decode cX1_at 16 = .ok (.iload_n 1, 1) := by decide +kernel
theorem dX1_at_17 : decode cX1_at 17 = .ok (.baload, 1) := by decide +kernel
theorem dX1_at_18 : decode cX1_at 18 = .ok (.sipush 255, 3) := by decide +kernel
theorem dX1_at_21 : decode cX1_at 21 = .ok (.iand, 1) := by decide +kernel
theorem dX1_at_22 : decode cX1_at 22 = .ok (.goto 4, 3) := by decide +kernel
theorem dX1_at_25 : decode cX1_at 25 = .ok (.iconst (-1), 1) := by decide +kernel
theorem dX1_at_26 : decode cX1_at 26 = .ok (.ireturn, 1) := by decide +kernel
theorem dX1_hasRoom_0 : decode cX1_hasRoom 0 = .ok (.aload_n 0, 1) := by decide +kernel
theorem dX1_hasRoom_1 : decode cX1_hasRoom 1 = .ok (.getfield 21, 3) := by decide +kernel
theorem dX1_hasRoom_4 : decode cX1_hasRoom 4 = .ok (.iload_n 1, 1) := by decide +kernel
theorem dX1_hasRoom_5 : decode cX1_hasRoom 5 = .ok (.iadd, 1) := by decide +kernel
theorem dX1_hasRoom_6 : decode cX1_hasRoom 6 = .ok (.aload_n 0, 1) := by decide +kernel
theorem dX1_hasRoom_7 : decode cX1_hasRoom 7 = .ok (.getfield 15, 3) := by decide +kernel
theorem dX1_hasRoom_10 : decode cX1_hasRoom 10 = .ok (.arraylength, 1) := by decide +kernel
theorem dX1_hasRoom_11 : decode cX1_hasRoom 11 = .ok (.if_icmp .gt 7, 3) := by decide +kernel
theorem dX1_hasRoom_14 : decode cX1_hasRoom 14 = .ok (.iconst 1, 1) := by decide +kernel
theorem dX1_hasRoom_15 : decode cX1_hasRoom 15 = .ok (.goto 4, 3) := by decide +kernel
theorem dX1_hasRoom_19 : decode cX1_hasRoom 19 = .ok (.ireturn, 1) := by decide +kernel
theorem dX1_init_0 : decode cX1_init 0 = .ok (.aload_n 0, 1) := by decide +kernel
theorem dX1_init_1 : decode cX1_init 1 = .ok (.invokespecial 3, 3) := by decide +kernel
theorem dX1_init_4 : decode cX1_init 4 = .ok (.aload_n 0, 1) := by decide +kernel
theorem dX1_init_5 : decode cX1_init 5 = .ok (.iconst 0, 1) := by decide +kernel
theorem dX1_init_6 : decode cX1_init 6 = .ok (.iload_n 1, 1) := by decide +kernel
theorem dX1_init_7 : decode cX1_init 7 = .ok (.invokestatic 9, 3) := by decide +kernel
theorem dX1_init_10 : decode cX1_init 10 = .ok (.newarray .byte, 2) := by decide +kernel
theorem dX1_init_12 : decode cX1_init 12 = .ok (.putfield 15, 3) := by decide +kernel
theorem dX1_init_15 : decode cX1_init 15 = .ok (.return_, 1) := by decide +kernel
theorem dX1_put_0 : decode cX1_put 0 = .ok (.aload_n 0, 1) := by decide +kernel
theorem dX1_put_1 : decode cX1_put 1 = .ok (.iconst 1, 1) := by decide +kernel
theorem dX1_put_2 : decode cX1_put 2 = .ok (.invokevirtual 25, 3) := by decide +kernel
theorem dX1_put_5 : decode cX1_put 5 = .ok (.ifCond .eq 24, 3) := by decide +kernel
theorem dX1_put_8 : decode cX1_put 8 = .ok (.aload_n 0, 1) := by decide +kernel
theorem dX1_put_9 : decode cX1_put 9 = .ok (.getfield 15, 3) := by decide +kernel
theorem dX1_put_12 : decode cX1_put 12 = .ok (.aload_n 0, 1) := by decide +kernel
theorem dX1_put_13 : decode cX1_put 13 = .ok (.getfield 21, 3) := by decide +kernel
theorem dX1_put_16 : decode cX1_put 16 = .ok (.iload_n 1, 1) := by decide +kernel
theorem dX1_put_17 : decode cX1_put 17 = .ok (.i2b, 1) := by decide +kernel
theorem dX1_put_18 : decode cX1_put 18 = .ok (.bastore, 1) := by decide +kernel
theorem dX1_put_19 : decode cX1_put 19 = .ok (.aload_n 0, 1) := by decide +kernel
theorem dX1_put_20 : decode cX1_put 20 = .ok (.dup, 1) := by decide +kernel
theorem dX1_put_21 : decode cX1_put 21 = .ok (.getfield 21, 3) := by decide +kernel
theorem dX1_put_24 : decode cX1_put 24 = .ok (.iconst 1, 1) := by decide +kernel
theorem dX1_put_25 : decode cX1_put 25 = .ok (.iadd, 1) := by decide +kernel
theorem dX1_put_26 : decode cX1_put 26 = .ok (.putfield 21, 3) := by decide +kernel
theorem dX1_put_29 : decode cX1_put 29 = .ok (.return_, 1) := by decide +kernel
theorem dX1_putFour_0 : decode cX1_putFour 0 = .ok (.aload_n 0, 1) := by decide +kernel
theorem dX1_putFour_1 : decode cX1_putFour 1 = .ok (.iload_n 1, 1) := by decide +kernel
theorem dX1_putFour_2 : decode cX1_putFour 2 = .ok (.bipush 24, 2) := by decide +kernel
theorem dX1_putFour_4 : decode cX1_putFour 4 = .ok (.iushr, 1) := by decide +kernel
theorem dX1_putFour_5 : decode cX1_putFour 5 = .ok (.invokevirtual 29, 3) := by decide +kernel
theorem dX1_putFour_8 : decode cX1_putFour 8 = .ok (.aload_n 0, 1) := by decide +kernel
theorem dX1_putFour_9 : decode cX1_putFour 9 = .ok (.iload_n 1, 1) := by decide +kernel
theorem dX1_putFour_10 : decode cX1_putFour 10 = .ok (.bipush 16, 2) := by decide +kernel
theorem dX1_putFour_12 : decode cX1_putFour 12 = .ok (.iushr, 1) := by decide +kernel
theorem dX1_putFour_13 : decode cX1_putFour 13 = .ok (.invokevirtual 29, 3) := by decide +kernel
theorem dX1_putFour_16 : decode cX1_putFour 16 = .ok (.aload_n 0, 1) := by decide +kernel
theorem dX1_putFour_17 : decode cX1_putFour 17 = .ok (.iload_n 1, 1) := by decide +kernel
theorem dX1_putFour_18 : decode cX1_putFour 18 = .ok (.bipush 8, 2) := by decide +kernel
theorem dX1_putFour_20 : decode cX1_putFour 20 = .ok (.iushr, 1) := by decide +kernel
theorem dX1_putFour_21 : decode cX1_putFour 21 = .ok (.invokevirtual 29, 3) := by decide +kernel
theorem dX1_putFour_24 : decode cX1_putFour 24 = .ok (.aload_n 0, 1) := by decide +kernel
theorem dX1_putFour_25 : decode cX1_putFour 25 = .ok (.iload_n 1, 1) := by decide +kernel
theorem dX1_putFour_26 : decode cX1_putFour 26 = .ok (.invokevirtual 29, 3) := by decide +kernel
theorem dX1_putFour_29 : decode cX1_putFour 29 = .ok (.return_, 1) := by decide +kernel
theorem dX2_init_0 : decode cX2_init 0 = .ok (.aload_n 0, 1) := by decide +kernel
theorem dX2_init_1 : decode cX2_init 1 = .ok (.invokespecial 3, 3) := by decide +kernel
theorem dX2_init_4 : decode cX2_init 4 = .ok (.aload_n 0, 1) := by decide +kernel
theorem dX2_init_5 : decode cX2_init 5 = .ok (.bipush 9, 2) := by decide +kernel
theorem dX2_init_7 : decode cX2_init 7 = .ok (.newarray .int, 2) := by decide +kernel
theorem dX2_init_9 : decode cX2_init 9 = .ok (.putfield 9, 3) := by decide +kernel
theorem dX2_init_12 : decode cX2_init 12 = .ok (.return_, 1) := by decide +kernel
theorem dX3_init_0 : decode cX3_init 0 = .ok (.aload_n 0, 1) := by decide +kernel
theorem dX3_init_1 : decode cX3_init 1 = .ok (.invokespecial 3, 3) := by decide +kernel
theorem dX3_init_4 : decode cX3_init 4 = .ok (.aload_n 0, 1) := by decide +kernel
theorem dX3_init_5 : decode cX3_init 5 = .ok (.bipush 7, 2) := by decide +kernel
theorem dX3_init_7 : decode cX3_init 7 = .ok (.anewarray 9, 3) := by decide +kernel
theorem dX3_init_10 : decode cX3_init 10 = .ok (.putfield 11, 3) := by decide +kernel
theorem dX3_init_13 : decode cX3_init 13 = .ok (.aload_n 0, 1) := by decide +kernel
theorem dX3_init_14 : decode cX3_init 14 = .ok (.new 17, 3) := by decide +kernel
theorem dX3_init_17 : decode cX3_init 17 = .ok (.dup, 1) := by decide +kernel
theorem dX3_init_18 : decode cX3_init 18 = .ok (.invokespecial 19, 3) := by decide +kernel
theorem dX3_init_21 : decode cX3_init 21 = .ok (.putfield 20, 3) := by decide +kernel
theorem dX3_init_24 : decode cX3_init 24 = .ok (.iconst 0, 1) := by decide +kernel
theorem dX3_init_25 : decode cX3_init 25 = .ok (.istore_n 1, 1) := by decide +kernel
theorem dX3_init_26 : decode cX3_init 26 = .ok (.iload_n 1, 1) := by decide +kernel
theorem dX3_init_27 : decode cX3_init 27 = .ok (.bipush 7, 2) := by decide +kernel
theorem dX3_init_29 : decode cX3_init 29 = .ok (.if_icmp .ge 22, 3) := by decide +kernel
theorem dX3_init_32 : decode cX3_init 32 = .ok (.aload_n 0, 1) := by decide +kernel
theorem dX3_init_33 : decode cX3_init 33 = .ok (.getfield 11, 3) := by decide +kernel
theorem dX3_init_36 : decode cX3_init 36 = .ok (.iload_n 1, 1) := by decide +kernel
theorem dX3_init_37 : decode cX3_init 37 = .ok (.new 9, 3) := by decide +kernel
theorem dX3_init_40 : decode cX3_init 40 = .ok (.dup, 1) := by decide +kernel
theorem dX3_init_41 : decode cX3_init 41 = .ok (.invokespecial 24, 3) := by decide +kernel
theorem dX3_init_44 : decode cX3_init 44 = .ok (.aastore, 1) := by decide +kernel
theorem dX3_init_45 : decode cX3_init 45 = .ok (.iinc 1 1, 3) := by decide +kernel
theorem dX3_init_48 : decode cX3_init 48 = .ok (.goto (-22), 3) := by decide +kernel
theorem dX3_init_51 : decode cX3_init 51 = .ok (.return_, 1) := by decide +kernel
theorem dX4_init_0 : decode cX4_init 0 = .ok (.aload_n 0, 1) := by decide +kernel
theorem dX4_init_1 : decode cX4_init 1 = .ok (.invokespecial 3, 3) := by decide +kernel
theorem dX4_init_4 : decode cX4_init 4 = .ok (.aload_n 0, 1) := by decide +kernel
theorem dX4_init_5 : decode cX4_init 5 = .ok (.bipush 10, 2) := by decide +kernel
theorem dX4_init_7 : decode cX4_init 7 = .ok (.newarray .int, 2) := by decide +kernel
theorem dX4_init_9 : decode cX4_init 9 = .ok (.putfield 9, 3) := by decide +kernel
theorem dX4_init_12 : decode cX4_init 12 = .ok (.aload_n 0, 1) := by decide +kernel
theorem dX4_init_13 : decode cX4_init 13 = .ok (.bipush 10, 2) := by decide +kernel
theorem dX4_init_15 : decode cX4_init 15 = .ok (.anewarray 15, 3) := by decide +kernel
theorem dX4_init_18 : decode cX4_init 18 = .ok (.putfield 17, 3) := by decide +kernel
theorem dX4_init_21 : decode cX4_init 21 = .ok (.iconst 0, 1) := by decide +kernel
theorem dX4_init_22 : decode cX4_init 22 = .ok (.istore_n 1, 1) := by decide +kernel
theorem dX4_init_23 : decode cX4_init 23 = .ok (.iload_n 1, 1) := by decide +kernel
theorem dX4_init_24 : decode cX4_init 24 = .ok (.bipush 10, 2) := by decide +kernel
theorem dX4_init_26 : decode cX4_init 26 = .ok (.if_icmp .ge 22, 3) := by decide +kernel
theorem dX4_init_29 : decode cX4_init 29 = .ok (.aload_n 0, 1) := by decide +kernel
theorem dX4_init_30 : decode cX4_init 30 = .ok (.getfield 17, 3) := by decide +kernel
theorem dX4_init_33 : decode cX4_init 33 = .ok (.iload_n 1, 1) := by decide +kernel
theorem dX4_init_34 : decode cX4_init 34 = .ok (.new 15, 3) := by decide +kernel
theorem dX4_init_37 : decode cX4_init 37 = .ok (.dup, 1) := by decide +kernel
theorem dX4_init_38 : decode cX4_init 38 = .ok (.invokespecial 21, 3) := by decide +kernel
theorem dX4_init_41 : decode cX4_init 41 = .ok (.aastore, 1) := by decide +kernel
theorem dX4_init_42 : decode cX4_init 42 = .ok (.iinc 1 1, 3) := by decide +kernel
theorem dX4_init_45 : decode cX4_init 45 = .ok (.goto (-22), 3) := by decide +kernel
theorem dX4_init_48 : decode cX4_init 48 = .ok (.return_, 1) := by decide +kernel
theorem dX5_init_0 : decode cX5_init 0 = .ok (.aload_n 0, 1) := by decide +kernel
theorem dX5_init_1 : decode cX5_init 1 = .ok (.invokespecial 3, 3) := by decide +kernel
theorem dX5_init_4 : decode cX5_init 4 = .ok (.aload_n 0, 1) := by decide +kernel
theorem dX5_init_5 : decode cX5_init 5 = .ok (.bipush 9, 2) := by decide +kernel
theorem dX5_init_7 : decode cX5_init 7 = .ok (.newarray .int, 2) := by decide +kernel
theorem dX5_init_9 : decode cX5_init 9 = .ok (.putfield 9, 3) := by decide +kernel
theorem dX5_init_12 : decode cX5_init 12 = .ok (.aload_n 0, 1) := by decide +kernel
theorem dX5_init_13 : decode cX5_init 13 = .ok (.bipush 9, 2) := by decide +kernel
theorem dX5_init_15 : decode cX5_init 15 = .ok (.newarray .int, 2) := by decide +kernel
theorem dX5_init_17 : decode cX5_init 17 = .ok (.putfield 15, 3) := by decide +kernel
theorem dX5_init_20 : decode cX5_init 20 = .ok (.aload_n 0, 1) := by decide +kernel
theorem dX5_init_21 : decode cX5_init 21 = .ok (.bipush 81, 2) := by decide +kernel
theorem dX5_init_23 : decode cX5_init 23 = .ok (.newarray .int, 2) := by decide +kernel
theorem dX5_init_25 : decode cX5_init 25 = .ok (.putfield 18, 3) := by decide +kernel
theorem dX5_init_28 : decode cX5_init 28 = .ok (.return_, 1) := by decide +kernel
theorem dX7_blame_0 : decode cX7_blame 0 = .ok (.aload_n 0, 1) := by decide +kernel
theorem dX7_blame_1 : decode cX7_blame 1 = .ok (.iload_n 1, 1) := by decide +kernel
theorem dX7_blame_2 : decode cX7_blame 2 = .ok (.putfield 26, 3) := by decide +kernel
theorem dX7_blame_5 : decode cX7_blame 5 = .ok (.aload_n 0, 1) := by decide +kernel
theorem dX7_blame_6 : decode cX7_blame 6 = .ok (.aload_n 0, 1) := by decide +kernel
theorem dX7_blame_7 : decode cX7_blame 7 = .ok (.getfield 101, 3) := by decide +kernel
theorem dX7_blame_10 : decode cX7_blame 10 = .ok (.putfield 18, 3) := by decide +kernel
theorem dX7_blame_13 : decode cX7_blame 13 = .ok (.iconst 0, 1) := by decide +kernel
theorem dX7_blame_14 : decode cX7_blame 14 = .ok (.ireturn, 1) := by decide +kernel
theorem dX7_init_0 : decode cX7_init 0 = .ok (.aload_n 0, 1) := by decide +kernel
theorem dX7_init_1 : decode cX7_init 1 = .ok (.invokespecial 3, 3) := by decide +kernel
theorem dX7_init_4 : decode cX7_init 4 = .ok (.aload_n 0, 1) := by decide +kernel
theorem dX7_init_5 : decode cX7_init 5 = .ok (.new 9, 3) := by decide +kernel
theorem dX7_init_8 : decode cX7_init 8 = .ok (.dup, 1) := by decide +kernel
theorem dX7_init_9 : decode cX7_init 9 = .ok (.invokespecial 11, 3) := by decide +kernel
theorem dX7_init_12 : decode cX7_init 12 = .ok (.putfield 12, 3) := by decide +kernel
theorem dX7_init_15 : decode cX7_init 15 = .ok (.aload_n 0, 1) := by decide +kernel
theorem dX7_init_16 : decode cX7_init 16 = .ok (.iconst (-1), 1) := by decide +kernel
theorem dX7_init_17 : decode cX7_init 17 = .ok (.putfield 18, 3) := by decide +kernel
theorem dX7_init_20 : decode cX7_init 20 = .ok (.aload_n 0, 1) := by decide +kernel
theorem dX7_init_21 : decode cX7_init 21 = .ok (.aload_n 1, 1) := by decide +kernel
theorem dX7_init_22 : decode cX7_init 22 = .ok (.putfield 22, 3) := by decide +kernel
theorem dX7_init_25 : decode cX7_init 25 = .ok (.return_, 1) := by decide +kernel
theorem dX7_isWord_0 : decode cX7_isWord 0 = .ok (.aload_n 0, 1) := by decide +kernel
theorem dX7_isWord_1 : decode cX7_isWord 1 = .ok (.getfield 93, 3) := by decide +kernel
theorem dX7_isWord_4 : decode cX7_isWord 4 = .ok (.iconst 1, 1) := by decide +kernel
theorem dX7_isWord_5 : decode cX7_isWord 5 = .ok (.if_icmp .ne 19, 3) := by decide +kernel
theorem dX7_isWord_24 : decode cX7_isWord 24 = .ok (.iconst 0, 1) := by decide +kernel
theorem dX7_isWord_25 : decode cX7_isWord 25 = .ok (.ireturn, 1) := by decide +kernel
theorem dX7_kindOf_0 : decode cX7_kindOf 0 = .ok (.iload_n 0, 1) := by decide +kernel
theorem dX7_kindOf_1 : decode cX7_kindOf 1 = .ok (.iconst (-1), 1) := by decide +kernel
theorem dX7_kindOf_2 : decode cX7_kindOf 2 = .ok (.if_icmp .ne 5, 3) := by decide +kernel
theorem dX7_kindOf_5 : decode cX7_kindOf 5 = .ok (.iconst 0, 1) := by decide +kernel
theorem dX7_kindOf_6 : decode cX7_kindOf 6 = .ok (.ireturn, 1) := by decide +kernel
theorem dX7_readAll_0 : decode cX7_readAll 0 = .ok (.aload_n 0, 1) := by decide +kernel
theorem dX7_readAll_1 : decode cX7_readAll 1 = .ok (.iconst 0, 1) := by decide +kernel
theorem dX7_readAll_2 : decode cX7_readAll 2 = .ok (.putfield 26, 3) := by decide +kernel
theorem dX7_readAll_5 : decode cX7_readAll 5 = .ok (.aload_n 0, 1) := by decide +kernel
theorem dX7_readAll_6 : decode cX7_readAll 6 = .ok (.iconst (-1), 1) := by decide +kernel
theorem dX7_readAll_7 : decode cX7_readAll 7 = .ok (.putfield 18, 3) := by decide +kernel
theorem dX7_readAll_10 : decode cX7_readAll 10 = .ok (.aload_n 0, 1) := by decide +kernel
theorem dX7_readAll_11 : decode cX7_readAll 11 = .ok (.iconst 0, 1) := by decide +kernel
theorem dX7_readAll_12 : decode cX7_readAll 12 = .ok (.putfield 29, 3) := by decide +kernel
theorem dX7_readAll_15 : decode cX7_readAll 15 = .ok (.aload_n 0, 1) := by decide +kernel
theorem dX7_readAll_16 : decode cX7_readAll 16 = .ok (.invokevirtual 32, 3) := by decide +kernel
theorem dX7_readAll_19 : decode cX7_readAll 19 = .ok (.aload_n 0, 1) := by decide +kernel
theorem dX7_readAll_20 : decode cX7_readAll 20 = .ok (.invokevirtual 35, 3) := by decide +kernel
theorem dX7_readAll_23 : decode cX7_readAll 23 = .ok (.ifCond .eq 21, 3) := by decide +kernel
theorem dX7_readAll_44 : decode cX7_readAll 44 = .ok (.iconst 0, 1) := by decide +kernel
theorem dX7_readAll_45 : decode cX7_readAll 45 = .ok (.ireturn, 1) := by decide +kernel
theorem dX7_readHead_0 : decode cX7_readHead 0 = .ok (.aload_n 0, 1) := by decide +kernel
theorem dX7_readHead_1 : decode cX7_readHead 1 = .ok (.ldc 45, 2) := by decide +kernel
theorem dX7_readHead_3 : decode cX7_readHead 3 = .ok (.invokevirtual 47, 3) := by decide +kernel
theorem dX7_readHead_6 : decode cX7_readHead 6 = .ok (.ifCond .ne 9, 3) := by decide +kernel
theorem dX7_readHead_9 : decode cX7_readHead 9 = .ok (.aload_n 0, 1) := by decide +kernel
theorem dX7_readHead_10 : decode cX7_readHead 10 = .ok (.iconst 1, 1) := by decide +kernel
theorem dX7_readHead_11 : decode cX7_readHead 11 = .ok (.invokevirtual 51, 3) := by decide +kernel
theorem dX7_readHead_14 : decode cX7_readHead 14 = .ok (.ireturn, 1) := by decide +kernel
theorem dX7_step_0 : decode cX7_step 0 = .ok (.aload_n 0, 1) := by decide +kernel
theorem dX7_step_1 : decode cX7_step 1 = .ok (.aload_n 0, 1) := by decide +kernel
theorem dX7_step_2 : decode cX7_step 2 = .ok (.getfield 29, 3) := by decide +kernel
theorem dX7_step_5 : decode cX7_step 5 = .ok (.putfield 101, 3) := by decide +kernel
theorem dX7_step_8 : decode cX7_step 8 = .ok (.aload_n 0, 1) := by decide +kernel
theorem dX7_step_9 : decode cX7_step 9 = .ok (.getfield 101, 3) := by decide +kernel
theorem dX7_step_12 : decode cX7_step 12 = .ok (.aload_n 0, 1) := by decide +kernel
theorem dX7_step_13 : decode cX7_step 13 = .ok (.getfield 22, 3) := by decide +kernel
theorem dX7_step_16 : decode cX7_step 16 = .ok (.getfield 138, 3) := by decide +kernel
theorem dX7_step_19 : decode cX7_step 19 = .ok (.if_icmp .ge 33, 3) := by decide +kernel
theorem dX7_step_52 : decode cX7_step 52 = .ok (.aload_n 0, 1) := by decide +kernel
theorem dX7_step_53 : decode cX7_step 53 = .ok (.aload_n 0, 1) := by decide +kernel
theorem dX7_step_54 : decode cX7_step 54 = .ok (.getfield 22, 3) := by decide +kernel
theorem dX7_step_57 : decode cX7_step 57 = .ok (.aload_n 0, 1) := by decide +kernel
theorem dX7_step_58 : decode cX7_step 58 = .ok (.getfield 101, 3) := by decide +kernel
theorem dX7_step_61 : decode cX7_step 61 = .ok (.invokevirtual 107, 3) := by decide +kernel
theorem dX7_step_64 : decode cX7_step 64 = .ok (.invokestatic 144, 3) := by decide +kernel
theorem dX7_step_67 : decode cX7_step 67 = .ok (.putfield 93, 3) := by decide +kernel
theorem dX7_step_70 : decode cX7_step 70 = .ok (.aload_n 0, 1) := by decide +kernel
theorem dX7_step_71 : decode cX7_step 71 = .ok (.aload_n 0, 1) := by decide +kernel
theorem dX7_step_72 : decode cX7_step 72 = .ok (.getfield 93, 3) := by decide +kernel
theorem dX7_step_75 : decode cX7_step 75 = .ok (.ifCond .ne 10, 3) := by decide +kernel
theorem dX7_step_78 : decode cX7_step 78 = .ok (.aload_n 0, 1) := by decide +kernel
theorem dX7_step_79 : decode cX7_step 79 = .ok (.getfield 101, 3) := by decide +kernel
theorem dX7_step_82 : decode cX7_step 82 = .ok (.goto 9, 3) := by decide +kernel
theorem dX7_step_91 : decode cX7_step 91 = .ok (.putfield 29, 3) := by decide +kernel
theorem dX7_step_94 : decode cX7_step 94 = .ok (.aload_n 0, 1) := by decide +kernel
theorem dX7_step_95 : decode cX7_step 95 = .ok (.getfield 93, 3) := by decide +kernel
theorem dX7_step_98 : decode cX7_step 98 = .ok (.iconst 1, 1) := by decide +kernel
theorem dX7_step_99 : decode cX7_step 99 = .ok (.if_icmp .eq 11, 3) := by decide +kernel
theorem dX7_step_102 : decode cX7_step 102 = .ok (.aload_n 0, 1) := by decide +kernel
theorem dX7_step_103 : decode cX7_step 103 = .ok (.getfield 93, 3) := by decide +kernel
theorem dX7_step_106 : decode cX7_step 106 = .ok (.iconst 2, 1) := by decide +kernel
theorem dX7_step_107 : decode cX7_step 107 = .ok (.if_icmp .ne 51, 3) := by decide +kernel
theorem dX7_step_158 : decode cX7_step 158 = .ok (.return_, 1) := by decide +kernel
theorem dX9_init_0 : decode cX9_init 0 = .ok (.aload_n 0, 1) := by decide +kernel
theorem dX9_init_1 : decode cX9_init 1 = .ok (.invokespecial 3, 3) := by decide +kernel
theorem dX9_init_4 : decode cX9_init 4 = .ok (.aload_n 0, 1) := by decide +kernel
theorem dX9_init_5 : decode cX9_init 5 = .ok (.sipush 4608, 3) := by decide +kernel
theorem dX9_init_8 : decode cX9_init 8 = .ok (.newarray .int, 2) := by decide +kernel
theorem dX9_init_10 : decode cX9_init 10 = .ok (.putfield 11, 3) := by decide +kernel
theorem dX9_init_13 : decode cX9_init 13 = .ok (.aload_n 0, 1) := by decide +kernel
theorem dX9_init_14 : decode cX9_init 14 = .ok (.sipush 4608, 3) := by decide +kernel
theorem dX9_init_17 : decode cX9_init 17 = .ok (.newarray .int, 2) := by decide +kernel
theorem dX9_init_19 : decode cX9_init 19 = .ok (.putfield 15, 3) := by decide +kernel
theorem dX9_init_22 : decode cX9_init 22 = .ok (.aload_n 0, 1) := by decide +kernel
theorem dX9_init_23 : decode cX9_init 23 = .ok (.sipush 4608, 3) := by decide +kernel
theorem dX9_init_26 : decode cX9_init 26 = .ok (.newarray .int, 2) := by decide +kernel
theorem dX9_init_28 : decode cX9_init 28 = .ok (.putfield 18, 3) := by decide +kernel
theorem dX9_init_31 : decode cX9_init 31 = .ok (.aload_n 0, 1) := by decide +kernel
theorem dX9_init_32 : decode cX9_init 32 = .ok (.sipush 512, 3) := by decide +kernel
theorem dX9_init_35 : decode cX9_init 35 = .ok (.newarray .int, 2) := by decide +kernel
theorem dX9_init_37 : decode cX9_init 37 = .ok (.putfield 21, 3) := by decide +kernel
theorem dX9_init_40 : decode cX9_init 40 = .ok (.aload_n 0, 1) := by decide +kernel
theorem dX9_init_41 : decode cX9_init 41 = .ok (.sipush 512, 3) := by decide +kernel
theorem dX9_init_44 : decode cX9_init 44 = .ok (.newarray .int, 2) := by decide +kernel
theorem dX9_init_46 : decode cX9_init 46 = .ok (.putfield 24, 3) := by decide +kernel
theorem dX9_init_49 : decode cX9_init 49 = .ok (.return_, 1) := by decide +kernel
