/-! the law: decode rows -/
theorem dl_0 : decode code 0 = .ok (.new 7, 3) := by decide +kernel
theorem dl_3 : decode code 3 = .ok (.dup, 1) := by decide +kernel
theorem dl_4 : decode code 4 = .ok (.invokespecial 9, 3) := by decide +kernel
theorem dl_7 : decode code 7 = .ok (.astore_n 1, 1) := by decide +kernel
theorem dl_8 : decode code 8 = .ok (.new 10, 3) := by decide +kernel
theorem dl_11 : decode code 11 = .ok (.dup, 1) := by decide +kernel
theorem dl_12 : decode code 12 = .ok (.invokespecial 12, 3) := by decide +kernel
theorem dl_15 : decode code 15 = .ok (.astore_n 2, 1) := by decide +kernel
theorem dl_16 : decode code 16 = .ok (.iconst 0, 1) := by decide +kernel
theorem dl_17 : decode code 17 = .ok (.istore_n 3, 1) := by decide +kernel
theorem dl_18 : decode code 18 = .ok (.iload_n 3, 1) := by decide +kernel
theorem dl_19 : decode code 19 = .ok (.aload_n 0, 1) := by decide +kernel
theorem dl_20 : decode code 20 = .ok (.arraylength, 1) := by decide +kernel
theorem dl_21 : decode code 21 = .ok (.iconst 4, 1) := by decide +kernel
theorem dl_22 : decode code 22 = .ok (.isub, 1) := by decide +kernel
theorem dl_23 : decode code 23 = .ok (.if_icmp .gt 905, 3) := by decide +kernel
theorem dl_26 : decode code 26 = .ok (.aload_n 0, 1) := by decide +kernel
theorem dl_27 : decode code 27 = .ok (.iload_n 3, 1) := by decide +kernel
theorem dl_28 : decode code 28 = .ok (.iaload, 1) := by decide +kernel
theorem dl_29 : decode code 29 = .ok (.bipush 31, 2) := by decide +kernel
theorem dl_31 : decode code 31 = .ok (.iand, 1) := by decide +kernel
theorem dl_32 : decode code 32 = .ok (.tableswitch 890 0 30 #[140, 163, 176, 189, 202, 235, 268, 301, 334, 357, 370, 403, 426, 449, 482, 505, 528, 551, 584, 607, 630, 643, 676, 689, 712, 771, 784, 827, 840, 853, 876], 140) := by decide +kernel
theorem dl_172 : decode code 172 = .ok (.aload_n 1, 1) := by decide +kernel
theorem dl_173 : decode code 173 = .ok (.aload_n 0, 1) := by decide +kernel
theorem dl_174 : decode code 174 = .ok (.iload_n 3, 1) := by decide +kernel
theorem dl_175 : decode code 175 = .ok (.iconst 1, 1) := by decide +kernel
theorem dl_176 : decode code 176 = .ok (.iadd, 1) := by decide +kernel
theorem dl_177 : decode code 177 = .ok (.iaload, 1) := by decide +kernel
theorem dl_178 : decode code 178 = .ok (.invokevirtual 13, 3) := by decide +kernel
theorem dl_181 : decode code 181 = .ok (.aload_n 2, 1) := by decide +kernel
theorem dl_182 : decode code 182 = .ok (.aload_n 0, 1) := by decide +kernel
theorem dl_183 : decode code 183 = .ok (.iload_n 3, 1) := by decide +kernel
theorem dl_184 : decode code 184 = .ok (.iconst 1, 1) := by decide +kernel
theorem dl_185 : decode code 185 = .ok (.iadd, 1) := by decide +kernel
theorem dl_186 : decode code 186 = .ok (.iaload, 1) := by decide +kernel
theorem dl_187 : decode code 187 = .ok (.invokevirtual 17, 3) := by decide +kernel
theorem dl_190 : decode code 190 = .ok (.if_icmp .eq 732, 3) := by decide +kernel
theorem dl_193 : decode code 193 = .ok (.iconst 0, 1) := by decide +kernel
theorem dl_194 : decode code 194 = .ok (.ireturn, 1) := by decide +kernel
theorem dl_195 : decode code 195 = .ok (.aload_n 1, 1) := by decide +kernel
theorem dl_196 : decode code 196 = .ok (.invokevirtual 18, 3) := by decide +kernel
theorem dl_199 : decode code 199 = .ok (.aload_n 2, 1) := by decide +kernel
theorem dl_200 : decode code 200 = .ok (.invokevirtual 22, 3) := by decide +kernel
theorem dl_203 : decode code 203 = .ok (.if_icmp .eq 719, 3) := by decide +kernel
theorem dl_206 : decode code 206 = .ok (.iconst 0, 1) := by decide +kernel
theorem dl_207 : decode code 207 = .ok (.ireturn, 1) := by decide +kernel
theorem dl_208 : decode code 208 = .ok (.aload_n 1, 1) := by decide +kernel
theorem dl_209 : decode code 209 = .ok (.invokevirtual 23, 3) := by decide +kernel
theorem dl_212 : decode code 212 = .ok (.aload_n 2, 1) := by decide +kernel
theorem dl_213 : decode code 213 = .ok (.invokevirtual 26, 3) := by decide +kernel
theorem dl_216 : decode code 216 = .ok (.if_icmp .eq 706, 3) := by decide +kernel
theorem dl_219 : decode code 219 = .ok (.iconst 0, 1) := by decide +kernel
theorem dl_220 : decode code 220 = .ok (.ireturn, 1) := by decide +kernel
theorem dl_221 : decode code 221 = .ok (.aload_n 1, 1) := by decide +kernel
theorem dl_222 : decode code 222 = .ok (.invokevirtual 27, 3) := by decide +kernel
theorem dl_225 : decode code 225 = .ok (.aload_n 2, 1) := by decide +kernel
theorem dl_226 : decode code 226 = .ok (.invokevirtual 30, 3) := by decide +kernel
theorem dl_229 : decode code 229 = .ok (.if_icmp .eq 693, 3) := by decide +kernel
theorem dl_232 : decode code 232 = .ok (.iconst 0, 1) := by decide +kernel
theorem dl_233 : decode code 233 = .ok (.ireturn, 1) := by decide +kernel
theorem dl_234 : decode code 234 = .ok (.aload_n 1, 1) := by decide +kernel
theorem dl_235 : decode code 235 = .ok (.aload_n 0, 1) := by decide +kernel
theorem dl_236 : decode code 236 = .ok (.iload_n 3, 1) := by decide +kernel
theorem dl_237 : decode code 237 = .ok (.iconst 1, 1) := by decide +kernel
theorem dl_238 : decode code 238 = .ok (.iadd, 1) := by decide +kernel
theorem dl_239 : decode code 239 = .ok (.iaload, 1) := by decide +kernel
theorem dl_240 : decode code 240 = .ok (.aload_n 0, 1) := by decide +kernel
theorem dl_241 : decode code 241 = .ok (.iload_n 3, 1) := by decide +kernel
theorem dl_242 : decode code 242 = .ok (.iconst 2, 1) := by decide +kernel
theorem dl_243 : decode code 243 = .ok (.iadd, 1) := by decide +kernel
theorem dl_244 : decode code 244 = .ok (.iaload, 1) := by decide +kernel
theorem dl_245 : decode code 245 = .ok (.invokevirtual 31, 3) := by decide +kernel
theorem dl_248 : decode code 248 = .ok (.aload_n 2, 1) := by decide +kernel
theorem dl_249 : decode code 249 = .ok (.aload_n 0, 1) := by decide +kernel
theorem dl_250 : decode code 250 = .ok (.iload_n 3, 1) := by decide +kernel
theorem dl_251 : decode code 251 = .ok (.iconst 1, 1) := by decide +kernel
theorem dl_252 : decode code 252 = .ok (.iadd, 1) := by decide +kernel
theorem dl_253 : decode code 253 = .ok (.iaload, 1) := by decide +kernel
theorem dl_254 : decode code 254 = .ok (.aload_n 0, 1) := by decide +kernel
theorem dl_255 : decode code 255 = .ok (.iload_n 3, 1) := by decide +kernel
theorem dl_256 : decode code 256 = .ok (.iconst 2, 1) := by decide +kernel
theorem dl_257 : decode code 257 = .ok (.iadd, 1) := by decide +kernel
theorem dl_258 : decode code 258 = .ok (.iaload, 1) := by decide +kernel
theorem dl_259 : decode code 259 = .ok (.invokevirtual 35, 3) := by decide +kernel
theorem dl_262 : decode code 262 = .ok (.if_icmp .eq 660, 3) := by decide +kernel
theorem dl_265 : decode code 265 = .ok (.iconst 0, 1) := by decide +kernel
theorem dl_266 : decode code 266 = .ok (.ireturn, 1) := by decide +kernel
theorem dl_267 : decode code 267 = .ok (.aload_n 1, 1) := by decide +kernel
theorem dl_268 : decode code 268 = .ok (.aload_n 0, 1) := by decide +kernel
theorem dl_269 : decode code 269 = .ok (.iload_n 3, 1) := by decide +kernel
theorem dl_270 : decode code 270 = .ok (.iconst 1, 1) := by decide +kernel
theorem dl_271 : decode code 271 = .ok (.iadd, 1) := by decide +kernel
theorem dl_272 : decode code 272 = .ok (.iaload, 1) := by decide +kernel
theorem dl_273 : decode code 273 = .ok (.aload_n 0, 1) := by decide +kernel
theorem dl_274 : decode code 274 = .ok (.iload_n 3, 1) := by decide +kernel
theorem dl_275 : decode code 275 = .ok (.iconst 2, 1) := by decide +kernel
theorem dl_276 : decode code 276 = .ok (.iadd, 1) := by decide +kernel
theorem dl_277 : decode code 277 = .ok (.iaload, 1) := by decide +kernel
theorem dl_278 : decode code 278 = .ok (.invokevirtual 36, 3) := by decide +kernel
theorem dl_281 : decode code 281 = .ok (.aload_n 2, 1) := by decide +kernel
theorem dl_282 : decode code 282 = .ok (.aload_n 0, 1) := by decide +kernel
theorem dl_283 : decode code 283 = .ok (.iload_n 3, 1) := by decide +kernel
theorem dl_284 : decode code 284 = .ok (.iconst 1, 1) := by decide +kernel
theorem dl_285 : decode code 285 = .ok (.iadd, 1) := by decide +kernel
theorem dl_286 : decode code 286 = .ok (.iaload, 1) := by decide +kernel
theorem dl_287 : decode code 287 = .ok (.aload_n 0, 1) := by decide +kernel
theorem dl_288 : decode code 288 = .ok (.iload_n 3, 1) := by decide +kernel
theorem dl_289 : decode code 289 = .ok (.iconst 2, 1) := by decide +kernel
theorem dl_290 : decode code 290 = .ok (.iadd, 1) := by decide +kernel
theorem dl_291 : decode code 291 = .ok (.iaload, 1) := by decide +kernel
theorem dl_292 : decode code 292 = .ok (.invokevirtual 39, 3) := by decide +kernel
theorem dl_295 : decode code 295 = .ok (.if_icmp .eq 627, 3) := by decide +kernel
theorem dl_298 : decode code 298 = .ok (.iconst 0, 1) := by decide +kernel
theorem dl_299 : decode code 299 = .ok (.ireturn, 1) := by decide +kernel
theorem dl_300 : decode code 300 = .ok (.aload_n 1, 1) := by decide +kernel
theorem dl_301 : decode code 301 = .ok (.aload_n 0, 1) := by decide +kernel
theorem dl_302 : decode code 302 = .ok (.iload_n 3, 1) := by decide +kernel
theorem dl_303 : decode code 303 = .ok (.iconst 1, 1) := by decide +kernel
theorem dl_304 : decode code 304 = .ok (.iadd, 1) := by decide +kernel
theorem dl_305 : decode code 305 = .ok (.iaload, 1) := by decide +kernel
theorem dl_306 : decode code 306 = .ok (.aload_n 0, 1) := by decide +kernel
theorem dl_307 : decode code 307 = .ok (.iload_n 3, 1) := by decide +kernel
theorem dl_308 : decode code 308 = .ok (.iconst 2, 1) := by decide +kernel
theorem dl_309 : decode code 309 = .ok (.iadd, 1) := by decide +kernel
theorem dl_310 : decode code 310 = .ok (.iaload, 1) := by decide +kernel
theorem dl_311 : decode code 311 = .ok (.invokevirtual 40, 3) := by decide +kernel
theorem dl_314 : decode code 314 = .ok (.aload_n 2, 1) := by decide +kernel
theorem dl_315 : decode code 315 = .ok (.aload_n 0, 1) := by decide +kernel
theorem dl_316 : decode code 316 = .ok (.iload_n 3, 1) := by decide +kernel
theorem dl_317 : decode code 317 = .ok (.iconst 1, 1) := by decide +kernel
theorem dl_318 : decode code 318 = .ok (.iadd, 1) := by decide +kernel
theorem dl_319 : decode code 319 = .ok (.iaload, 1) := by decide +kernel
theorem dl_320 : decode code 320 = .ok (.aload_n 0, 1) := by decide +kernel
theorem dl_321 : decode code 321 = .ok (.iload_n 3, 1) := by decide +kernel
theorem dl_322 : decode code 322 = .ok (.iconst 2, 1) := by decide +kernel
theorem dl_323 : decode code 323 = .ok (.iadd, 1) := by decide +kernel
theorem dl_324 : decode code 324 = .ok (.iaload, 1) := by decide +kernel
theorem dl_325 : decode code 325 = .ok (.invokevirtual 43, 3) := by decide +kernel
theorem dl_328 : decode code 328 = .ok (.if_icmp .eq 594, 3) := by decide +kernel
theorem dl_331 : decode code 331 = .ok (.iconst 0, 1) := by decide +kernel
theorem dl_332 : decode code 332 = .ok (.ireturn, 1) := by decide +kernel
theorem dl_333 : decode code 333 = .ok (.aload_n 1, 1) := by decide +kernel
theorem dl_334 : decode code 334 = .ok (.aload_n 0, 1) := by decide +kernel
theorem dl_335 : decode code 335 = .ok (.iload_n 3, 1) := by decide +kernel
theorem dl_336 : decode code 336 = .ok (.iconst 1, 1) := by decide +kernel
theorem dl_337 : decode code 337 = .ok (.iadd, 1) := by decide +kernel
theorem dl_338 : decode code 338 = .ok (.iaload, 1) := by decide +kernel
theorem dl_339 : decode code 339 = .ok (.aload_n 0, 1) := by decide +kernel
theorem dl_340 : decode code 340 = .ok (.iload_n 3, 1) := by decide +kernel
theorem dl_341 : decode code 341 = .ok (.iconst 2, 1) := by decide +kernel
theorem dl_342 : decode code 342 = .ok (.iadd, 1) := by decide +kernel
theorem dl_343 : decode code 343 = .ok (.iaload, 1) := by decide +kernel
theorem dl_344 : decode code 344 = .ok (.invokevirtual 44, 3) := by decide +kernel
theorem dl_347 : decode code 347 = .ok (.aload_n 2, 1) := by decide +kernel
theorem dl_348 : decode code 348 = .ok (.aload_n 0, 1) := by decide +kernel
theorem dl_349 : decode code 349 = .ok (.iload_n 3, 1) := by decide +kernel
theorem dl_350 : decode code 350 = .ok (.iconst 1, 1) := by decide +kernel
theorem dl_351 : decode code 351 = .ok (.iadd, 1) := by decide +kernel
theorem dl_352 : decode code 352 = .ok (.iaload, 1) := by decide +kernel
theorem dl_353 : decode code 353 = .ok (.aload_n 0, 1) := by decide +kernel
theorem dl_354 : decode code 354 = .ok (.iload_n 3, 1) := by decide +kernel
theorem dl_355 : decode code 355 = .ok (.iconst 2, 1) := by decide +kernel
theorem dl_356 : decode code 356 = .ok (.iadd, 1) := by decide +kernel
theorem dl_357 : decode code 357 = .ok (.iaload, 1) := by decide +kernel
theorem dl_358 : decode code 358 = .ok (.invokevirtual 47, 3) := by decide +kernel
theorem dl_361 : decode code 361 = .ok (.if_icmp .eq 561, 3) := by decide +kernel
theorem dl_364 : decode code 364 = .ok (.iconst 0, 1) := by decide +kernel
theorem dl_365 : decode code 365 = .ok (.ireturn, 1) := by decide +kernel
theorem dl_366 : decode code 366 = .ok (.aload_n 1, 1) := by decide +kernel
theorem dl_367 : decode code 367 = .ok (.aload_n 0, 1) := by decide +kernel
theorem dl_368 : decode code 368 = .ok (.iload_n 3, 1) := by decide +kernel
theorem dl_369 : decode code 369 = .ok (.iconst 1, 1) := by decide +kernel
theorem dl_370 : decode code 370 = .ok (.iadd, 1) := by decide +kernel
theorem dl_371 : decode code 371 = .ok (.iaload, 1) := by decide +kernel
theorem dl_372 : decode code 372 = .ok (.invokevirtual 48, 3) := by decide +kernel
theorem dl_375 : decode code 375 = .ok (.aload_n 2, 1) := by decide +kernel
theorem dl_376 : decode code 376 = .ok (.aload_n 0, 1) := by decide +kernel
theorem dl_377 : decode code 377 = .ok (.iload_n 3, 1) := by decide +kernel
theorem dl_378 : decode code 378 = .ok (.iconst 1, 1) := by decide +kernel
theorem dl_379 : decode code 379 = .ok (.iadd, 1) := by decide +kernel
theorem dl_380 : decode code 380 = .ok (.iaload, 1) := by decide +kernel
theorem dl_381 : decode code 381 = .ok (.invokevirtual 51, 3) := by decide +kernel
theorem dl_384 : decode code 384 = .ok (.if_icmp .eq 538, 3) := by decide +kernel
theorem dl_387 : decode code 387 = .ok (.iconst 0, 1) := by decide +kernel
theorem dl_388 : decode code 388 = .ok (.ireturn, 1) := by decide +kernel
theorem dl_389 : decode code 389 = .ok (.aload_n 1, 1) := by decide +kernel
theorem dl_390 : decode code 390 = .ok (.invokevirtual 52, 3) := by decide +kernel
theorem dl_393 : decode code 393 = .ok (.aload_n 2, 1) := by decide +kernel
theorem dl_394 : decode code 394 = .ok (.invokevirtual 55, 3) := by decide +kernel
theorem dl_397 : decode code 397 = .ok (.if_icmp .eq 525, 3) := by decide +kernel
theorem dl_400 : decode code 400 = .ok (.iconst 0, 1) := by decide +kernel
theorem dl_401 : decode code 401 = .ok (.ireturn, 1) := by decide +kernel
theorem dl_402 : decode code 402 = .ok (.aload_n 1, 1) := by decide +kernel
theorem dl_403 : decode code 403 = .ok (.aload_n 0, 1) := by decide +kernel
theorem dl_404 : decode code 404 = .ok (.iload_n 3, 1) := by decide +kernel
theorem dl_405 : decode code 405 = .ok (.iconst 1, 1) := by decide +kernel
theorem dl_406 : decode code 406 = .ok (.iadd, 1) := by decide +kernel
theorem dl_407 : decode code 407 = .ok (.iaload, 1) := by decide +kernel
theorem dl_408 : decode code 408 = .ok (.aload_n 0, 1) := by decide +kernel
theorem dl_409 : decode code 409 = .ok (.iload_n 3, 1) := by decide +kernel
theorem dl_410 : decode code 410 = .ok (.iconst 2, 1) := by decide +kernel
theorem dl_411 : decode code 411 = .ok (.iadd, 1) := by decide +kernel
theorem dl_412 : decode code 412 = .ok (.iaload, 1) := by decide +kernel
theorem dl_413 : decode code 413 = .ok (.invokevirtual 56, 3) := by decide +kernel
theorem dl_416 : decode code 416 = .ok (.aload_n 2, 1) := by decide +kernel
theorem dl_417 : decode code 417 = .ok (.aload_n 0, 1) := by decide +kernel
theorem dl_418 : decode code 418 = .ok (.iload_n 3, 1) := by decide +kernel
theorem dl_419 : decode code 419 = .ok (.iconst 1, 1) := by decide +kernel
theorem dl_420 : decode code 420 = .ok (.iadd, 1) := by decide +kernel
theorem dl_421 : decode code 421 = .ok (.iaload, 1) := by decide +kernel
theorem dl_422 : decode code 422 = .ok (.aload_n 0, 1) := by decide +kernel
theorem dl_423 : decode code 423 = .ok (.iload_n 3, 1) := by decide +kernel
theorem dl_424 : decode code 424 = .ok (.iconst 2, 1) := by decide +kernel
theorem dl_425 : decode code 425 = .ok (.iadd, 1) := by decide +kernel
theorem dl_426 : decode code 426 = .ok (.iaload, 1) := by decide +kernel
theorem dl_427 : decode code 427 = .ok (.invokevirtual 59, 3) := by decide +kernel
theorem dl_430 : decode code 430 = .ok (.if_icmp .eq 492, 3) := by decide +kernel
theorem dl_433 : decode code 433 = .ok (.iconst 0, 1) := by decide +kernel
theorem dl_434 : decode code 434 = .ok (.ireturn, 1) := by decide +kernel
theorem dl_435 : decode code 435 = .ok (.aload_n 1, 1) := by decide +kernel
theorem dl_436 : decode code 436 = .ok (.aload_n 0, 1) := by decide +kernel
theorem dl_437 : decode code 437 = .ok (.iload_n 3, 1) := by decide +kernel
theorem dl_438 : decode code 438 = .ok (.iconst 1, 1) := by decide +kernel
theorem dl_439 : decode code 439 = .ok (.iadd, 1) := by decide +kernel
theorem dl_440 : decode code 440 = .ok (.iaload, 1) := by decide +kernel
theorem dl_441 : decode code 441 = .ok (.invokevirtual 60, 3) := by decide +kernel
theorem dl_444 : decode code 444 = .ok (.aload_n 2, 1) := by decide +kernel
theorem dl_445 : decode code 445 = .ok (.aload_n 0, 1) := by decide +kernel
theorem dl_446 : decode code 446 = .ok (.iload_n 3, 1) := by decide +kernel
theorem dl_447 : decode code 447 = .ok (.iconst 1, 1) := by decide +kernel
theorem dl_448 : decode code 448 = .ok (.iadd, 1) := by decide +kernel
theorem dl_449 : decode code 449 = .ok (.iaload, 1) := by decide +kernel
theorem dl_450 : decode code 450 = .ok (.invokevirtual 63, 3) := by decide +kernel
theorem dl_453 : decode code 453 = .ok (.if_icmp .eq 469, 3) := by decide +kernel
theorem dl_456 : decode code 456 = .ok (.iconst 0, 1) := by decide +kernel
theorem dl_457 : decode code 457 = .ok (.ireturn, 1) := by decide +kernel
theorem dl_458 : decode code 458 = .ok (.aload_n 1, 1) := by decide +kernel
theorem dl_459 : decode code 459 = .ok (.aload_n 0, 1) := by decide +kernel
theorem dl_460 : decode code 460 = .ok (.iload_n 3, 1) := by decide +kernel
theorem dl_461 : decode code 461 = .ok (.iconst 1, 1) := by decide +kernel
theorem dl_462 : decode code 462 = .ok (.iadd, 1) := by decide +kernel
theorem dl_463 : decode code 463 = .ok (.iaload, 1) := by decide +kernel
theorem dl_464 : decode code 464 = .ok (.invokevirtual 64, 3) := by decide +kernel
theorem dl_467 : decode code 467 = .ok (.aload_n 2, 1) := by decide +kernel
theorem dl_468 : decode code 468 = .ok (.aload_n 0, 1) := by decide +kernel
theorem dl_469 : decode code 469 = .ok (.iload_n 3, 1) := by decide +kernel
theorem dl_470 : decode code 470 = .ok (.iconst 1, 1) := by decide +kernel
theorem dl_471 : decode code 471 = .ok (.iadd, 1) := by decide +kernel
theorem dl_472 : decode code 472 = .ok (.iaload, 1) := by decide +kernel
theorem dl_473 : decode code 473 = .ok (.invokevirtual 67, 3) := by decide +kernel
theorem dl_476 : decode code 476 = .ok (.if_icmp .eq 446, 3) := by decide +kernel
theorem dl_479 : decode code 479 = .ok (.iconst 0, 1) := by decide +kernel
theorem dl_480 : decode code 480 = .ok (.ireturn, 1) := by decide +kernel
theorem dl_481 : decode code 481 = .ok (.aload_n 1, 1) := by decide +kernel
theorem dl_482 : decode code 482 = .ok (.aload_n 0, 1) := by decide +kernel
theorem dl_483 : decode code 483 = .ok (.iload_n 3, 1) := by decide +kernel
theorem dl_484 : decode code 484 = .ok (.iconst 1, 1) := by decide +kernel
theorem dl_485 : decode code 485 = .ok (.iadd, 1) := by decide +kernel
theorem dl_486 : decode code 486 = .ok (.iaload, 1) := by decide +kernel
theorem dl_487 : decode code 487 = .ok (.aload_n 0, 1) := by decide +kernel
theorem dl_488 : decode code 488 = .ok (.iload_n 3, 1) := by decide +kernel
theorem dl_489 : decode code 489 = .ok (.iconst 2, 1) := by decide +kernel
theorem dl_490 : decode code 490 = .ok (.iadd, 1) := by decide +kernel
theorem dl_491 : decode code 491 = .ok (.iaload, 1) := by decide +kernel
theorem dl_492 : decode code 492 = .ok (.invokevirtual 68, 3) := by decide +kernel
theorem dl_495 : decode code 495 = .ok (.aload_n 2, 1) := by decide +kernel
theorem dl_496 : decode code 496 = .ok (.aload_n 0, 1) := by decide +kernel
theorem dl_497 : decode code 497 = .ok (.iload_n 3, 1) := by decide +kernel
theorem dl_498 : decode code 498 = .ok (.iconst 1, 1) := by decide +kernel
theorem dl_499 : decode code 499 = .ok (.iadd, 1) := by decide +kernel
theorem dl_500 : decode code 500 = .ok (.iaload, 1) := by decide +kernel
theorem dl_501 : decode code 501 = .ok (.aload_n 0, 1) := by decide +kernel
theorem dl_502 : decode code 502 = .ok (.iload_n 3, 1) := by decide +kernel
theorem dl_503 : decode code 503 = .ok (.iconst 2, 1) := by decide +kernel
theorem dl_504 : decode code 504 = .ok (.iadd, 1) := by decide +kernel
theorem dl_505 : decode code 505 = .ok (.iaload, 1) := by decide +kernel
theorem dl_506 : decode code 506 = .ok (.invokevirtual 71, 3) := by decide +kernel
theorem dl_509 : decode code 509 = .ok (.if_icmp .eq 413, 3) := by decide +kernel
theorem dl_512 : decode code 512 = .ok (.iconst 0, 1) := by decide +kernel
theorem dl_513 : decode code 513 = .ok (.ireturn, 1) := by decide +kernel
theorem dl_514 : decode code 514 = .ok (.aload_n 1, 1) := by decide +kernel
theorem dl_515 : decode code 515 = .ok (.aload_n 0, 1) := by decide +kernel
theorem dl_516 : decode code 516 = .ok (.iload_n 3, 1) := by decide +kernel
theorem dl_517 : decode code 517 = .ok (.iconst 1, 1) := by decide +kernel
theorem dl_518 : decode code 518 = .ok (.iadd, 1) := by decide +kernel
theorem dl_519 : decode code 519 = .ok (.iaload, 1) := by decide +kernel
theorem dl_520 : decode code 520 = .ok (.invokevirtual 72, 3) := by decide +kernel
theorem dl_523 : decode code 523 = .ok (.aload_n 2, 1) := by decide +kernel
theorem dl_524 : decode code 524 = .ok (.aload_n 0, 1) := by decide +kernel
theorem dl_525 : decode code 525 = .ok (.iload_n 3, 1) := by decide +kernel
theorem dl_526 : decode code 526 = .ok (.iconst 1, 1) := by decide +kernel
theorem dl_527 : decode code 527 = .ok (.iadd, 1) := by decide +kernel
theorem dl_528 : decode code 528 = .ok (.iaload, 1) := by decide +kernel
theorem dl_529 : decode code 529 = .ok (.invokevirtual 75, 3) := by decide +kernel
theorem dl_532 : decode code 532 = .ok (.if_icmp .eq 390, 3) := by decide +kernel
theorem dl_535 : decode code 535 = .ok (.iconst 0, 1) := by decide +kernel
theorem dl_536 : decode code 536 = .ok (.ireturn, 1) := by decide +kernel
theorem dl_537 : decode code 537 = .ok (.aload_n 1, 1) := by decide +kernel
theorem dl_538 : decode code 538 = .ok (.aload_n 0, 1) := by decide +kernel
theorem dl_539 : decode code 539 = .ok (.iload_n 3, 1) := by decide +kernel
theorem dl_540 : decode code 540 = .ok (.iconst 1, 1) := by decide +kernel
theorem dl_541 : decode code 541 = .ok (.iadd, 1) := by decide +kernel
theorem dl_542 : decode code 542 = .ok (.iaload, 1) := by decide +kernel
theorem dl_543 : decode code 543 = .ok (.invokevirtual 76, 3) := by decide +kernel
theorem dl_546 : decode code 546 = .ok (.aload_n 2, 1) := by decide +kernel
theorem dl_547 : decode code 547 = .ok (.aload_n 0, 1) := by decide +kernel
theorem dl_548 : decode code 548 = .ok (.iload_n 3, 1) := by decide +kernel
theorem dl_549 : decode code 549 = .ok (.iconst 1, 1) := by decide +kernel
theorem dl_550 : decode code 550 = .ok (.iadd, 1) := by decide +kernel
theorem dl_551 : decode code 551 = .ok (.iaload, 1) := by decide +kernel
theorem dl_552 : decode code 552 = .ok (.invokevirtual 79, 3) := by decide +kernel
theorem dl_555 : decode code 555 = .ok (.if_icmp .eq 367, 3) := by decide +kernel
theorem dl_558 : decode code 558 = .ok (.iconst 0, 1) := by decide +kernel
theorem dl_559 : decode code 559 = .ok (.ireturn, 1) := by decide +kernel
theorem dl_560 : decode code 560 = .ok (.aload_n 1, 1) := by decide +kernel
theorem dl_561 : decode code 561 = .ok (.aload_n 0, 1) := by decide +kernel
theorem dl_562 : decode code 562 = .ok (.iload_n 3, 1) := by decide +kernel
theorem dl_563 : decode code 563 = .ok (.iconst 1, 1) := by decide +kernel
theorem dl_564 : decode code 564 = .ok (.iadd, 1) := by decide +kernel
theorem dl_565 : decode code 565 = .ok (.iaload, 1) := by decide +kernel
theorem dl_566 : decode code 566 = .ok (.invokevirtual 80, 3) := by decide +kernel
theorem dl_569 : decode code 569 = .ok (.aload_n 2, 1) := by decide +kernel
theorem dl_570 : decode code 570 = .ok (.aload_n 0, 1) := by decide +kernel
theorem dl_571 : decode code 571 = .ok (.iload_n 3, 1) := by decide +kernel
theorem dl_572 : decode code 572 = .ok (.iconst 1, 1) := by decide +kernel
theorem dl_573 : decode code 573 = .ok (.iadd, 1) := by decide +kernel
theorem dl_574 : decode code 574 = .ok (.iaload, 1) := by decide +kernel
theorem dl_575 : decode code 575 = .ok (.invokevirtual 83, 3) := by decide +kernel
theorem dl_578 : decode code 578 = .ok (.if_icmp .eq 344, 3) := by decide +kernel
theorem dl_581 : decode code 581 = .ok (.iconst 0, 1) := by decide +kernel
theorem dl_582 : decode code 582 = .ok (.ireturn, 1) := by decide +kernel
theorem dl_583 : decode code 583 = .ok (.aload_n 1, 1) := by decide +kernel
theorem dl_584 : decode code 584 = .ok (.aload_n 0, 1) := by decide +kernel
theorem dl_585 : decode code 585 = .ok (.iload_n 3, 1) := by decide +kernel
theorem dl_586 : decode code 586 = .ok (.iconst 1, 1) := by decide +kernel
theorem dl_587 : decode code 587 = .ok (.iadd, 1) := by decide +kernel
theorem dl_588 : decode code 588 = .ok (.iaload, 1) := by decide +kernel
theorem dl_589 : decode code 589 = .ok (.aload_n 0, 1) := by decide +kernel
theorem dl_590 : decode code 590 = .ok (.iload_n 3, 1) := by decide +kernel
theorem dl_591 : decode code 591 = .ok (.iconst 2, 1) := by decide +kernel
theorem dl_592 : decode code 592 = .ok (.iadd, 1) := by decide +kernel
theorem dl_593 : decode code 593 = .ok (.iaload, 1) := by decide +kernel
theorem dl_594 : decode code 594 = .ok (.invokevirtual 84, 3) := by decide +kernel
theorem dl_597 : decode code 597 = .ok (.aload_n 2, 1) := by decide +kernel
theorem dl_598 : decode code 598 = .ok (.aload_n 0, 1) := by decide +kernel
theorem dl_599 : decode code 599 = .ok (.iload_n 3, 1) := by decide +kernel
theorem dl_600 : decode code 600 = .ok (.iconst 1, 1) := by decide +kernel
theorem dl_601 : decode code 601 = .ok (.iadd, 1) := by decide +kernel
theorem dl_602 : decode code 602 = .ok (.iaload, 1) := by decide +kernel
theorem dl_603 : decode code 603 = .ok (.aload_n 0, 1) := by decide +kernel
theorem dl_604 : decode code 604 = .ok (.iload_n 3, 1) := by decide +kernel
theorem dl_605 : decode code 605 = .ok (.iconst 2, 1) := by decide +kernel
theorem dl_606 : decode code 606 = .ok (.iadd, 1) := by decide +kernel
theorem dl_607 : decode code 607 = .ok (.iaload, 1) := by decide +kernel
theorem dl_608 : decode code 608 = .ok (.invokevirtual 87, 3) := by decide +kernel
theorem dl_611 : decode code 611 = .ok (.if_icmp .eq 311, 3) := by decide +kernel
theorem dl_614 : decode code 614 = .ok (.iconst 0, 1) := by decide +kernel
theorem dl_615 : decode code 615 = .ok (.ireturn, 1) := by decide +kernel
theorem dl_616 : decode code 616 = .ok (.aload_n 1, 1) := by decide +kernel
theorem dl_617 : decode code 617 = .ok (.aload_n 0, 1) := by decide +kernel
theorem dl_618 : decode code 618 = .ok (.iload_n 3, 1) := by decide +kernel
theorem dl_619 : decode code 619 = .ok (.iconst 1, 1) := by decide +kernel
theorem dl_620 : decode code 620 = .ok (.iadd, 1) := by decide +kernel
theorem dl_621 : decode code 621 = .ok (.iaload, 1) := by decide +kernel
theorem dl_622 : decode code 622 = .ok (.invokevirtual 88, 3) := by decide +kernel
theorem dl_625 : decode code 625 = .ok (.aload_n 2, 1) := by decide +kernel
theorem dl_626 : decode code 626 = .ok (.aload_n 0, 1) := by decide +kernel
theorem dl_627 : decode code 627 = .ok (.iload_n 3, 1) := by decide +kernel
theorem dl_628 : decode code 628 = .ok (.iconst 1, 1) := by decide +kernel
theorem dl_629 : decode code 629 = .ok (.iadd, 1) := by decide +kernel
theorem dl_630 : decode code 630 = .ok (.iaload, 1) := by decide +kernel
theorem dl_631 : decode code 631 = .ok (.invokevirtual 91, 3) := by decide +kernel
theorem dl_634 : decode code 634 = .ok (.if_icmp .eq 288, 3) := by decide +kernel
theorem dl_637 : decode code 637 = .ok (.iconst 0, 1) := by decide +kernel
theorem dl_638 : decode code 638 = .ok (.ireturn, 1) := by decide +kernel
theorem dl_639 : decode code 639 = .ok (.aload_n 1, 1) := by decide +kernel
theorem dl_640 : decode code 640 = .ok (.aload_n 0, 1) := by decide +kernel
theorem dl_641 : decode code 641 = .ok (.iload_n 3, 1) := by decide +kernel
theorem dl_642 : decode code 642 = .ok (.iconst 1, 1) := by decide +kernel
theorem dl_643 : decode code 643 = .ok (.iadd, 1) := by decide +kernel
theorem dl_644 : decode code 644 = .ok (.iaload, 1) := by decide +kernel
theorem dl_645 : decode code 645 = .ok (.invokevirtual 92, 3) := by decide +kernel
theorem dl_648 : decode code 648 = .ok (.aload_n 2, 1) := by decide +kernel
theorem dl_649 : decode code 649 = .ok (.aload_n 0, 1) := by decide +kernel
theorem dl_650 : decode code 650 = .ok (.iload_n 3, 1) := by decide +kernel
theorem dl_651 : decode code 651 = .ok (.iconst 1, 1) := by decide +kernel
theorem dl_652 : decode code 652 = .ok (.iadd, 1) := by decide +kernel
theorem dl_653 : decode code 653 = .ok (.iaload, 1) := by decide +kernel
theorem dl_654 : decode code 654 = .ok (.invokevirtual 95, 3) := by decide +kernel
theorem dl_657 : decode code 657 = .ok (.if_icmp .eq 265, 3) := by decide +kernel
theorem dl_660 : decode code 660 = .ok (.iconst 0, 1) := by decide +kernel
theorem dl_661 : decode code 661 = .ok (.ireturn, 1) := by decide +kernel
theorem dl_662 : decode code 662 = .ok (.aload_n 1, 1) := by decide +kernel
theorem dl_663 : decode code 663 = .ok (.invokevirtual 96, 3) := by decide +kernel
theorem dl_666 : decode code 666 = .ok (.aload_n 2, 1) := by decide +kernel
theorem dl_667 : decode code 667 = .ok (.invokevirtual 99, 3) := by decide +kernel
theorem dl_670 : decode code 670 = .ok (.if_icmp .eq 252, 3) := by decide +kernel
theorem dl_673 : decode code 673 = .ok (.iconst 0, 1) := by decide +kernel
theorem dl_674 : decode code 674 = .ok (.ireturn, 1) := by decide +kernel
theorem dl_675 : decode code 675 = .ok (.aload_n 1, 1) := by decide +kernel
theorem dl_676 : decode code 676 = .ok (.aload_n 0, 1) := by decide +kernel
theorem dl_677 : decode code 677 = .ok (.iload_n 3, 1) := by decide +kernel
theorem dl_678 : decode code 678 = .ok (.iconst 1, 1) := by decide +kernel
theorem dl_679 : decode code 679 = .ok (.iadd, 1) := by decide +kernel
theorem dl_680 : decode code 680 = .ok (.iaload, 1) := by decide +kernel
theorem dl_681 : decode code 681 = .ok (.aload_n 0, 1) := by decide +kernel
theorem dl_682 : decode code 682 = .ok (.iload_n 3, 1) := by decide +kernel
theorem dl_683 : decode code 683 = .ok (.iconst 2, 1) := by decide +kernel
theorem dl_684 : decode code 684 = .ok (.iadd, 1) := by decide +kernel
theorem dl_685 : decode code 685 = .ok (.iaload, 1) := by decide +kernel
theorem dl_686 : decode code 686 = .ok (.invokevirtual 100, 3) := by decide +kernel
theorem dl_689 : decode code 689 = .ok (.aload_n 2, 1) := by decide +kernel
theorem dl_690 : decode code 690 = .ok (.aload_n 0, 1) := by decide +kernel
theorem dl_691 : decode code 691 = .ok (.iload_n 3, 1) := by decide +kernel
theorem dl_692 : decode code 692 = .ok (.iconst 1, 1) := by decide +kernel
theorem dl_693 : decode code 693 = .ok (.iadd, 1) := by decide +kernel
theorem dl_694 : decode code 694 = .ok (.iaload, 1) := by decide +kernel
theorem dl_695 : decode code 695 = .ok (.aload_n 0, 1) := by decide +kernel
theorem dl_696 : decode code 696 = .ok (.iload_n 3, 1) := by decide +kernel
theorem dl_697 : decode code 697 = .ok (.iconst 2, 1) := by decide +kernel
theorem dl_698 : decode code 698 = .ok (.iadd, 1) := by decide +kernel
theorem dl_699 : decode code 699 = .ok (.iaload, 1) := by decide +kernel
theorem dl_700 : decode code 700 = .ok (.invokevirtual 103, 3) := by decide +kernel
theorem dl_703 : decode code 703 = .ok (.if_icmp .eq 219, 3) := by decide +kernel
theorem dl_706 : decode code 706 = .ok (.iconst 0, 1) := by decide +kernel
theorem dl_707 : decode code 707 = .ok (.ireturn, 1) := by decide +kernel
theorem dl_708 : decode code 708 = .ok (.aload_n 1, 1) := by decide +kernel
theorem dl_709 : decode code 709 = .ok (.invokevirtual 104, 3) := by decide +kernel
theorem dl_712 : decode code 712 = .ok (.aload_n 2, 1) := by decide +kernel
theorem dl_713 : decode code 713 = .ok (.invokevirtual 107, 3) := by decide +kernel
theorem dl_716 : decode code 716 = .ok (.if_icmp .eq 206, 3) := by decide +kernel
theorem dl_719 : decode code 719 = .ok (.iconst 0, 1) := by decide +kernel
theorem dl_720 : decode code 720 = .ok (.ireturn, 1) := by decide +kernel
theorem dl_721 : decode code 721 = .ok (.aload_n 1, 1) := by decide +kernel
theorem dl_722 : decode code 722 = .ok (.aload_n 0, 1) := by decide +kernel
theorem dl_723 : decode code 723 = .ok (.iload_n 3, 1) := by decide +kernel
theorem dl_724 : decode code 724 = .ok (.iconst 1, 1) := by decide +kernel
theorem dl_725 : decode code 725 = .ok (.iadd, 1) := by decide +kernel
theorem dl_726 : decode code 726 = .ok (.iaload, 1) := by decide +kernel
theorem dl_727 : decode code 727 = .ok (.invokevirtual 108, 3) := by decide +kernel
theorem dl_730 : decode code 730 = .ok (.aload_n 2, 1) := by decide +kernel
theorem dl_731 : decode code 731 = .ok (.aload_n 0, 1) := by decide +kernel
theorem dl_732 : decode code 732 = .ok (.iload_n 3, 1) := by decide +kernel
theorem dl_733 : decode code 733 = .ok (.iconst 1, 1) := by decide +kernel
theorem dl_734 : decode code 734 = .ok (.iadd, 1) := by decide +kernel
theorem dl_735 : decode code 735 = .ok (.iaload, 1) := by decide +kernel
theorem dl_736 : decode code 736 = .ok (.invokevirtual 111, 3) := by decide +kernel
theorem dl_739 : decode code 739 = .ok (.if_icmp .eq 183, 3) := by decide +kernel
theorem dl_742 : decode code 742 = .ok (.iconst 0, 1) := by decide +kernel
theorem dl_743 : decode code 743 = .ok (.ireturn, 1) := by decide +kernel
theorem dl_744 : decode code 744 = .ok (.aload_n 1, 1) := by decide +kernel
theorem dl_745 : decode code 745 = .ok (.aload_n 0, 1) := by decide +kernel
theorem dl_746 : decode code 746 = .ok (.iload_n 3, 1) := by decide +kernel
theorem dl_747 : decode code 747 = .ok (.iconst 1, 1) := by decide +kernel
theorem dl_748 : decode code 748 = .ok (.iadd, 1) := by decide +kernel
theorem dl_749 : decode code 749 = .ok (.iaload, 1) := by decide +kernel
theorem dl_750 : decode code 750 = .ok (.aload_n 0, 1) := by decide +kernel
theorem dl_751 : decode code 751 = .ok (.iload_n 3, 1) := by decide +kernel
theorem dl_752 : decode code 752 = .ok (.iconst 2, 1) := by decide +kernel
theorem dl_753 : decode code 753 = .ok (.iadd, 1) := by decide +kernel
theorem dl_754 : decode code 754 = .ok (.iaload, 1) := by decide +kernel
theorem dl_755 : decode code 755 = .ok (.aload_n 0, 1) := by decide +kernel
theorem dl_756 : decode code 756 = .ok (.iload_n 3, 1) := by decide +kernel
theorem dl_757 : decode code 757 = .ok (.iconst 3, 1) := by decide +kernel
theorem dl_758 : decode code 758 = .ok (.iadd, 1) := by decide +kernel
theorem dl_759 : decode code 759 = .ok (.iaload, 1) := by decide +kernel
theorem dl_760 : decode code 760 = .ok (.ifCond .eq 7, 3) := by decide +kernel
theorem dl_763 : decode code 763 = .ok (.iconst 1, 1) := by decide +kernel
theorem dl_764 : decode code 764 = .ok (.goto 4, 3) := by decide +kernel
theorem dl_767 : decode code 767 = .ok (.iconst 0, 1) := by decide +kernel
theorem dl_768 : decode code 768 = .ok (.invokevirtual 112, 3) := by decide +kernel
theorem dl_771 : decode code 771 = .ok (.aload_n 2, 1) := by decide +kernel
theorem dl_772 : decode code 772 = .ok (.aload_n 0, 1) := by decide +kernel
theorem dl_773 : decode code 773 = .ok (.iload_n 3, 1) := by decide +kernel
theorem dl_774 : decode code 774 = .ok (.iconst 1, 1) := by decide +kernel
theorem dl_775 : decode code 775 = .ok (.iadd, 1) := by decide +kernel
theorem dl_776 : decode code 776 = .ok (.iaload, 1) := by decide +kernel
theorem dl_777 : decode code 777 = .ok (.aload_n 0, 1) := by decide +kernel
theorem dl_778 : decode code 778 = .ok (.iload_n 3, 1) := by decide +kernel
theorem dl_779 : decode code 779 = .ok (.iconst 2, 1) := by decide +kernel
theorem dl_780 : decode code 780 = .ok (.iadd, 1) := by decide +kernel
theorem dl_781 : decode code 781 = .ok (.iaload, 1) := by decide +kernel
theorem dl_782 : decode code 782 = .ok (.aload_n 0, 1) := by decide +kernel
theorem dl_783 : decode code 783 = .ok (.iload_n 3, 1) := by decide +kernel
theorem dl_784 : decode code 784 = .ok (.iconst 3, 1) := by decide +kernel
theorem dl_785 : decode code 785 = .ok (.iadd, 1) := by decide +kernel
theorem dl_786 : decode code 786 = .ok (.iaload, 1) := by decide +kernel
theorem dl_787 : decode code 787 = .ok (.ifCond .eq 7, 3) := by decide +kernel
theorem dl_790 : decode code 790 = .ok (.iconst 1, 1) := by decide +kernel
theorem dl_791 : decode code 791 = .ok (.goto 4, 3) := by decide +kernel
theorem dl_794 : decode code 794 = .ok (.iconst 0, 1) := by decide +kernel
theorem dl_795 : decode code 795 = .ok (.invokevirtual 116, 3) := by decide +kernel
theorem dl_798 : decode code 798 = .ok (.if_icmp .eq 124, 3) := by decide +kernel
theorem dl_801 : decode code 801 = .ok (.iconst 0, 1) := by decide +kernel
theorem dl_802 : decode code 802 = .ok (.ireturn, 1) := by decide +kernel
theorem dl_803 : decode code 803 = .ok (.aload_n 1, 1) := by decide +kernel
theorem dl_804 : decode code 804 = .ok (.invokevirtual 117, 3) := by decide +kernel
theorem dl_807 : decode code 807 = .ok (.aload_n 2, 1) := by decide +kernel
theorem dl_808 : decode code 808 = .ok (.invokevirtual 120, 3) := by decide +kernel
theorem dl_811 : decode code 811 = .ok (.if_icmp .eq 111, 3) := by decide +kernel
theorem dl_814 : decode code 814 = .ok (.iconst 0, 1) := by decide +kernel
theorem dl_815 : decode code 815 = .ok (.ireturn, 1) := by decide +kernel
theorem dl_816 : decode code 816 = .ok (.aload_n 1, 1) := by decide +kernel
theorem dl_817 : decode code 817 = .ok (.aload_n 0, 1) := by decide +kernel
theorem dl_818 : decode code 818 = .ok (.iload_n 3, 1) := by decide +kernel
theorem dl_819 : decode code 819 = .ok (.iconst 1, 1) := by decide +kernel
theorem dl_820 : decode code 820 = .ok (.iadd, 1) := by decide +kernel
theorem dl_821 : decode code 821 = .ok (.iaload, 1) := by decide +kernel
theorem dl_822 : decode code 822 = .ok (.aload_n 0, 1) := by decide +kernel
theorem dl_823 : decode code 823 = .ok (.iload_n 3, 1) := by decide +kernel
theorem dl_824 : decode code 824 = .ok (.iconst 2, 1) := by decide +kernel
theorem dl_825 : decode code 825 = .ok (.iadd, 1) := by decide +kernel
theorem dl_826 : decode code 826 = .ok (.iaload, 1) := by decide +kernel
theorem dl_827 : decode code 827 = .ok (.aload_n 0, 1) := by decide +kernel
theorem dl_828 : decode code 828 = .ok (.iload_n 3, 1) := by decide +kernel
theorem dl_829 : decode code 829 = .ok (.iconst 3, 1) := by decide +kernel
theorem dl_830 : decode code 830 = .ok (.iadd, 1) := by decide +kernel
theorem dl_831 : decode code 831 = .ok (.iaload, 1) := by decide +kernel
theorem dl_832 : decode code 832 = .ok (.invokevirtual 121, 3) := by decide +kernel
theorem dl_835 : decode code 835 = .ok (.aload_n 2, 1) := by decide +kernel
theorem dl_836 : decode code 836 = .ok (.aload_n 0, 1) := by decide +kernel
theorem dl_837 : decode code 837 = .ok (.iload_n 3, 1) := by decide +kernel
theorem dl_838 : decode code 838 = .ok (.iconst 1, 1) := by decide +kernel
theorem dl_839 : decode code 839 = .ok (.iadd, 1) := by decide +kernel
theorem dl_840 : decode code 840 = .ok (.iaload, 1) := by decide +kernel
theorem dl_841 : decode code 841 = .ok (.aload_n 0, 1) := by decide +kernel
theorem dl_842 : decode code 842 = .ok (.iload_n 3, 1) := by decide +kernel
theorem dl_843 : decode code 843 = .ok (.iconst 2, 1) := by decide +kernel
theorem dl_844 : decode code 844 = .ok (.iadd, 1) := by decide +kernel
theorem dl_845 : decode code 845 = .ok (.iaload, 1) := by decide +kernel
theorem dl_846 : decode code 846 = .ok (.aload_n 0, 1) := by decide +kernel
theorem dl_847 : decode code 847 = .ok (.iload_n 3, 1) := by decide +kernel
theorem dl_848 : decode code 848 = .ok (.iconst 3, 1) := by decide +kernel
theorem dl_849 : decode code 849 = .ok (.iadd, 1) := by decide +kernel
theorem dl_850 : decode code 850 = .ok (.iaload, 1) := by decide +kernel
theorem dl_851 : decode code 851 = .ok (.invokevirtual 125, 3) := by decide +kernel
theorem dl_854 : decode code 854 = .ok (.if_icmp .eq 68, 3) := by decide +kernel
theorem dl_857 : decode code 857 = .ok (.iconst 0, 1) := by decide +kernel
theorem dl_858 : decode code 858 = .ok (.ireturn, 1) := by decide +kernel
theorem dl_859 : decode code 859 = .ok (.aload_n 1, 1) := by decide +kernel
theorem dl_860 : decode code 860 = .ok (.invokevirtual 126, 3) := by decide +kernel
theorem dl_863 : decode code 863 = .ok (.aload_n 2, 1) := by decide +kernel
theorem dl_864 : decode code 864 = .ok (.invokevirtual 129, 3) := by decide +kernel
theorem dl_867 : decode code 867 = .ok (.if_icmp .eq 55, 3) := by decide +kernel
theorem dl_870 : decode code 870 = .ok (.iconst 0, 1) := by decide +kernel
theorem dl_871 : decode code 871 = .ok (.ireturn, 1) := by decide +kernel
theorem dl_872 : decode code 872 = .ok (.aload_n 1, 1) := by decide +kernel
theorem dl_873 : decode code 873 = .ok (.invokevirtual 130, 3) := by decide +kernel
theorem dl_876 : decode code 876 = .ok (.aload_n 2, 1) := by decide +kernel
theorem dl_877 : decode code 877 = .ok (.invokevirtual 133, 3) := by decide +kernel
theorem dl_880 : decode code 880 = .ok (.if_icmp .eq 42, 3) := by decide +kernel
theorem dl_883 : decode code 883 = .ok (.iconst 0, 1) := by decide +kernel
theorem dl_884 : decode code 884 = .ok (.ireturn, 1) := by decide +kernel
theorem dl_885 : decode code 885 = .ok (.aload_n 1, 1) := by decide +kernel
theorem dl_886 : decode code 886 = .ok (.aload_n 0, 1) := by decide +kernel
theorem dl_887 : decode code 887 = .ok (.iload_n 3, 1) := by decide +kernel
theorem dl_888 : decode code 888 = .ok (.iconst 1, 1) := by decide +kernel
theorem dl_889 : decode code 889 = .ok (.iadd, 1) := by decide +kernel
theorem dl_890 : decode code 890 = .ok (.iaload, 1) := by decide +kernel
theorem dl_891 : decode code 891 = .ok (.invokevirtual 134, 3) := by decide +kernel
theorem dl_894 : decode code 894 = .ok (.aload_n 2, 1) := by decide +kernel
theorem dl_895 : decode code 895 = .ok (.aload_n 0, 1) := by decide +kernel
theorem dl_896 : decode code 896 = .ok (.iload_n 3, 1) := by decide +kernel
theorem dl_897 : decode code 897 = .ok (.iconst 1, 1) := by decide +kernel
theorem dl_898 : decode code 898 = .ok (.iadd, 1) := by decide +kernel
theorem dl_899 : decode code 899 = .ok (.iaload, 1) := by decide +kernel
theorem dl_900 : decode code 900 = .ok (.invokevirtual 137, 3) := by decide +kernel
theorem dl_903 : decode code 903 = .ok (.if_icmp .eq 19, 3) := by decide +kernel
theorem dl_906 : decode code 906 = .ok (.iconst 0, 1) := by decide +kernel
theorem dl_907 : decode code 907 = .ok (.ireturn, 1) := by decide +kernel
theorem dl_908 : decode code 908 = .ok (.aload_n 1, 1) := by decide +kernel
theorem dl_909 : decode code 909 = .ok (.invokevirtual 138, 3) := by decide +kernel
theorem dl_912 : decode code 912 = .ok (.aload_n 2, 1) := by decide +kernel
theorem dl_913 : decode code 913 = .ok (.invokevirtual 142, 3) := by decide +kernel
theorem dl_916 : decode code 916 = .ok (.lcmp, 1) := by decide +kernel
theorem dl_917 : decode code 917 = .ok (.ifCond .eq 5, 3) := by decide +kernel
theorem dl_920 : decode code 920 = .ok (.iconst 0, 1) := by decide +kernel
theorem dl_921 : decode code 921 = .ok (.ireturn, 1) := by decide +kernel
theorem dl_922 : decode code 922 = .ok (.iinc 3 4, 3) := by decide +kernel
theorem dl_925 : decode code 925 = .ok (.goto (-907), 3) := by decide +kernel
theorem dl_928 : decode code 928 = .ok (.iconst 1, 1) := by decide +kernel
theorem dl_929 : decode code 929 = .ok (.ireturn, 1) := by decide +kernel
