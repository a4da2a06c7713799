theorem dL_law_0 : decode cL_law 0 = .ok (.new 7, 3) := by decide +kernel
theorem dL_law_3 : decode cL_law 3 = .ok (.dup, 1) := by decide +kernel
theorem dL_law_4 : decode cL_law 4 = .ok (.invokespecial 9, 3) := by decide +kernel
theorem dL_law_7 : decode cL_law 7 = .ok (.astore_n 1, 1) := by decide +kernel
theorem dL_law_8 : decode cL_law 8 = .ok (.new 10, 3) := by decide +kernel
theorem dL_law_11 : decode cL_law 11 = .ok (.dup, 1) := by decide +kernel
theorem dL_law_12 : decode cL_law 12 = .ok (.invokespecial 12, 3) := by decide +kernel
theorem dL_law_15 : decode cL_law 15 = .ok (.astore_n 2, 1) := by decide +kernel
theorem dL_law_16 : decode cL_law 16 = .ok (.iconst 0, 1) := by decide +kernel
theorem dL_law_17 : decode cL_law 17 = .ok (.istore_n 3, 1) := by decide +kernel
theorem dL_law_18 : decode cL_law 18 = .ok (.iload_n 3, 1) := by decide +kernel
theorem dL_law_19 : decode cL_law 19 = .ok (.aload_n 0, 1) := by decide +kernel
theorem dL_law_20 : decode cL_law 20 = .ok (.arraylength, 1) := by decide +kernel
theorem dL_law_21 : decode cL_law 21 = .ok (.bipush 10, 2) := by decide +kernel
theorem dL_law_23 : decode cL_law 23 = .ok (.isub, 1) := by decide +kernel
theorem dL_law_24 : decode cL_law 24 = .ok (.if_icmp .gt 2264, 3) := by decide +kernel
theorem dL_law_27 : decode cL_law 27 = .ok (.aload_n 0, 1) := by decide +kernel
theorem dL_law_28 : decode cL_law 28 = .ok (.iload_n 3, 1) := by decide +kernel
theorem dL_law_29 : decode cL_law 29 = .ok (.iaload, 1) := by decide +kernel
theorem dL_law_30 : decode cL_law 30 = .ok (.bipush 63, 2) := by decide +kernel
theorem dL_law_32 : decode cL_law 32 = .ok (.iand, 1) := by decide +kernel
theorem dL_law_33 : decode cL_law 33 = .ok (.tableswitch 2249 0 40 #[179, 242, 265, 298, 321, 354, 397, 440, 483, 526, 569, 622, 685, 738, 782, 893, 1021, 1108, 1184, 1237, 1290, 1343, 1396, 1439, 1472, 1531, 1564, 1597, 1656, 1689, 1732, 1785, 1854, 1897, 1940, 2009, 2062, 2105, 2180, 2203, 2226], 179) := by decide +kernel
theorem dL_law_212 : decode cL_law 212 = .ok (.aload_n 1, 1) := by decide +kernel
theorem dL_law_213 : decode cL_law 213 = .ok (.aload_n 0, 1) := by decide +kernel
theorem dL_law_214 : decode cL_law 214 = .ok (.iload_n 3, 1) := by decide +kernel
theorem dL_law_215 : decode cL_law 215 = .ok (.iconst 1, 1) := by decide +kernel
theorem dL_law_216 : decode cL_law 216 = .ok (.iadd, 1) := by decide +kernel
theorem dL_law_217 : decode cL_law 217 = .ok (.iaload, 1) := by decide +kernel
theorem dL_law_218 : decode cL_law 218 = .ok (.aload_n 0, 1) := by decide +kernel
theorem dL_law_219 : decode cL_law 219 = .ok (.iload_n 3, 1) := by decide +kernel
theorem dL_law_220 : decode cL_law 220 = .ok (.iconst 2, 1) := by decide +kernel
theorem dL_law_221 : decode cL_law 221 = .ok (.iadd, 1) := by decide +kernel
theorem dL_law_222 : decode cL_law 222 = .ok (.iaload, 1) := by decide +kernel
theorem dL_law_223 : decode cL_law 223 = .ok (.aload_n 0, 1) := by decide +kernel
theorem dL_law_224 : decode cL_law 224 = .ok (.iload_n 3, 1) := by decide +kernel
theorem dL_law_225 : decode cL_law 225 = .ok (.iconst 3, 1) := by decide +kernel
theorem dL_law_226 : decode cL_law 226 = .ok (.iadd, 1) := by decide +kernel
theorem dL_law_227 : decode cL_law 227 = .ok (.iaload, 1) := by decide +kernel
theorem dL_law_228 : decode cL_law 228 = .ok (.aload_n 0, 1) := by decide +kernel
theorem dL_law_229 : decode cL_law 229 = .ok (.iload_n 3, 1) := by decide +kernel
theorem dL_law_230 : decode cL_law 230 = .ok (.iconst 4, 1) := by decide +kernel
theorem dL_law_231 : decode cL_law 231 = .ok (.iadd, 1) := by decide +kernel
theorem dL_law_232 : decode cL_law 232 = .ok (.iaload, 1) := by decide +kernel
theorem dL_law_233 : decode cL_law 233 = .ok (.aload_n 0, 1) := by decide +kernel
theorem dL_law_234 : decode cL_law 234 = .ok (.iload_n 3, 1) := by decide +kernel
theorem dL_law_235 : decode cL_law 235 = .ok (.iconst 5, 1) := by decide +kernel
theorem dL_law_236 : decode cL_law 236 = .ok (.iadd, 1) := by decide +kernel
theorem dL_law_237 : decode cL_law 237 = .ok (.iaload, 1) := by decide +kernel
theorem dL_law_238 : decode cL_law 238 = .ok (.invokevirtual 13, 3) := by decide +kernel
theorem dL_law_241 : decode cL_law 241 = .ok (.aload_n 2, 1) := by decide +kernel
theorem dL_law_242 : decode cL_law 242 = .ok (.aload_n 0, 1) := by decide +kernel
theorem dL_law_243 : decode cL_law 243 = .ok (.iload_n 3, 1) := by decide +kernel
theorem dL_law_244 : decode cL_law 244 = .ok (.iconst 1, 1) := by decide +kernel
theorem dL_law_245 : decode cL_law 245 = .ok (.iadd, 1) := by decide +kernel
theorem dL_law_246 : decode cL_law 246 = .ok (.iaload, 1) := by decide +kernel
theorem dL_law_247 : decode cL_law 247 = .ok (.aload_n 0, 1) := by decide +kernel
theorem dL_law_248 : decode cL_law 248 = .ok (.iload_n 3, 1) := by decide +kernel
theorem dL_law_249 : decode cL_law 249 = .ok (.iconst 2, 1) := by decide +kernel
theorem dL_law_250 : decode cL_law 250 = .ok (.iadd, 1) := by decide +kernel
theorem dL_law_251 : decode cL_law 251 = .ok (.iaload, 1) := by decide +kernel
theorem dL_law_252 : decode cL_law 252 = .ok (.aload_n 0, 1) := by decide +kernel
theorem dL_law_253 : decode cL_law 253 = .ok (.iload_n 3, 1) := by decide +kernel
theorem dL_law_254 : decode cL_law 254 = .ok (.iconst 3, 1) := by decide +kernel
theorem dL_law_255 : decode cL_law 255 = .ok (.iadd, 1) := by decide +kernel
theorem dL_law_256 : decode cL_law 256 = .ok (.iaload, 1) := by decide +kernel
theorem dL_law_257 : decode cL_law 257 = .ok (.aload_n 0, 1) := by decide +kernel
theorem dL_law_258 : decode cL_law 258 = .ok (.iload_n 3, 1) := by decide +kernel
theorem dL_law_259 : decode cL_law 259 = .ok (.iconst 4, 1) := by decide +kernel
theorem dL_law_260 : decode cL_law 260 = .ok (.iadd, 1) := by decide +kernel
theorem dL_law_261 : decode cL_law 261 = .ok (.iaload, 1) := by decide +kernel
theorem dL_law_262 : decode cL_law 262 = .ok (.aload_n 0, 1) := by decide +kernel
theorem dL_law_263 : decode cL_law 263 = .ok (.iload_n 3, 1) := by decide +kernel
theorem dL_law_264 : decode cL_law 264 = .ok (.iconst 5, 1) := by decide +kernel
theorem dL_law_265 : decode cL_law 265 = .ok (.iadd, 1) := by decide +kernel
theorem dL_law_266 : decode cL_law 266 = .ok (.iaload, 1) := by decide +kernel
theorem dL_law_267 : decode cL_law 267 = .ok (.invokevirtual 17, 3) := by decide +kernel
theorem dL_law_270 : decode cL_law 270 = .ok (.if_icmp .eq 2012, 3) := by decide +kernel
theorem dL_law_273 : decode cL_law 273 = .ok (.iconst 0, 1) := by decide +kernel
theorem dL_law_274 : decode cL_law 274 = .ok (.ireturn, 1) := by decide +kernel
theorem dL_law_275 : decode cL_law 275 = .ok (.aload_n 1, 1) := by decide +kernel
theorem dL_law_276 : decode cL_law 276 = .ok (.aload_n 0, 1) := by decide +kernel
theorem dL_law_277 : decode cL_law 277 = .ok (.iload_n 3, 1) := by decide +kernel
theorem dL_law_278 : decode cL_law 278 = .ok (.iconst 1, 1) := by decide +kernel
theorem dL_law_279 : decode cL_law 279 = .ok (.iadd, 1) := by decide +kernel
theorem dL_law_280 : decode cL_law 280 = .ok (.iaload, 1) := by decide +kernel
theorem dL_law_281 : decode cL_law 281 = .ok (.invokevirtual 18, 3) := by decide +kernel
theorem dL_law_284 : decode cL_law 284 = .ok (.aload_n 2, 1) := by decide +kernel
theorem dL_law_285 : decode cL_law 285 = .ok (.aload_n 0, 1) := by decide +kernel
theorem dL_law_286 : decode cL_law 286 = .ok (.iload_n 3, 1) := by decide +kernel
theorem dL_law_287 : decode cL_law 287 = .ok (.iconst 1, 1) := by decide +kernel
theorem dL_law_288 : decode cL_law 288 = .ok (.iadd, 1) := by decide +kernel
theorem dL_law_289 : decode cL_law 289 = .ok (.iaload, 1) := by decide +kernel
theorem dL_law_290 : decode cL_law 290 = .ok (.invokevirtual 22, 3) := by decide +kernel
theorem dL_law_293 : decode cL_law 293 = .ok (.if_icmp .eq 1989, 3) := by decide +kernel
theorem dL_law_296 : decode cL_law 296 = .ok (.iconst 0, 1) := by decide +kernel
theorem dL_law_297 : decode cL_law 297 = .ok (.ireturn, 1) := by decide +kernel
theorem dL_law_298 : decode cL_law 298 = .ok (.aload_n 1, 1) := by decide +kernel
theorem dL_law_299 : decode cL_law 299 = .ok (.aload_n 0, 1) := by decide +kernel
theorem dL_law_300 : decode cL_law 300 = .ok (.iload_n 3, 1) := by decide +kernel
theorem dL_law_301 : decode cL_law 301 = .ok (.iconst 1, 1) := by decide +kernel
theorem dL_law_302 : decode cL_law 302 = .ok (.iadd, 1) := by decide +kernel
theorem dL_law_303 : decode cL_law 303 = .ok (.iaload, 1) := by decide +kernel
theorem dL_law_304 : decode cL_law 304 = .ok (.aload_n 0, 1) := by decide +kernel
theorem dL_law_305 : decode cL_law 305 = .ok (.iload_n 3, 1) := by decide +kernel
theorem dL_law_306 : decode cL_law 306 = .ok (.iconst 2, 1) := by decide +kernel
theorem dL_law_307 : decode cL_law 307 = .ok (.iadd, 1) := by decide +kernel
theorem dL_law_308 : decode cL_law 308 = .ok (.iaload, 1) := by decide +kernel
theorem dL_law_309 : decode cL_law 309 = .ok (.invokevirtual 23, 3) := by decide +kernel
theorem dL_law_312 : decode cL_law 312 = .ok (.aload_n 2, 1) := by decide +kernel
theorem dL_law_313 : decode cL_law 313 = .ok (.aload_n 0, 1) := by decide +kernel
theorem dL_law_314 : decode cL_law 314 = .ok (.iload_n 3, 1) := by decide +kernel
theorem dL_law_315 : decode cL_law 315 = .ok (.iconst 1, 1) := by decide +kernel
theorem dL_law_316 : decode cL_law 316 = .ok (.iadd, 1) := by decide +kernel
theorem dL_law_317 : decode cL_law 317 = .ok (.iaload, 1) := by decide +kernel
theorem dL_law_318 : decode cL_law 318 = .ok (.aload_n 0, 1) := by decide +kernel
theorem dL_law_319 : decode cL_law 319 = .ok (.iload_n 3, 1) := by decide +kernel
theorem dL_law_320 : decode cL_law 320 = .ok (.iconst 2, 1) := by decide +kernel
theorem dL_law_321 : decode cL_law 321 = .ok (.iadd, 1) := by decide +kernel
theorem dL_law_322 : decode cL_law 322 = .ok (.iaload, 1) := by decide +kernel
theorem dL_law_323 : decode cL_law 323 = .ok (.invokevirtual 27, 3) := by decide +kernel
theorem dL_law_326 : decode cL_law 326 = .ok (.if_icmp .eq 1956, 3) := by decide +kernel
theorem dL_law_329 : decode cL_law 329 = .ok (.iconst 0, 1) := by decide +kernel
theorem dL_law_330 : decode cL_law 330 = .ok (.ireturn, 1) := by decide +kernel
theorem dL_law_331 : decode cL_law 331 = .ok (.aload_n 1, 1) := by decide +kernel
theorem dL_law_332 : decode cL_law 332 = .ok (.aload_n 0, 1) := by decide +kernel
theorem dL_law_333 : decode cL_law 333 = .ok (.iload_n 3, 1) := by decide +kernel
theorem dL_law_334 : decode cL_law 334 = .ok (.iconst 1, 1) := by decide +kernel
theorem dL_law_335 : decode cL_law 335 = .ok (.iadd, 1) := by decide +kernel
theorem dL_law_336 : decode cL_law 336 = .ok (.iaload, 1) := by decide +kernel
theorem dL_law_337 : decode cL_law 337 = .ok (.invokevirtual 28, 3) := by decide +kernel
theorem dL_law_340 : decode cL_law 340 = .ok (.aload_n 2, 1) := by decide +kernel
theorem dL_law_341 : decode cL_law 341 = .ok (.aload_n 0, 1) := by decide +kernel
theorem dL_law_342 : decode cL_law 342 = .ok (.iload_n 3, 1) := by decide +kernel
theorem dL_law_343 : decode cL_law 343 = .ok (.iconst 1, 1) := by decide +kernel
theorem dL_law_344 : decode cL_law 344 = .ok (.iadd, 1) := by decide +kernel
theorem dL_law_345 : decode cL_law 345 = .ok (.iaload, 1) := by decide +kernel
theorem dL_law_346 : decode cL_law 346 = .ok (.invokevirtual 31, 3) := by decide +kernel
theorem dL_law_349 : decode cL_law 349 = .ok (.if_icmp .eq 1933, 3) := by decide +kernel
theorem dL_law_352 : decode cL_law 352 = .ok (.iconst 0, 1) := by decide +kernel
theorem dL_law_353 : decode cL_law 353 = .ok (.ireturn, 1) := by decide +kernel
theorem dL_law_354 : decode cL_law 354 = .ok (.aload_n 1, 1) := by decide +kernel
theorem dL_law_355 : decode cL_law 355 = .ok (.aload_n 0, 1) := by decide +kernel
theorem dL_law_356 : decode cL_law 356 = .ok (.iload_n 3, 1) := by decide +kernel
theorem dL_law_357 : decode cL_law 357 = .ok (.iconst 1, 1) := by decide +kernel
theorem dL_law_358 : decode cL_law 358 = .ok (.iadd, 1) := by decide +kernel
theorem dL_law_359 : decode cL_law 359 = .ok (.iaload, 1) := by decide +kernel
theorem dL_law_360 : decode cL_law 360 = .ok (.aload_n 0, 1) := by decide +kernel
theorem dL_law_361 : decode cL_law 361 = .ok (.iload_n 3, 1) := by decide +kernel
theorem dL_law_362 : decode cL_law 362 = .ok (.iconst 2, 1) := by decide +kernel
theorem dL_law_363 : decode cL_law 363 = .ok (.iadd, 1) := by decide +kernel
theorem dL_law_364 : decode cL_law 364 = .ok (.iaload, 1) := by decide +kernel
theorem dL_law_365 : decode cL_law 365 = .ok (.invokevirtual 32, 3) := by decide +kernel
theorem dL_law_368 : decode cL_law 368 = .ok (.aload_n 2, 1) := by decide +kernel
theorem dL_law_369 : decode cL_law 369 = .ok (.aload_n 0, 1) := by decide +kernel
theorem dL_law_370 : decode cL_law 370 = .ok (.iload_n 3, 1) := by decide +kernel
theorem dL_law_371 : decode cL_law 371 = .ok (.iconst 1, 1) := by decide +kernel
theorem dL_law_372 : decode cL_law 372 = .ok (.iadd, 1) := by decide +kernel
theorem dL_law_373 : decode cL_law 373 = .ok (.iaload, 1) := by decide +kernel
theorem dL_law_374 : decode cL_law 374 = .ok (.aload_n 0, 1) := by decide +kernel
theorem dL_law_375 : decode cL_law 375 = .ok (.iload_n 3, 1) := by decide +kernel
theorem dL_law_376 : decode cL_law 376 = .ok (.iconst 2, 1) := by decide +kernel
theorem dL_law_377 : decode cL_law 377 = .ok (.iadd, 1) := by decide +kernel
theorem dL_law_378 : decode cL_law 378 = .ok (.iaload, 1) := by decide +kernel
theorem dL_law_379 : decode cL_law 379 = .ok (.invokevirtual 35, 3) := by decide +kernel
theorem dL_law_382 : decode cL_law 382 = .ok (.if_icmp .eq 1900, 3) := by decide +kernel
theorem dL_law_385 : decode cL_law 385 = .ok (.iconst 0, 1) := by decide +kernel
theorem dL_law_386 : decode cL_law 386 = .ok (.ireturn, 1) := by decide +kernel
theorem dL_law_387 : decode cL_law 387 = .ok (.aload_n 1, 1) := by decide +kernel
theorem dL_law_388 : decode cL_law 388 = .ok (.aload_n 0, 1) := by decide +kernel
theorem dL_law_389 : decode cL_law 389 = .ok (.iload_n 3, 1) := by decide +kernel
theorem dL_law_390 : decode cL_law 390 = .ok (.iconst 1, 1) := by decide +kernel
theorem dL_law_391 : decode cL_law 391 = .ok (.iadd, 1) := by decide +kernel
theorem dL_law_392 : decode cL_law 392 = .ok (.iaload, 1) := by decide +kernel
theorem dL_law_393 : decode cL_law 393 = .ok (.aload_n 0, 1) := by decide +kernel
theorem dL_law_394 : decode cL_law 394 = .ok (.iload_n 3, 1) := by decide +kernel
theorem dL_law_395 : decode cL_law 395 = .ok (.iconst 2, 1) := by decide +kernel
theorem dL_law_396 : decode cL_law 396 = .ok (.iadd, 1) := by decide +kernel
theorem dL_law_397 : decode cL_law 397 = .ok (.iaload, 1) := by decide +kernel
theorem dL_law_398 : decode cL_law 398 = .ok (.aload_n 0, 1) := by decide +kernel
theorem dL_law_399 : decode cL_law 399 = .ok (.iload_n 3, 1) := by decide +kernel
theorem dL_law_400 : decode cL_law 400 = .ok (.iconst 3, 1) := by decide +kernel
theorem dL_law_401 : decode cL_law 401 = .ok (.iadd, 1) := by decide +kernel
theorem dL_law_402 : decode cL_law 402 = .ok (.iaload, 1) := by decide +kernel
theorem dL_law_403 : decode cL_law 403 = .ok (.invokevirtual 36, 3) := by decide +kernel
theorem dL_law_406 : decode cL_law 406 = .ok (.aload_n 2, 1) := by decide +kernel
theorem dL_law_407 : decode cL_law 407 = .ok (.aload_n 0, 1) := by decide +kernel
theorem dL_law_408 : decode cL_law 408 = .ok (.iload_n 3, 1) := by decide +kernel
theorem dL_law_409 : decode cL_law 409 = .ok (.iconst 1, 1) := by decide +kernel
theorem dL_law_410 : decode cL_law 410 = .ok (.iadd, 1) := by decide +kernel
theorem dL_law_411 : decode cL_law 411 = .ok (.iaload, 1) := by decide +kernel
theorem dL_law_412 : decode cL_law 412 = .ok (.aload_n 0, 1) := by decide +kernel
theorem dL_law_413 : decode cL_law 413 = .ok (.iload_n 3, 1) := by decide +kernel
theorem dL_law_414 : decode cL_law 414 = .ok (.iconst 2, 1) := by decide +kernel
theorem dL_law_415 : decode cL_law 415 = .ok (.iadd, 1) := by decide +kernel
theorem dL_law_416 : decode cL_law 416 = .ok (.iaload, 1) := by decide +kernel
theorem dL_law_417 : decode cL_law 417 = .ok (.aload_n 0, 1) := by decide +kernel
theorem dL_law_418 : decode cL_law 418 = .ok (.iload_n 3, 1) := by decide +kernel
theorem dL_law_419 : decode cL_law 419 = .ok (.iconst 3, 1) := by decide +kernel
theorem dL_law_420 : decode cL_law 420 = .ok (.iadd, 1) := by decide +kernel
theorem dL_law_421 : decode cL_law 421 = .ok (.iaload, 1) := by decide +kernel
theorem dL_law_422 : decode cL_law 422 = .ok (.invokevirtual 40, 3) := by decide +kernel
theorem dL_law_425 : decode cL_law 425 = .ok (.if_icmp .eq 1857, 3) := by decide +kernel
theorem dL_law_428 : decode cL_law 428 = .ok (.iconst 0, 1) := by decide +kernel
theorem dL_law_429 : decode cL_law 429 = .ok (.ireturn, 1) := by decide +kernel
theorem dL_law_430 : decode cL_law 430 = .ok (.aload_n 1, 1) := by decide +kernel
theorem dL_law_431 : decode cL_law 431 = .ok (.aload_n 0, 1) := by decide +kernel
theorem dL_law_432 : decode cL_law 432 = .ok (.iload_n 3, 1) := by decide +kernel
theorem dL_law_433 : decode cL_law 433 = .ok (.iconst 1, 1) := by decide +kernel
theorem dL_law_434 : decode cL_law 434 = .ok (.iadd, 1) := by decide +kernel
theorem dL_law_435 : decode cL_law 435 = .ok (.iaload, 1) := by decide +kernel
theorem dL_law_436 : decode cL_law 436 = .ok (.aload_n 0, 1) := by decide +kernel
theorem dL_law_437 : decode cL_law 437 = .ok (.iload_n 3, 1) := by decide +kernel
theorem dL_law_438 : decode cL_law 438 = .ok (.iconst 2, 1) := by decide +kernel
theorem dL_law_439 : decode cL_law 439 = .ok (.iadd, 1) := by decide +kernel
theorem dL_law_440 : decode cL_law 440 = .ok (.iaload, 1) := by decide +kernel
theorem dL_law_441 : decode cL_law 441 = .ok (.aload_n 0, 1) := by decide +kernel
theorem dL_law_442 : decode cL_law 442 = .ok (.iload_n 3, 1) := by decide +kernel
theorem dL_law_443 : decode cL_law 443 = .ok (.iconst 3, 1) := by decide +kernel
theorem dL_law_444 : decode cL_law 444 = .ok (.iadd, 1) := by decide +kernel
theorem dL_law_445 : decode cL_law 445 = .ok (.iaload, 1) := by decide +kernel
theorem dL_law_446 : decode cL_law 446 = .ok (.invokevirtual 41, 3) := by decide +kernel
theorem dL_law_449 : decode cL_law 449 = .ok (.aload_n 2, 1) := by decide +kernel
theorem dL_law_450 : decode cL_law 450 = .ok (.aload_n 0, 1) := by decide +kernel
theorem dL_law_451 : decode cL_law 451 = .ok (.iload_n 3, 1) := by decide +kernel
theorem dL_law_452 : decode cL_law 452 = .ok (.iconst 1, 1) := by decide +kernel
theorem dL_law_453 : decode cL_law 453 = .ok (.iadd, 1) := by decide +kernel
theorem dL_law_454 : decode cL_law 454 = .ok (.iaload, 1) := by decide +kernel
theorem dL_law_455 : decode cL_law 455 = .ok (.aload_n 0, 1) := by decide +kernel
theorem dL_law_456 : decode cL_law 456 = .ok (.iload_n 3, 1) := by decide +kernel
theorem dL_law_457 : decode cL_law 457 = .ok (.iconst 2, 1) := by decide +kernel
theorem dL_law_458 : decode cL_law 458 = .ok (.iadd, 1) := by decide +kernel
theorem dL_law_459 : decode cL_law 459 = .ok (.iaload, 1) := by decide +kernel
theorem dL_law_460 : decode cL_law 460 = .ok (.aload_n 0, 1) := by decide +kernel
theorem dL_law_461 : decode cL_law 461 = .ok (.iload_n 3, 1) := by decide +kernel
theorem dL_law_462 : decode cL_law 462 = .ok (.iconst 3, 1) := by decide +kernel
theorem dL_law_463 : decode cL_law 463 = .ok (.iadd, 1) := by decide +kernel
theorem dL_law_464 : decode cL_law 464 = .ok (.iaload, 1) := by decide +kernel
theorem dL_law_465 : decode cL_law 465 = .ok (.invokevirtual 44, 3) := by decide +kernel
theorem dL_law_468 : decode cL_law 468 = .ok (.if_icmp .eq 1814, 3) := by decide +kernel
theorem dL_law_471 : decode cL_law 471 = .ok (.iconst 0, 1) := by decide +kernel
theorem dL_law_472 : decode cL_law 472 = .ok (.ireturn, 1) := by decide +kernel
theorem dL_law_473 : decode cL_law 473 = .ok (.aload_n 1, 1) := by decide +kernel
theorem dL_law_474 : decode cL_law 474 = .ok (.aload_n 0, 1) := by decide +kernel
theorem dL_law_475 : decode cL_law 475 = .ok (.iload_n 3, 1) := by decide +kernel
theorem dL_law_476 : decode cL_law 476 = .ok (.iconst 1, 1) := by decide +kernel
theorem dL_law_477 : decode cL_law 477 = .ok (.iadd, 1) := by decide +kernel
theorem dL_law_478 : decode cL_law 478 = .ok (.iaload, 1) := by decide +kernel
theorem dL_law_479 : decode cL_law 479 = .ok (.aload_n 0, 1) := by decide +kernel
theorem dL_law_480 : decode cL_law 480 = .ok (.iload_n 3, 1) := by decide +kernel
theorem dL_law_481 : decode cL_law 481 = .ok (.iconst 2, 1) := by decide +kernel
theorem dL_law_482 : decode cL_law 482 = .ok (.iadd, 1) := by decide +kernel
theorem dL_law_483 : decode cL_law 483 = .ok (.iaload, 1) := by decide +kernel
theorem dL_law_484 : decode cL_law 484 = .ok (.aload_n 0, 1) := by decide +kernel
theorem dL_law_485 : decode cL_law 485 = .ok (.iload_n 3, 1) := by decide +kernel
theorem dL_law_486 : decode cL_law 486 = .ok (.iconst 3, 1) := by decide +kernel
theorem dL_law_487 : decode cL_law 487 = .ok (.iadd, 1) := by decide +kernel
theorem dL_law_488 : decode cL_law 488 = .ok (.iaload, 1) := by decide +kernel
theorem dL_law_489 : decode cL_law 489 = .ok (.invokevirtual 45, 3) := by decide +kernel
theorem dL_law_492 : decode cL_law 492 = .ok (.aload_n 2, 1) := by decide +kernel
theorem dL_law_493 : decode cL_law 493 = .ok (.aload_n 0, 1) := by decide +kernel
theorem dL_law_494 : decode cL_law 494 = .ok (.iload_n 3, 1) := by decide +kernel
theorem dL_law_495 : decode cL_law 495 = .ok (.iconst 1, 1) := by decide +kernel
theorem dL_law_496 : decode cL_law 496 = .ok (.iadd, 1) := by decide +kernel
theorem dL_law_497 : decode cL_law 497 = .ok (.iaload, 1) := by decide +kernel
theorem dL_law_498 : decode cL_law 498 = .ok (.aload_n 0, 1) := by decide +kernel
theorem dL_law_499 : decode cL_law 499 = .ok (.iload_n 3, 1) := by decide +kernel
theorem dL_law_500 : decode cL_law 500 = .ok (.iconst 2, 1) := by decide +kernel
theorem dL_law_501 : decode cL_law 501 = .ok (.iadd, 1) := by decide +kernel
theorem dL_law_502 : decode cL_law 502 = .ok (.iaload, 1) := by decide +kernel
theorem dL_law_503 : decode cL_law 503 = .ok (.aload_n 0, 1) := by decide +kernel
theorem dL_law_504 : decode cL_law 504 = .ok (.iload_n 3, 1) := by decide +kernel
theorem dL_law_505 : decode cL_law 505 = .ok (.iconst 3, 1) := by decide +kernel
theorem dL_law_506 : decode cL_law 506 = .ok (.iadd, 1) := by decide +kernel
theorem dL_law_507 : decode cL_law 507 = .ok (.iaload, 1) := by decide +kernel
theorem dL_law_508 : decode cL_law 508 = .ok (.invokevirtual 48, 3) := by decide +kernel
theorem dL_law_511 : decode cL_law 511 = .ok (.if_icmp .eq 1771, 3) := by decide +kernel
theorem dL_law_514 : decode cL_law 514 = .ok (.iconst 0, 1) := by decide +kernel
theorem dL_law_515 : decode cL_law 515 = .ok (.ireturn, 1) := by decide +kernel
theorem dL_law_516 : decode cL_law 516 = .ok (.aload_n 1, 1) := by decide +kernel
theorem dL_law_517 : decode cL_law 517 = .ok (.aload_n 0, 1) := by decide +kernel
theorem dL_law_518 : decode cL_law 518 = .ok (.iload_n 3, 1) := by decide +kernel
theorem dL_law_519 : decode cL_law 519 = .ok (.iconst 1, 1) := by decide +kernel
theorem dL_law_520 : decode cL_law 520 = .ok (.iadd, 1) := by decide +kernel
theorem dL_law_521 : decode cL_law 521 = .ok (.iaload, 1) := by decide +kernel
theorem dL_law_522 : decode cL_law 522 = .ok (.aload_n 0, 1) := by decide +kernel
theorem dL_law_523 : decode cL_law 523 = .ok (.iload_n 3, 1) := by decide +kernel
theorem dL_law_524 : decode cL_law 524 = .ok (.iconst 2, 1) := by decide +kernel
theorem dL_law_525 : decode cL_law 525 = .ok (.iadd, 1) := by decide +kernel
theorem dL_law_526 : decode cL_law 526 = .ok (.iaload, 1) := by decide +kernel
theorem dL_law_527 : decode cL_law 527 = .ok (.aload_n 0, 1) := by decide +kernel
theorem dL_law_528 : decode cL_law 528 = .ok (.iload_n 3, 1) := by decide +kernel
theorem dL_law_529 : decode cL_law 529 = .ok (.iconst 3, 1) := by decide +kernel
theorem dL_law_530 : decode cL_law 530 = .ok (.iadd, 1) := by decide +kernel
theorem dL_law_531 : decode cL_law 531 = .ok (.iaload, 1) := by decide +kernel
theorem dL_law_532 : decode cL_law 532 = .ok (.invokevirtual 49, 3) := by decide +kernel
theorem dL_law_535 : decode cL_law 535 = .ok (.aload_n 2, 1) := by decide +kernel
theorem dL_law_536 : decode cL_law 536 = .ok (.aload_n 0, 1) := by decide +kernel
theorem dL_law_537 : decode cL_law 537 = .ok (.iload_n 3, 1) := by decide +kernel
theorem dL_law_538 : decode cL_law 538 = .ok (.iconst 1, 1) := by decide +kernel
theorem dL_law_539 : decode cL_law 539 = .ok (.iadd, 1) := by decide +kernel
theorem dL_law_540 : decode cL_law 540 = .ok (.iaload, 1) := by decide +kernel
theorem dL_law_541 : decode cL_law 541 = .ok (.aload_n 0, 1) := by decide +kernel
theorem dL_law_542 : decode cL_law 542 = .ok (.iload_n 3, 1) := by decide +kernel
theorem dL_law_543 : decode cL_law 543 = .ok (.iconst 2, 1) := by decide +kernel
theorem dL_law_544 : decode cL_law 544 = .ok (.iadd, 1) := by decide +kernel
theorem dL_law_545 : decode cL_law 545 = .ok (.iaload, 1) := by decide +kernel
theorem dL_law_546 : decode cL_law 546 = .ok (.aload_n 0, 1) := by decide +kernel
theorem dL_law_547 : decode cL_law 547 = .ok (.iload_n 3, 1) := by decide +kernel
theorem dL_law_548 : decode cL_law 548 = .ok (.iconst 3, 1) := by decide +kernel
theorem dL_law_549 : decode cL_law 549 = .ok (.iadd, 1) := by decide +kernel
theorem dL_law_550 : decode cL_law 550 = .ok (.iaload, 1) := by decide +kernel
theorem dL_law_551 : decode cL_law 551 = .ok (.invokevirtual 52, 3) := by decide +kernel
theorem dL_law_554 : decode cL_law 554 = .ok (.if_icmp .eq 1728, 3) := by decide +kernel
theorem dL_law_557 : decode cL_law 557 = .ok (.iconst 0, 1) := by decide +kernel
theorem dL_law_558 : decode cL_law 558 = .ok (.ireturn, 1) := by decide +kernel
theorem dL_law_559 : decode cL_law 559 = .ok (.aload_n 1, 1) := by decide +kernel
theorem dL_law_560 : decode cL_law 560 = .ok (.aload_n 0, 1) := by decide +kernel
theorem dL_law_561 : decode cL_law 561 = .ok (.iload_n 3, 1) := by decide +kernel
theorem dL_law_562 : decode cL_law 562 = .ok (.iconst 1, 1) := by decide +kernel
theorem dL_law_563 : decode cL_law 563 = .ok (.iadd, 1) := by decide +kernel
theorem dL_law_564 : decode cL_law 564 = .ok (.iaload, 1) := by decide +kernel
theorem dL_law_565 : decode cL_law 565 = .ok (.aload_n 0, 1) := by decide +kernel
theorem dL_law_566 : decode cL_law 566 = .ok (.iload_n 3, 1) := by decide +kernel
theorem dL_law_567 : decode cL_law 567 = .ok (.iconst 2, 1) := by decide +kernel
theorem dL_law_568 : decode cL_law 568 = .ok (.iadd, 1) := by decide +kernel
theorem dL_law_569 : decode cL_law 569 = .ok (.iaload, 1) := by decide +kernel
theorem dL_law_570 : decode cL_law 570 = .ok (.aload_n 0, 1) := by decide +kernel
theorem dL_law_571 : decode cL_law 571 = .ok (.iload_n 3, 1) := by decide +kernel
theorem dL_law_572 : decode cL_law 572 = .ok (.iconst 3, 1) := by decide +kernel
theorem dL_law_573 : decode cL_law 573 = .ok (.iadd, 1) := by decide +kernel
theorem dL_law_574 : decode cL_law 574 = .ok (.iaload, 1) := by decide +kernel
theorem dL_law_575 : decode cL_law 575 = .ok (.invokevirtual 53, 3) := by decide +kernel
theorem dL_law_578 : decode cL_law 578 = .ok (.aload_n 2, 1) := by decide +kernel
theorem dL_law_579 : decode cL_law 579 = .ok (.aload_n 0, 1) := by decide +kernel
theorem dL_law_580 : decode cL_law 580 = .ok (.iload_n 3, 1) := by decide +kernel
theorem dL_law_581 : decode cL_law 581 = .ok (.iconst 1, 1) := by decide +kernel
theorem dL_law_582 : decode cL_law 582 = .ok (.iadd, 1) := by decide +kernel
theorem dL_law_583 : decode cL_law 583 = .ok (.iaload, 1) := by decide +kernel
theorem dL_law_584 : decode cL_law 584 = .ok (.aload_n 0, 1) := by decide +kernel
theorem dL_law_585 : decode cL_law 585 = .ok (.iload_n 3, 1) := by decide +kernel
theorem dL_law_586 : decode cL_law 586 = .ok (.iconst 2, 1) := by decide +kernel
theorem dL_law_587 : decode cL_law 587 = .ok (.iadd, 1) := by decide +kernel
theorem dL_law_588 : decode cL_law 588 = .ok (.iaload, 1) := by decide +kernel
theorem dL_law_589 : decode cL_law 589 = .ok (.aload_n 0, 1) := by decide +kernel
theorem dL_law_590 : decode cL_law 590 = .ok (.iload_n 3, 1) := by decide +kernel
theorem dL_law_591 : decode cL_law 591 = .ok (.iconst 3, 1) := by decide +kernel
theorem dL_law_592 : decode cL_law 592 = .ok (.iadd, 1) := by decide +kernel
theorem dL_law_593 : decode cL_law 593 = .ok (.iaload, 1) := by decide +kernel
theorem dL_law_594 : decode cL_law 594 = .ok (.invokevirtual 56, 3) := by decide +kernel
theorem dL_law_597 : decode cL_law 597 = .ok (.if_icmp .eq 1685, 3) := by decide +kernel
theorem dL_law_600 : decode cL_law 600 = .ok (.iconst 0, 1) := by decide +kernel
theorem dL_law_601 : decode cL_law 601 = .ok (.ireturn, 1) := by decide +kernel
theorem dL_law_602 : decode cL_law 602 = .ok (.aload_n 1, 1) := by decide +kernel
theorem dL_law_603 : decode cL_law 603 = .ok (.aload_n 0, 1) := by decide +kernel
theorem dL_law_604 : decode cL_law 604 = .ok (.iload_n 3, 1) := by decide +kernel
theorem dL_law_605 : decode cL_law 605 = .ok (.iconst 1, 1) := by decide +kernel
theorem dL_law_606 : decode cL_law 606 = .ok (.iadd, 1) := by decide +kernel
theorem dL_law_607 : decode cL_law 607 = .ok (.iaload, 1) := by decide +kernel
theorem dL_law_608 : decode cL_law 608 = .ok (.aload_n 0, 1) := by decide +kernel
theorem dL_law_609 : decode cL_law 609 = .ok (.iload_n 3, 1) := by decide +kernel
theorem dL_law_610 : decode cL_law 610 = .ok (.iconst 2, 1) := by decide +kernel
theorem dL_law_611 : decode cL_law 611 = .ok (.iadd, 1) := by decide +kernel
theorem dL_law_612 : decode cL_law 612 = .ok (.iaload, 1) := by decide +kernel
theorem dL_law_613 : decode cL_law 613 = .ok (.aload_n 0, 1) := by decide +kernel
theorem dL_law_614 : decode cL_law 614 = .ok (.iload_n 3, 1) := by decide +kernel
theorem dL_law_615 : decode cL_law 615 = .ok (.iconst 3, 1) := by decide +kernel
theorem dL_law_616 : decode cL_law 616 = .ok (.iadd, 1) := by decide +kernel
theorem dL_law_617 : decode cL_law 617 = .ok (.iaload, 1) := by decide +kernel
theorem dL_law_618 : decode cL_law 618 = .ok (.aload_n 0, 1) := by decide +kernel
theorem dL_law_619 : decode cL_law 619 = .ok (.iload_n 3, 1) := by decide +kernel
theorem dL_law_620 : decode cL_law 620 = .ok (.iconst 4, 1) := by decide +kernel
theorem dL_law_621 : decode cL_law 621 = .ok (.iadd, 1) := by decide +kernel
theorem dL_law_622 : decode cL_law 622 = .ok (.iaload, 1) := by decide +kernel
theorem dL_law_623 : decode cL_law 623 = .ok (.invokevirtual 57, 3) := by decide +kernel
theorem dL_law_626 : decode cL_law 626 = .ok (.aload_n 2, 1) := by decide +kernel
theorem dL_law_627 : decode cL_law 627 = .ok (.aload_n 0, 1) := by decide +kernel
theorem dL_law_628 : decode cL_law 628 = .ok (.iload_n 3, 1) := by decide +kernel
theorem dL_law_629 : decode cL_law 629 = .ok (.iconst 1, 1) := by decide +kernel
theorem dL_law_630 : decode cL_law 630 = .ok (.iadd, 1) := by decide +kernel
theorem dL_law_631 : decode cL_law 631 = .ok (.iaload, 1) := by decide +kernel
theorem dL_law_632 : decode cL_law 632 = .ok (.aload_n 0, 1) := by decide +kernel
theorem dL_law_633 : decode cL_law 633 = .ok (.iload_n 3, 1) := by decide +kernel
theorem dL_law_634 : decode cL_law 634 = .ok (.iconst 2, 1) := by decide +kernel
theorem dL_law_635 : decode cL_law 635 = .ok (.iadd, 1) := by decide +kernel
theorem dL_law_636 : decode cL_law 636 = .ok (.iaload, 1) := by decide +kernel
theorem dL_law_637 : decode cL_law 637 = .ok (.aload_n 0, 1) := by decide +kernel
theorem dL_law_638 : decode cL_law 638 = .ok (.iload_n 3, 1) := by decide +kernel
theorem dL_law_639 : decode cL_law 639 = .ok (.iconst 3, 1) := by decide +kernel
theorem dL_law_640 : decode cL_law 640 = .ok (.iadd, 1) := by decide +kernel
theorem dL_law_641 : decode cL_law 641 = .ok (.iaload, 1) := by decide +kernel
theorem dL_law_642 : decode cL_law 642 = .ok (.aload_n 0, 1) := by decide +kernel
theorem dL_law_643 : decode cL_law 643 = .ok (.iload_n 3, 1) := by decide +kernel
theorem dL_law_644 : decode cL_law 644 = .ok (.iconst 4, 1) := by decide +kernel
theorem dL_law_645 : decode cL_law 645 = .ok (.iadd, 1) := by decide +kernel
theorem dL_law_646 : decode cL_law 646 = .ok (.iaload, 1) := by decide +kernel
theorem dL_law_647 : decode cL_law 647 = .ok (.invokevirtual 61, 3) := by decide +kernel
theorem dL_law_650 : decode cL_law 650 = .ok (.if_icmp .eq 1632, 3) := by decide +kernel
theorem dL_law_653 : decode cL_law 653 = .ok (.iconst 0, 1) := by decide +kernel
theorem dL_law_654 : decode cL_law 654 = .ok (.ireturn, 1) := by decide +kernel
theorem dL_law_655 : decode cL_law 655 = .ok (.aload_n 1, 1) := by decide +kernel
theorem dL_law_656 : decode cL_law 656 = .ok (.aload_n 0, 1) := by decide +kernel
theorem dL_law_657 : decode cL_law 657 = .ok (.iload_n 3, 1) := by decide +kernel
theorem dL_law_658 : decode cL_law 658 = .ok (.iconst 1, 1) := by decide +kernel
theorem dL_law_659 : decode cL_law 659 = .ok (.iadd, 1) := by decide +kernel
theorem dL_law_660 : decode cL_law 660 = .ok (.iaload, 1) := by decide +kernel
theorem dL_law_661 : decode cL_law 661 = .ok (.aload_n 0, 1) := by decide +kernel
theorem dL_law_662 : decode cL_law 662 = .ok (.iload_n 3, 1) := by decide +kernel
theorem dL_law_663 : decode cL_law 663 = .ok (.iconst 2, 1) := by decide +kernel
theorem dL_law_664 : decode cL_law 664 = .ok (.iadd, 1) := by decide +kernel
theorem dL_law_665 : decode cL_law 665 = .ok (.iaload, 1) := by decide +kernel
theorem dL_law_666 : decode cL_law 666 = .ok (.aload_n 0, 1) := by decide +kernel
theorem dL_law_667 : decode cL_law 667 = .ok (.iload_n 3, 1) := by decide +kernel
theorem dL_law_668 : decode cL_law 668 = .ok (.iconst 3, 1) := by decide +kernel
theorem dL_law_669 : decode cL_law 669 = .ok (.iadd, 1) := by decide +kernel
theorem dL_law_670 : decode cL_law 670 = .ok (.iaload, 1) := by decide +kernel
theorem dL_law_671 : decode cL_law 671 = .ok (.aload_n 0, 1) := by decide +kernel
theorem dL_law_672 : decode cL_law 672 = .ok (.iload_n 3, 1) := by decide +kernel
theorem dL_law_673 : decode cL_law 673 = .ok (.iconst 4, 1) := by decide +kernel
theorem dL_law_674 : decode cL_law 674 = .ok (.iadd, 1) := by decide +kernel
theorem dL_law_675 : decode cL_law 675 = .ok (.iaload, 1) := by decide +kernel
theorem dL_law_676 : decode cL_law 676 = .ok (.aload_n 0, 1) := by decide +kernel
theorem dL_law_677 : decode cL_law 677 = .ok (.iload_n 3, 1) := by decide +kernel
theorem dL_law_678 : decode cL_law 678 = .ok (.iconst 5, 1) := by decide +kernel
theorem dL_law_679 : decode cL_law 679 = .ok (.iadd, 1) := by decide +kernel
theorem dL_law_680 : decode cL_law 680 = .ok (.iaload, 1) := by decide +kernel
theorem dL_law_681 : decode cL_law 681 = .ok (.invokevirtual 62, 3) := by decide +kernel
theorem dL_law_684 : decode cL_law 684 = .ok (.aload_n 2, 1) := by decide +kernel
theorem dL_law_685 : decode cL_law 685 = .ok (.aload_n 0, 1) := by decide +kernel
theorem dL_law_686 : decode cL_law 686 = .ok (.iload_n 3, 1) := by decide +kernel
theorem dL_law_687 : decode cL_law 687 = .ok (.iconst 1, 1) := by decide +kernel
theorem dL_law_688 : decode cL_law 688 = .ok (.iadd, 1) := by decide +kernel
theorem dL_law_689 : decode cL_law 689 = .ok (.iaload, 1) := by decide +kernel
theorem dL_law_690 : decode cL_law 690 = .ok (.aload_n 0, 1) := by decide +kernel
theorem dL_law_691 : decode cL_law 691 = .ok (.iload_n 3, 1) := by decide +kernel
theorem dL_law_692 : decode cL_law 692 = .ok (.iconst 2, 1) := by decide +kernel
theorem dL_law_693 : decode cL_law 693 = .ok (.iadd, 1) := by decide +kernel
theorem dL_law_694 : decode cL_law 694 = .ok (.iaload, 1) := by decide +kernel
theorem dL_law_695 : decode cL_law 695 = .ok (.aload_n 0, 1) := by decide +kernel
theorem dL_law_696 : decode cL_law 696 = .ok (.iload_n 3, 1) := by decide +kernel
theorem dL_law_697 : decode cL_law 697 = .ok (.iconst 3, 1) := by decide +kernel
theorem dL_law_698 : decode cL_law 698 = .ok (.iadd, 1) := by decide +kernel
theorem dL_law_699 : decode cL_law 699 = .ok (.iaload, 1) := by decide +kernel
theorem dL_law_700 : decode cL_law 700 = .ok (.aload_n 0, 1) := by decide +kernel
theorem dL_law_701 : decode cL_law 701 = .ok (.iload_n 3, 1) := by decide +kernel
theorem dL_law_702 : decode cL_law 702 = .ok (.iconst 4, 1) := by decide +kernel
theorem dL_law_703 : decode cL_law 703 = .ok (.iadd, 1) := by decide +kernel
theorem dL_law_704 : decode cL_law 704 = .ok (.iaload, 1) := by decide +kernel
theorem dL_law_705 : decode cL_law 705 = .ok (.aload_n 0, 1) := by decide +kernel
theorem dL_law_706 : decode cL_law 706 = .ok (.iload_n 3, 1) := by decide +kernel
theorem dL_law_707 : decode cL_law 707 = .ok (.iconst 5, 1) := by decide +kernel
theorem dL_law_708 : decode cL_law 708 = .ok (.iadd, 1) := by decide +kernel
theorem dL_law_709 : decode cL_law 709 = .ok (.iaload, 1) := by decide +kernel
theorem dL_law_710 : decode cL_law 710 = .ok (.invokevirtual 65, 3) := by decide +kernel
theorem dL_law_713 : decode cL_law 713 = .ok (.if_icmp .eq 1569, 3) := by decide +kernel
theorem dL_law_716 : decode cL_law 716 = .ok (.iconst 0, 1) := by decide +kernel
theorem dL_law_717 : decode cL_law 717 = .ok (.ireturn, 1) := by decide +kernel
theorem dL_law_718 : decode cL_law 718 = .ok (.aload_n 1, 1) := by decide +kernel
theorem dL_law_719 : decode cL_law 719 = .ok (.aload_n 0, 1) := by decide +kernel
theorem dL_law_720 : decode cL_law 720 = .ok (.iload_n 3, 1) := by decide +kernel
theorem dL_law_721 : decode cL_law 721 = .ok (.iconst 1, 1) := by decide +kernel
theorem dL_law_722 : decode cL_law 722 = .ok (.iadd, 1) := by decide +kernel
theorem dL_law_723 : decode cL_law 723 = .ok (.iaload, 1) := by decide +kernel
theorem dL_law_724 : decode cL_law 724 = .ok (.aload_n 0, 1) := by decide +kernel
theorem dL_law_725 : decode cL_law 725 = .ok (.iload_n 3, 1) := by decide +kernel
theorem dL_law_726 : decode cL_law 726 = .ok (.iconst 2, 1) := by decide +kernel
theorem dL_law_727 : decode cL_law 727 = .ok (.iadd, 1) := by decide +kernel
theorem dL_law_728 : decode cL_law 728 = .ok (.iaload, 1) := by decide +kernel
theorem dL_law_729 : decode cL_law 729 = .ok (.aload_n 0, 1) := by decide +kernel
theorem dL_law_730 : decode cL_law 730 = .ok (.iload_n 3, 1) := by decide +kernel
theorem dL_law_731 : decode cL_law 731 = .ok (.iconst 3, 1) := by decide +kernel
theorem dL_law_732 : decode cL_law 732 = .ok (.iadd, 1) := by decide +kernel
theorem dL_law_733 : decode cL_law 733 = .ok (.iaload, 1) := by decide +kernel
theorem dL_law_734 : decode cL_law 734 = .ok (.aload_n 0, 1) := by decide +kernel
theorem dL_law_735 : decode cL_law 735 = .ok (.iload_n 3, 1) := by decide +kernel
theorem dL_law_736 : decode cL_law 736 = .ok (.iconst 4, 1) := by decide +kernel
theorem dL_law_737 : decode cL_law 737 = .ok (.iadd, 1) := by decide +kernel
theorem dL_law_738 : decode cL_law 738 = .ok (.iaload, 1) := by decide +kernel
theorem dL_law_739 : decode cL_law 739 = .ok (.invokevirtual 66, 3) := by decide +kernel
theorem dL_law_742 : decode cL_law 742 = .ok (.aload_n 2, 1) := by decide +kernel
theorem dL_law_743 : decode cL_law 743 = .ok (.aload_n 0, 1) := by decide +kernel
theorem dL_law_744 : decode cL_law 744 = .ok (.iload_n 3, 1) := by decide +kernel
theorem dL_law_745 : decode cL_law 745 = .ok (.iconst 1, 1) := by decide +kernel
theorem dL_law_746 : decode cL_law 746 = .ok (.iadd, 1) := by decide +kernel
theorem dL_law_747 : decode cL_law 747 = .ok (.iaload, 1) := by decide +kernel
theorem dL_law_748 : decode cL_law 748 = .ok (.aload_n 0, 1) := by decide +kernel
theorem dL_law_749 : decode cL_law 749 = .ok (.iload_n 3, 1) := by decide +kernel
theorem dL_law_750 : decode cL_law 750 = .ok (.iconst 2, 1) := by decide +kernel
theorem dL_law_751 : decode cL_law 751 = .ok (.iadd, 1) := by decide +kernel
theorem dL_law_752 : decode cL_law 752 = .ok (.iaload, 1) := by decide +kernel
theorem dL_law_753 : decode cL_law 753 = .ok (.aload_n 0, 1) := by decide +kernel
theorem dL_law_754 : decode cL_law 754 = .ok (.iload_n 3, 1) := by decide +kernel
theorem dL_law_755 : decode cL_law 755 = .ok (.iconst 3, 1) := by decide +kernel
theorem dL_law_756 : decode cL_law 756 = .ok (.iadd, 1) := by decide +kernel
theorem dL_law_757 : decode cL_law 757 = .ok (.iaload, 1) := by decide +kernel
theorem dL_law_758 : decode cL_law 758 = .ok (.aload_n 0, 1) := by decide +kernel
theorem dL_law_759 : decode cL_law 759 = .ok (.iload_n 3, 1) := by decide +kernel
theorem dL_law_760 : decode cL_law 760 = .ok (.iconst 4, 1) := by decide +kernel
theorem dL_law_761 : decode cL_law 761 = .ok (.iadd, 1) := by decide +kernel
theorem dL_law_762 : decode cL_law 762 = .ok (.iaload, 1) := by decide +kernel
theorem dL_law_763 : decode cL_law 763 = .ok (.invokevirtual 69, 3) := by decide +kernel
theorem dL_law_766 : decode cL_law 766 = .ok (.if_icmp .eq 1516, 3) := by decide +kernel
theorem dL_law_769 : decode cL_law 769 = .ok (.iconst 0, 1) := by decide +kernel
theorem dL_law_770 : decode cL_law 770 = .ok (.ireturn, 1) := by decide +kernel
theorem dL_law_771 : decode cL_law 771 = .ok (.aload_n 1, 1) := by decide +kernel
theorem dL_law_772 : decode cL_law 772 = .ok (.aload_n 0, 1) := by decide +kernel
theorem dL_law_773 : decode cL_law 773 = .ok (.iload_n 3, 1) := by decide +kernel
theorem dL_law_774 : decode cL_law 774 = .ok (.iconst 1, 1) := by decide +kernel
theorem dL_law_775 : decode cL_law 775 = .ok (.iadd, 1) := by decide +kernel
theorem dL_law_776 : decode cL_law 776 = .ok (.iaload, 1) := by decide +kernel
theorem dL_law_777 : decode cL_law 777 = .ok (.aload_n 0, 1) := by decide +kernel
theorem dL_law_778 : decode cL_law 778 = .ok (.iload_n 3, 1) := by decide +kernel
theorem dL_law_779 : decode cL_law 779 = .ok (.iconst 2, 1) := by decide +kernel
theorem dL_law_780 : decode cL_law 780 = .ok (.iadd, 1) := by decide +kernel
theorem dL_law_781 : decode cL_law 781 = .ok (.iaload, 1) := by decide +kernel
theorem dL_law_782 : decode cL_law 782 = .ok (.aload_n 0, 1) := by decide +kernel
theorem dL_law_783 : decode cL_law 783 = .ok (.iload_n 3, 1) := by decide +kernel
theorem dL_law_784 : decode cL_law 784 = .ok (.iconst 3, 1) := by decide +kernel
theorem dL_law_785 : decode cL_law 785 = .ok (.iadd, 1) := by decide +kernel
theorem dL_law_786 : decode cL_law 786 = .ok (.iaload, 1) := by decide +kernel
theorem dL_law_787 : decode cL_law 787 = .ok (.invokevirtual 70, 3) := by decide +kernel
theorem dL_law_790 : decode cL_law 790 = .ok (.aload_n 2, 1) := by decide +kernel
theorem dL_law_791 : decode cL_law 791 = .ok (.aload_n 0, 1) := by decide +kernel
theorem dL_law_792 : decode cL_law 792 = .ok (.iload_n 3, 1) := by decide +kernel
theorem dL_law_793 : decode cL_law 793 = .ok (.iconst 1, 1) := by decide +kernel
theorem dL_law_794 : decode cL_law 794 = .ok (.iadd, 1) := by decide +kernel
theorem dL_law_795 : decode cL_law 795 = .ok (.iaload, 1) := by decide +kernel
theorem dL_law_796 : decode cL_law 796 = .ok (.aload_n 0, 1) := by decide +kernel
theorem dL_law_797 : decode cL_law 797 = .ok (.iload_n 3, 1) := by decide +kernel
theorem dL_law_798 : decode cL_law 798 = .ok (.iconst 2, 1) := by decide +kernel
theorem dL_law_799 : decode cL_law 799 = .ok (.iadd, 1) := by decide +kernel
theorem dL_law_800 : decode cL_law 800 = .ok (.iaload, 1) := by decide +kernel
theorem dL_law_801 : decode cL_law 801 = .ok (.aload_n 0, 1) := by decide +kernel
theorem dL_law_802 : decode cL_law 802 = .ok (.iload_n 3, 1) := by decide +kernel
theorem dL_law_803 : decode cL_law 803 = .ok (.iconst 3, 1) := by decide +kernel
theorem dL_law_804 : decode cL_law 804 = .ok (.iadd, 1) := by decide +kernel
theorem dL_law_805 : decode cL_law 805 = .ok (.iaload, 1) := by decide +kernel
theorem dL_law_806 : decode cL_law 806 = .ok (.invokevirtual 74, 3) := by decide +kernel
theorem dL_law_809 : decode cL_law 809 = .ok (.lcmp, 1) := by decide +kernel
theorem dL_law_810 : decode cL_law 810 = .ok (.ifCond .eq 1472, 3) := by decide +kernel
theorem dL_law_813 : decode cL_law 813 = .ok (.iconst 0, 1) := by decide +kernel
theorem dL_law_814 : decode cL_law 814 = .ok (.ireturn, 1) := by decide +kernel
theorem dL_law_815 : decode cL_law 815 = .ok (.aload_n 1, 1) := by decide +kernel
theorem dL_law_816 : decode cL_law 816 = .ok (.aload_n 0, 1) := by decide +kernel
theorem dL_law_817 : decode cL_law 817 = .ok (.iload_n 3, 1) := by decide +kernel
theorem dL_law_818 : decode cL_law 818 = .ok (.iconst 1, 1) := by decide +kernel
theorem dL_law_819 : decode cL_law 819 = .ok (.iadd, 1) := by decide +kernel
theorem dL_law_820 : decode cL_law 820 = .ok (.iaload, 1) := by decide +kernel
theorem dL_law_821 : decode cL_law 821 = .ok (.aload_n 0, 1) := by decide +kernel
theorem dL_law_822 : decode cL_law 822 = .ok (.iload_n 3, 1) := by decide +kernel
theorem dL_law_823 : decode cL_law 823 = .ok (.iconst 2, 1) := by decide +kernel
theorem dL_law_824 : decode cL_law 824 = .ok (.iadd, 1) := by decide +kernel
theorem dL_law_825 : decode cL_law 825 = .ok (.iaload, 1) := by decide +kernel
theorem dL_law_826 : decode cL_law 826 = .ok (.aload_n 0, 1) := by decide +kernel
theorem dL_law_827 : decode cL_law 827 = .ok (.iload_n 3, 1) := by decide +kernel
theorem dL_law_828 : decode cL_law 828 = .ok (.iconst 3, 1) := by decide +kernel
theorem dL_law_829 : decode cL_law 829 = .ok (.iadd, 1) := by decide +kernel
theorem dL_law_830 : decode cL_law 830 = .ok (.iaload, 1) := by decide +kernel
theorem dL_law_831 : decode cL_law 831 = .ok (.aload_n 0, 1) := by decide +kernel
theorem dL_law_832 : decode cL_law 832 = .ok (.iload_n 3, 1) := by decide +kernel
theorem dL_law_833 : decode cL_law 833 = .ok (.iconst 4, 1) := by decide +kernel
theorem dL_law_834 : decode cL_law 834 = .ok (.iadd, 1) := by decide +kernel
theorem dL_law_835 : decode cL_law 835 = .ok (.iaload, 1) := by decide +kernel
theorem dL_law_836 : decode cL_law 836 = .ok (.aload_n 0, 1) := by decide +kernel
theorem dL_law_837 : decode cL_law 837 = .ok (.iload_n 3, 1) := by decide +kernel
theorem dL_law_838 : decode cL_law 838 = .ok (.iconst 5, 1) := by decide +kernel
theorem dL_law_839 : decode cL_law 839 = .ok (.iadd, 1) := by decide +kernel
theorem dL_law_840 : decode cL_law 840 = .ok (.iaload, 1) := by decide +kernel
theorem dL_law_841 : decode cL_law 841 = .ok (.aload_n 0, 1) := by decide +kernel
theorem dL_law_842 : decode cL_law 842 = .ok (.iload_n 3, 1) := by decide +kernel
theorem dL_law_843 : decode cL_law 843 = .ok (.bipush 6, 2) := by decide +kernel
theorem dL_law_845 : decode cL_law 845 = .ok (.iadd, 1) := by decide +kernel
theorem dL_law_846 : decode cL_law 846 = .ok (.iaload, 1) := by decide +kernel
theorem dL_law_847 : decode cL_law 847 = .ok (.aload_n 0, 1) := by decide +kernel
theorem dL_law_848 : decode cL_law 848 = .ok (.iload_n 3, 1) := by decide +kernel
theorem dL_law_849 : decode cL_law 849 = .ok (.bipush 7, 2) := by decide +kernel
theorem dL_law_851 : decode cL_law 851 = .ok (.iadd, 1) := by decide +kernel
theorem dL_law_852 : decode cL_law 852 = .ok (.iaload, 1) := by decide +kernel
theorem dL_law_853 : decode cL_law 853 = .ok (.aload_n 0, 1) := by decide +kernel
theorem dL_law_854 : decode cL_law 854 = .ok (.iload_n 3, 1) := by decide +kernel
theorem dL_law_855 : decode cL_law 855 = .ok (.bipush 8, 2) := by decide +kernel
theorem dL_law_857 : decode cL_law 857 = .ok (.iadd, 1) := by decide +kernel
theorem dL_law_858 : decode cL_law 858 = .ok (.iaload, 1) := by decide +kernel
theorem dL_law_859 : decode cL_law 859 = .ok (.aload_n 0, 1) := by decide +kernel
theorem dL_law_860 : decode cL_law 860 = .ok (.iload_n 3, 1) := by decide +kernel
theorem dL_law_861 : decode cL_law 861 = .ok (.bipush 9, 2) := by decide +kernel
theorem dL_law_863 : decode cL_law 863 = .ok (.iadd, 1) := by decide +kernel
theorem dL_law_864 : decode cL_law 864 = .ok (.iaload, 1) := by decide +kernel
theorem dL_law_865 : decode cL_law 865 = .ok (.invokevirtual 75, 3) := by decide +kernel
theorem dL_law_868 : decode cL_law 868 = .ok (.aload_n 2, 1) := by decide +kernel
theorem dL_law_869 : decode cL_law 869 = .ok (.aload_n 0, 1) := by decide +kernel
theorem dL_law_870 : decode cL_law 870 = .ok (.iload_n 3, 1) := by decide +kernel
theorem dL_law_871 : decode cL_law 871 = .ok (.iconst 1, 1) := by decide +kernel
theorem dL_law_872 : decode cL_law 872 = .ok (.iadd, 1) := by decide +kernel
theorem dL_law_873 : decode cL_law 873 = .ok (.iaload, 1) := by decide +kernel
theorem dL_law_874 : decode cL_law 874 = .ok (.aload_n 0, 1) := by decide +kernel
theorem dL_law_875 : decode cL_law 875 = .ok (.iload_n 3, 1) := by decide +kernel
theorem dL_law_876 : decode cL_law 876 = .ok (.iconst 2, 1) := by decide +kernel
theorem dL_law_877 : decode cL_law 877 = .ok (.iadd, 1) := by decide +kernel
theorem dL_law_878 : decode cL_law 878 = .ok (.iaload, 1) := by decide +kernel
theorem dL_law_879 : decode cL_law 879 = .ok (.aload_n 0, 1) := by decide +kernel
theorem dL_law_880 : decode cL_law 880 = .ok (.iload_n 3, 1) := by decide +kernel
theorem dL_law_881 : decode cL_law 881 = .ok (.iconst 3, 1) := by decide +kernel
theorem dL_law_882 : decode cL_law 882 = .ok (.iadd, 1) := by decide +kernel
theorem dL_law_883 : decode cL_law 883 = .ok (.iaload, 1) := by decide +kernel
theorem dL_law_884 : decode cL_law 884 = .ok (.aload_n 0, 1) := by decide +kernel
theorem dL_law_885 : decode cL_law 885 = .ok (.iload_n 3, 1) := by decide +kernel
theorem dL_law_886 : decode cL_law 886 = .ok (.iconst 4, 1) := by decide +kernel
theorem dL_law_887 : decode cL_law 887 = .ok (.iadd, 1) := by decide +kernel
theorem dL_law_888 : decode cL_law 888 = .ok (.iaload, 1) := by decide +kernel
theorem dL_law_889 : decode cL_law 889 = .ok (.aload_n 0, 1) := by decide +kernel
theorem dL_law_890 : decode cL_law 890 = .ok (.iload_n 3, 1) := by decide +kernel
theorem dL_law_891 : decode cL_law 891 = .ok (.iconst 5, 1) := by decide +kernel
theorem dL_law_892 : decode cL_law 892 = .ok (.iadd, 1) := by decide +kernel
theorem dL_law_893 : decode cL_law 893 = .ok (.iaload, 1) := by decide +kernel
theorem dL_law_894 : decode cL_law 894 = .ok (.aload_n 0, 1) := by decide +kernel
theorem dL_law_895 : decode cL_law 895 = .ok (.iload_n 3, 1) := by decide +kernel
theorem dL_law_896 : decode cL_law 896 = .ok (.bipush 6, 2) := by decide +kernel
theorem dL_law_898 : decode cL_law 898 = .ok (.iadd, 1) := by decide +kernel
theorem dL_law_899 : decode cL_law 899 = .ok (.iaload, 1) := by decide +kernel
theorem dL_law_900 : decode cL_law 900 = .ok (.aload_n 0, 1) := by decide +kernel
theorem dL_law_901 : decode cL_law 901 = .ok (.iload_n 3, 1) := by decide +kernel
theorem dL_law_902 : decode cL_law 902 = .ok (.bipush 7, 2) := by decide +kernel
theorem dL_law_904 : decode cL_law 904 = .ok (.iadd, 1) := by decide +kernel
theorem dL_law_905 : decode cL_law 905 = .ok (.iaload, 1) := by decide +kernel
theorem dL_law_906 : decode cL_law 906 = .ok (.aload_n 0, 1) := by decide +kernel
theorem dL_law_907 : decode cL_law 907 = .ok (.iload_n 3, 1) := by decide +kernel
theorem dL_law_908 : decode cL_law 908 = .ok (.bipush 8, 2) := by decide +kernel
theorem dL_law_910 : decode cL_law 910 = .ok (.iadd, 1) := by decide +kernel
theorem dL_law_911 : decode cL_law 911 = .ok (.iaload, 1) := by decide +kernel
theorem dL_law_912 : decode cL_law 912 = .ok (.aload_n 0, 1) := by decide +kernel
theorem dL_law_913 : decode cL_law 913 = .ok (.iload_n 3, 1) := by decide +kernel
theorem dL_law_914 : decode cL_law 914 = .ok (.bipush 9, 2) := by decide +kernel
theorem dL_law_916 : decode cL_law 916 = .ok (.iadd, 1) := by decide +kernel
theorem dL_law_917 : decode cL_law 917 = .ok (.iaload, 1) := by decide +kernel
theorem dL_law_918 : decode cL_law 918 = .ok (.invokevirtual 79, 3) := by decide +kernel
theorem dL_law_921 : decode cL_law 921 = .ok (.if_icmp .eq 1361, 3) := by decide +kernel
theorem dL_law_924 : decode cL_law 924 = .ok (.iconst 0, 1) := by decide +kernel
theorem dL_law_925 : decode cL_law 925 = .ok (.ireturn, 1) := by decide +kernel
theorem dL_law_926 : decode cL_law 926 = .ok (.aload_n 1, 1) := by decide +kernel
theorem dL_law_927 : decode cL_law 927 = .ok (.aload_n 0, 1) := by decide +kernel
theorem dL_law_928 : decode cL_law 928 = .ok (.iload_n 3, 1) := by decide +kernel
theorem dL_law_929 : decode cL_law 929 = .ok (.iconst 1, 1) := by decide +kernel
theorem dL_law_930 : decode cL_law 930 = .ok (.iadd, 1) := by decide +kernel
theorem dL_law_931 : decode cL_law 931 = .ok (.iaload, 1) := by decide +kernel
theorem dL_law_932 : decode cL_law 932 = .ok (.aload_n 0, 1) := by decide +kernel
theorem dL_law_933 : decode cL_law 933 = .ok (.iload_n 3, 1) := by decide +kernel
theorem dL_law_934 : decode cL_law 934 = .ok (.iconst 2, 1) := by decide +kernel
theorem dL_law_935 : decode cL_law 935 = .ok (.iadd, 1) := by decide +kernel
theorem dL_law_936 : decode cL_law 936 = .ok (.iaload, 1) := by decide +kernel
theorem dL_law_937 : decode cL_law 937 = .ok (.aload_n 0, 1) := by decide +kernel
theorem dL_law_938 : decode cL_law 938 = .ok (.iload_n 3, 1) := by decide +kernel
theorem dL_law_939 : decode cL_law 939 = .ok (.iconst 3, 1) := by decide +kernel
theorem dL_law_940 : decode cL_law 940 = .ok (.iadd, 1) := by decide +kernel
theorem dL_law_941 : decode cL_law 941 = .ok (.iaload, 1) := by decide +kernel
theorem dL_law_942 : decode cL_law 942 = .ok (.aload_n 0, 1) := by decide +kernel
theorem dL_law_943 : decode cL_law 943 = .ok (.iload_n 3, 1) := by decide +kernel
theorem dL_law_944 : decode cL_law 944 = .ok (.iconst 4, 1) := by decide +kernel
theorem dL_law_945 : decode cL_law 945 = .ok (.iadd, 1) := by decide +kernel
theorem dL_law_946 : decode cL_law 946 = .ok (.iaload, 1) := by decide +kernel
theorem dL_law_947 : decode cL_law 947 = .ok (.aload_n 0, 1) := by decide +kernel
theorem dL_law_948 : decode cL_law 948 = .ok (.iload_n 3, 1) := by decide +kernel
theorem dL_law_949 : decode cL_law 949 = .ok (.iconst 5, 1) := by decide +kernel
theorem dL_law_950 : decode cL_law 950 = .ok (.iadd, 1) := by decide +kernel
theorem dL_law_951 : decode cL_law 951 = .ok (.iaload, 1) := by decide +kernel
theorem dL_law_952 : decode cL_law 952 = .ok (.aload_n 0, 1) := by decide +kernel
theorem dL_law_953 : decode cL_law 953 = .ok (.iload_n 3, 1) := by decide +kernel
theorem dL_law_954 : decode cL_law 954 = .ok (.bipush 6, 2) := by decide +kernel
theorem dL_law_956 : decode cL_law 956 = .ok (.iadd, 1) := by decide +kernel
theorem dL_law_957 : decode cL_law 957 = .ok (.iaload, 1) := by decide +kernel
theorem dL_law_958 : decode cL_law 958 = .ok (.aload_n 0, 1) := by decide +kernel
theorem dL_law_959 : decode cL_law 959 = .ok (.iload_n 3, 1) := by decide +kernel
theorem dL_law_960 : decode cL_law 960 = .ok (.bipush 7, 2) := by decide +kernel
theorem dL_law_962 : decode cL_law 962 = .ok (.iadd, 1) := by decide +kernel
theorem dL_law_963 : decode cL_law 963 = .ok (.iaload, 1) := by decide +kernel
theorem dL_law_964 : decode cL_law 964 = .ok (.aload_n 0, 1) := by decide +kernel
theorem dL_law_965 : decode cL_law 965 = .ok (.iload_n 3, 1) := by decide +kernel
theorem dL_law_966 : decode cL_law 966 = .ok (.bipush 8, 2) := by decide +kernel
theorem dL_law_968 : decode cL_law 968 = .ok (.iadd, 1) := by decide +kernel
theorem dL_law_969 : decode cL_law 969 = .ok (.iaload, 1) := by decide +kernel
theorem dL_law_970 : decode cL_law 970 = .ok (.aload_n 0, 1) := by decide +kernel
theorem dL_law_971 : decode cL_law 971 = .ok (.iload_n 3, 1) := by decide +kernel
theorem dL_law_972 : decode cL_law 972 = .ok (.bipush 9, 2) := by decide +kernel
theorem dL_law_974 : decode cL_law 974 = .ok (.iadd, 1) := by decide +kernel
theorem dL_law_975 : decode cL_law 975 = .ok (.iaload, 1) := by decide +kernel
theorem dL_law_976 : decode cL_law 976 = .ok (.ifCond .eq 7, 3) := by decide +kernel
theorem dL_law_979 : decode cL_law 979 = .ok (.iconst 1, 1) := by decide +kernel
theorem dL_law_980 : decode cL_law 980 = .ok (.goto 4, 3) := by decide +kernel
theorem dL_law_983 : decode cL_law 983 = .ok (.iconst 0, 1) := by decide +kernel
theorem dL_law_984 : decode cL_law 984 = .ok (.invokevirtual 80, 3) := by decide +kernel
theorem dL_law_987 : decode cL_law 987 = .ok (.aload_n 2, 1) := by decide +kernel
theorem dL_law_988 : decode cL_law 988 = .ok (.aload_n 0, 1) := by decide +kernel
theorem dL_law_989 : decode cL_law 989 = .ok (.iload_n 3, 1) := by decide +kernel
theorem dL_law_990 : decode cL_law 990 = .ok (.iconst 1, 1) := by decide +kernel
theorem dL_law_991 : decode cL_law 991 = .ok (.iadd, 1) := by decide +kernel
theorem dL_law_992 : decode cL_law 992 = .ok (.iaload, 1) := by decide +kernel
theorem dL_law_993 : decode cL_law 993 = .ok (.aload_n 0, 1) := by decide +kernel
theorem dL_law_994 : decode cL_law 994 = .ok (.iload_n 3, 1) := by decide +kernel
theorem dL_law_995 : decode cL_law 995 = .ok (.iconst 2, 1) := by decide +kernel
theorem dL_law_996 : decode cL_law 996 = .ok (.iadd, 1) := by decide +kernel
theorem dL_law_997 : decode cL_law 997 = .ok (.iaload, 1) := by decide +kernel
theorem dL_law_998 : decode cL_law 998 = .ok (.aload_n 0, 1) := by decide +kernel
theorem dL_law_999 : decode cL_law 999 = .ok (.iload_n 3, 1) := by decide +kernel
theorem dL_law_1000 : decode cL_law 1000 = .ok (.iconst 3, 1) := by decide +kernel
theorem dL_law_1001 : decode cL_law 1001 = .ok (.iadd, 1) := by decide +kernel
theorem dL_law_1002 : decode cL_law 1002 = .ok (.iaload, 1) := by decide +kernel
theorem dL_law_1003 : decode cL_law 1003 = .ok (.aload_n 0, 1) := by decide +kernel
theorem dL_law_1004 : decode cL_law 1004 = .ok (.iload_n 3, 1) := by decide +kernel
theorem dL_law_1005 : decode cL_law 1005 = .ok (.iconst 4, 1) := by decide +kernel
theorem dL_law_1006 : decode cL_law 1006 = .ok (.iadd, 1) := by decide +kernel
theorem dL_law_1007 : decode cL_law 1007 = .ok (.iaload, 1) := by decide +kernel
theorem dL_law_1008 : decode cL_law 1008 = .ok (.aload_n 0, 1) := by decide +kernel
theorem dL_law_1009 : decode cL_law 1009 = .ok (.iload_n 3, 1) := by decide +kernel
theorem dL_law_1010 : decode cL_law 1010 = .ok (.iconst 5, 1) := by decide +kernel
theorem dL_law_1011 : decode cL_law 1011 = .ok (.iadd, 1) := by decide +kernel
theorem dL_law_1012 : decode cL_law 1012 = .ok (.iaload, 1) := by decide +kernel
theorem dL_law_1013 : decode cL_law 1013 = .ok (.aload_n 0, 1) := by decide +kernel
theorem dL_law_1014 : decode cL_law 1014 = .ok (.iload_n 3, 1) := by decide +kernel
theorem dL_law_1015 : decode cL_law 1015 = .ok (.bipush 6, 2) := by decide +kernel
theorem dL_law_1017 : decode cL_law 1017 = .ok (.iadd, 1) := by decide +kernel
theorem dL_law_1018 : decode cL_law 1018 = .ok (.iaload, 1) := by decide +kernel
theorem dL_law_1019 : decode cL_law 1019 = .ok (.aload_n 0, 1) := by decide +kernel
theorem dL_law_1020 : decode cL_law 1020 = .ok (.iload_n 3, 1) := by decide +kernel
theorem dL_law_1021 : decode cL_law 1021 = .ok (.bipush 7, 2) := by decide +kernel
theorem dL_law_1023 : decode cL_law 1023 = .ok (.iadd, 1) := by decide +kernel
theorem dL_law_1024 : decode cL_law 1024 = .ok (.iaload, 1) := by decide +kernel
theorem dL_law_1025 : decode cL_law 1025 = .ok (.aload_n 0, 1) := by decide +kernel
theorem dL_law_1026 : decode cL_law 1026 = .ok (.iload_n 3, 1) := by decide +kernel
theorem dL_law_1027 : decode cL_law 1027 = .ok (.bipush 8, 2) := by decide +kernel
theorem dL_law_1029 : decode cL_law 1029 = .ok (.iadd, 1) := by decide +kernel
theorem dL_law_1030 : decode cL_law 1030 = .ok (.iaload, 1) := by decide +kernel
theorem dL_law_1031 : decode cL_law 1031 = .ok (.aload_n 0, 1) := by decide +kernel
theorem dL_law_1032 : decode cL_law 1032 = .ok (.iload_n 3, 1) := by decide +kernel
theorem dL_law_1033 : decode cL_law 1033 = .ok (.bipush 9, 2) := by decide +kernel
theorem dL_law_1035 : decode cL_law 1035 = .ok (.iadd, 1) := by decide +kernel
theorem dL_law_1036 : decode cL_law 1036 = .ok (.iaload, 1) := by decide +kernel
theorem dL_law_1037 : decode cL_law 1037 = .ok (.ifCond .eq 7, 3) := by decide +kernel
theorem dL_law_1040 : decode cL_law 1040 = .ok (.iconst 1, 1) := by decide +kernel
theorem dL_law_1041 : decode cL_law 1041 = .ok (.goto 4, 3) := by decide +kernel
theorem dL_law_1044 : decode cL_law 1044 = .ok (.iconst 0, 1) := by decide +kernel
theorem dL_law_1045 : decode cL_law 1045 = .ok (.invokevirtual 84, 3) := by decide +kernel
theorem dL_law_1048 : decode cL_law 1048 = .ok (.lcmp, 1) := by decide +kernel
theorem dL_law_1049 : decode cL_law 1049 = .ok (.ifCond .eq 1233, 3) := by decide +kernel
theorem dL_law_1052 : decode cL_law 1052 = .ok (.iconst 0, 1) := by decide +kernel
theorem dL_law_1053 : decode cL_law 1053 = .ok (.ireturn, 1) := by decide +kernel
theorem dL_law_1054 : decode cL_law 1054 = .ok (.aload_n 1, 1) := by decide +kernel
theorem dL_law_1055 : decode cL_law 1055 = .ok (.aload_n 0, 1) := by decide +kernel
theorem dL_law_1056 : decode cL_law 1056 = .ok (.iload_n 3, 1) := by decide +kernel
theorem dL_law_1057 : decode cL_law 1057 = .ok (.iconst 1, 1) := by decide +kernel
theorem dL_law_1058 : decode cL_law 1058 = .ok (.iadd, 1) := by decide +kernel
theorem dL_law_1059 : decode cL_law 1059 = .ok (.iaload, 1) := by decide +kernel
theorem dL_law_1060 : decode cL_law 1060 = .ok (.aload_n 0, 1) := by decide +kernel
theorem dL_law_1061 : decode cL_law 1061 = .ok (.iload_n 3, 1) := by decide +kernel
theorem dL_law_1062 : decode cL_law 1062 = .ok (.iconst 2, 1) := by decide +kernel
theorem dL_law_1063 : decode cL_law 1063 = .ok (.iadd, 1) := by decide +kernel
theorem dL_law_1064 : decode cL_law 1064 = .ok (.iaload, 1) := by decide +kernel
theorem dL_law_1065 : decode cL_law 1065 = .ok (.aload_n 0, 1) := by decide +kernel
theorem dL_law_1066 : decode cL_law 1066 = .ok (.iload_n 3, 1) := by decide +kernel
theorem dL_law_1067 : decode cL_law 1067 = .ok (.iconst 3, 1) := by decide +kernel
theorem dL_law_1068 : decode cL_law 1068 = .ok (.iadd, 1) := by decide +kernel
theorem dL_law_1069 : decode cL_law 1069 = .ok (.iaload, 1) := by decide +kernel
theorem dL_law_1070 : decode cL_law 1070 = .ok (.aload_n 0, 1) := by decide +kernel
theorem dL_law_1071 : decode cL_law 1071 = .ok (.iload_n 3, 1) := by decide +kernel
theorem dL_law_1072 : decode cL_law 1072 = .ok (.iconst 4, 1) := by decide +kernel
theorem dL_law_1073 : decode cL_law 1073 = .ok (.iadd, 1) := by decide +kernel
theorem dL_law_1074 : decode cL_law 1074 = .ok (.iaload, 1) := by decide +kernel
theorem dL_law_1075 : decode cL_law 1075 = .ok (.aload_n 0, 1) := by decide +kernel
theorem dL_law_1076 : decode cL_law 1076 = .ok (.iload_n 3, 1) := by decide +kernel
theorem dL_law_1077 : decode cL_law 1077 = .ok (.iconst 5, 1) := by decide +kernel
theorem dL_law_1078 : decode cL_law 1078 = .ok (.iadd, 1) := by decide +kernel
theorem dL_law_1079 : decode cL_law 1079 = .ok (.iaload, 1) := by decide +kernel
theorem dL_law_1080 : decode cL_law 1080 = .ok (.aload_n 0, 1) := by decide +kernel
theorem dL_law_1081 : decode cL_law 1081 = .ok (.iload_n 3, 1) := by decide +kernel
theorem dL_law_1082 : decode cL_law 1082 = .ok (.bipush 6, 2) := by decide +kernel
theorem dL_law_1084 : decode cL_law 1084 = .ok (.iadd, 1) := by decide +kernel
theorem dL_law_1085 : decode cL_law 1085 = .ok (.iaload, 1) := by decide +kernel
theorem dL_law_1086 : decode cL_law 1086 = .ok (.aload_n 0, 1) := by decide +kernel
theorem dL_law_1087 : decode cL_law 1087 = .ok (.iload_n 3, 1) := by decide +kernel
theorem dL_law_1088 : decode cL_law 1088 = .ok (.bipush 7, 2) := by decide +kernel
theorem dL_law_1090 : decode cL_law 1090 = .ok (.iadd, 1) := by decide +kernel
theorem dL_law_1091 : decode cL_law 1091 = .ok (.iaload, 1) := by decide +kernel
theorem dL_law_1092 : decode cL_law 1092 = .ok (.invokevirtual 85, 3) := by decide +kernel
theorem dL_law_1095 : decode cL_law 1095 = .ok (.aload_n 2, 1) := by decide +kernel
theorem dL_law_1096 : decode cL_law 1096 = .ok (.aload_n 0, 1) := by decide +kernel
theorem dL_law_1097 : decode cL_law 1097 = .ok (.iload_n 3, 1) := by decide +kernel
theorem dL_law_1098 : decode cL_law 1098 = .ok (.iconst 1, 1) := by decide +kernel
theorem dL_law_1099 : decode cL_law 1099 = .ok (.iadd, 1) := by decide +kernel
theorem dL_law_1100 : decode cL_law 1100 = .ok (.iaload, 1) := by decide +kernel
theorem dL_law_1101 : decode cL_law 1101 = .ok (.aload_n 0, 1) := by decide +kernel
theorem dL_law_1102 : decode cL_law 1102 = .ok (.iload_n 3, 1) := by decide +kernel
theorem dL_law_1103 : decode cL_law 1103 = .ok (.iconst 2, 1) := by decide +kernel
theorem dL_law_1104 : decode cL_law 1104 = .ok (.iadd, 1) := by decide +kernel
theorem dL_law_1105 : decode cL_law 1105 = .ok (.iaload, 1) := by decide +kernel
theorem dL_law_1106 : decode cL_law 1106 = .ok (.aload_n 0, 1) := by decide +kernel
theorem dL_law_1107 : decode cL_law 1107 = .ok (.iload_n 3, 1) := by decide +kernel
theorem dL_law_1108 : decode cL_law 1108 = .ok (.iconst 3, 1) := by decide +kernel
theorem dL_law_1109 : decode cL_law 1109 = .ok (.iadd, 1) := by decide +kernel
theorem dL_law_1110 : decode cL_law 1110 = .ok (.iaload, 1) := by decide +kernel
theorem dL_law_1111 : decode cL_law 1111 = .ok (.aload_n 0, 1) := by decide +kernel
theorem dL_law_1112 : decode cL_law 1112 = .ok (.iload_n 3, 1) := by decide +kernel
theorem dL_law_1113 : decode cL_law 1113 = .ok (.iconst 4, 1) := by decide +kernel
theorem dL_law_1114 : decode cL_law 1114 = .ok (.iadd, 1) := by decide +kernel
theorem dL_law_1115 : decode cL_law 1115 = .ok (.iaload, 1) := by decide +kernel
theorem dL_law_1116 : decode cL_law 1116 = .ok (.aload_n 0, 1) := by decide +kernel
theorem dL_law_1117 : decode cL_law 1117 = .ok (.iload_n 3, 1) := by decide +kernel
theorem dL_law_1118 : decode cL_law 1118 = .ok (.iconst 5, 1) := by decide +kernel
theorem dL_law_1119 : decode cL_law 1119 = .ok (.iadd, 1) := by decide +kernel
theorem dL_law_1120 : decode cL_law 1120 = .ok (.iaload, 1) := by decide +kernel
theorem dL_law_1121 : decode cL_law 1121 = .ok (.aload_n 0, 1) := by decide +kernel
theorem dL_law_1122 : decode cL_law 1122 = .ok (.iload_n 3, 1) := by decide +kernel
theorem dL_law_1123 : decode cL_law 1123 = .ok (.bipush 6, 2) := by decide +kernel
theorem dL_law_1125 : decode cL_law 1125 = .ok (.iadd, 1) := by decide +kernel
theorem dL_law_1126 : decode cL_law 1126 = .ok (.iaload, 1) := by decide +kernel
theorem dL_law_1127 : decode cL_law 1127 = .ok (.aload_n 0, 1) := by decide +kernel
theorem dL_law_1128 : decode cL_law 1128 = .ok (.iload_n 3, 1) := by decide +kernel
theorem dL_law_1129 : decode cL_law 1129 = .ok (.bipush 7, 2) := by decide +kernel
theorem dL_law_1131 : decode cL_law 1131 = .ok (.iadd, 1) := by decide +kernel
theorem dL_law_1132 : decode cL_law 1132 = .ok (.iaload, 1) := by decide +kernel
theorem dL_law_1133 : decode cL_law 1133 = .ok (.invokevirtual 89, 3) := by decide +kernel
theorem dL_law_1136 : decode cL_law 1136 = .ok (.if_icmp .eq 1146, 3) := by decide +kernel
theorem dL_law_1139 : decode cL_law 1139 = .ok (.iconst 0, 1) := by decide +kernel
theorem dL_law_1140 : decode cL_law 1140 = .ok (.ireturn, 1) := by decide +kernel
theorem dL_law_1141 : decode cL_law 1141 = .ok (.aload_n 1, 1) := by decide +kernel
theorem dL_law_1142 : decode cL_law 1142 = .ok (.aload_n 0, 1) := by decide +kernel
theorem dL_law_1143 : decode cL_law 1143 = .ok (.iload_n 3, 1) := by decide +kernel
theorem dL_law_1144 : decode cL_law 1144 = .ok (.iconst 1, 1) := by decide +kernel
theorem dL_law_1145 : decode cL_law 1145 = .ok (.iadd, 1) := by decide +kernel
theorem dL_law_1146 : decode cL_law 1146 = .ok (.iaload, 1) := by decide +kernel
theorem dL_law_1147 : decode cL_law 1147 = .ok (.aload_n 0, 1) := by decide +kernel
theorem dL_law_1148 : decode cL_law 1148 = .ok (.iload_n 3, 1) := by decide +kernel
theorem dL_law_1149 : decode cL_law 1149 = .ok (.iconst 2, 1) := by decide +kernel
theorem dL_law_1150 : decode cL_law 1150 = .ok (.iadd, 1) := by decide +kernel
theorem dL_law_1151 : decode cL_law 1151 = .ok (.iaload, 1) := by decide +kernel
theorem dL_law_1152 : decode cL_law 1152 = .ok (.aload_n 0, 1) := by decide +kernel
theorem dL_law_1153 : decode cL_law 1153 = .ok (.iload_n 3, 1) := by decide +kernel
theorem dL_law_1154 : decode cL_law 1154 = .ok (.iconst 3, 1) := by decide +kernel
theorem dL_law_1155 : decode cL_law 1155 = .ok (.iadd, 1) := by decide +kernel
theorem dL_law_1156 : decode cL_law 1156 = .ok (.iaload, 1) := by decide +kernel
theorem dL_law_1157 : decode cL_law 1157 = .ok (.aload_n 0, 1) := by decide +kernel
theorem dL_law_1158 : decode cL_law 1158 = .ok (.iload_n 3, 1) := by decide +kernel
theorem dL_law_1159 : decode cL_law 1159 = .ok (.iconst 4, 1) := by decide +kernel
theorem dL_law_1160 : decode cL_law 1160 = .ok (.iadd, 1) := by decide +kernel
theorem dL_law_1161 : decode cL_law 1161 = .ok (.iaload, 1) := by decide +kernel
theorem dL_law_1162 : decode cL_law 1162 = .ok (.aload_n 0, 1) := by decide +kernel
theorem dL_law_1163 : decode cL_law 1163 = .ok (.iload_n 3, 1) := by decide +kernel
theorem dL_law_1164 : decode cL_law 1164 = .ok (.iconst 5, 1) := by decide +kernel
theorem dL_law_1165 : decode cL_law 1165 = .ok (.iadd, 1) := by decide +kernel
theorem dL_law_1166 : decode cL_law 1166 = .ok (.iaload, 1) := by decide +kernel
theorem dL_law_1167 : decode cL_law 1167 = .ok (.aload_n 0, 1) := by decide +kernel
theorem dL_law_1168 : decode cL_law 1168 = .ok (.iload_n 3, 1) := by decide +kernel
theorem dL_law_1169 : decode cL_law 1169 = .ok (.bipush 6, 2) := by decide +kernel
theorem dL_law_1171 : decode cL_law 1171 = .ok (.iadd, 1) := by decide +kernel
theorem dL_law_1172 : decode cL_law 1172 = .ok (.iaload, 1) := by decide +kernel
theorem dL_law_1173 : decode cL_law 1173 = .ok (.invokevirtual 90, 3) := by decide +kernel
theorem dL_law_1176 : decode cL_law 1176 = .ok (.aload_n 2, 1) := by decide +kernel
theorem dL_law_1177 : decode cL_law 1177 = .ok (.aload_n 0, 1) := by decide +kernel
theorem dL_law_1178 : decode cL_law 1178 = .ok (.iload_n 3, 1) := by decide +kernel
theorem dL_law_1179 : decode cL_law 1179 = .ok (.iconst 1, 1) := by decide +kernel
theorem dL_law_1180 : decode cL_law 1180 = .ok (.iadd, 1) := by decide +kernel
theorem dL_law_1181 : decode cL_law 1181 = .ok (.iaload, 1) := by decide +kernel
theorem dL_law_1182 : decode cL_law 1182 = .ok (.aload_n 0, 1) := by decide +kernel
theorem dL_law_1183 : decode cL_law 1183 = .ok (.iload_n 3, 1) := by decide +kernel
theorem dL_law_1184 : decode cL_law 1184 = .ok (.iconst 2, 1) := by decide +kernel
theorem dL_law_1185 : decode cL_law 1185 = .ok (.iadd, 1) := by decide +kernel
theorem dL_law_1186 : decode cL_law 1186 = .ok (.iaload, 1) := by decide +kernel
theorem dL_law_1187 : decode cL_law 1187 = .ok (.aload_n 0, 1) := by decide +kernel
theorem dL_law_1188 : decode cL_law 1188 = .ok (.iload_n 3, 1) := by decide +kernel
theorem dL_law_1189 : decode cL_law 1189 = .ok (.iconst 3, 1) := by decide +kernel
theorem dL_law_1190 : decode cL_law 1190 = .ok (.iadd, 1) := by decide +kernel
theorem dL_law_1191 : decode cL_law 1191 = .ok (.iaload, 1) := by decide +kernel
theorem dL_law_1192 : decode cL_law 1192 = .ok (.aload_n 0, 1) := by decide +kernel
theorem dL_law_1193 : decode cL_law 1193 = .ok (.iload_n 3, 1) := by decide +kernel
theorem dL_law_1194 : decode cL_law 1194 = .ok (.iconst 4, 1) := by decide +kernel
theorem dL_law_1195 : decode cL_law 1195 = .ok (.iadd, 1) := by decide +kernel
theorem dL_law_1196 : decode cL_law 1196 = .ok (.iaload, 1) := by decide +kernel
theorem dL_law_1197 : decode cL_law 1197 = .ok (.aload_n 0, 1) := by decide +kernel
theorem dL_law_1198 : decode cL_law 1198 = .ok (.iload_n 3, 1) := by decide +kernel
theorem dL_law_1199 : decode cL_law 1199 = .ok (.iconst 5, 1) := by decide +kernel
theorem dL_law_1200 : decode cL_law 1200 = .ok (.iadd, 1) := by decide +kernel
theorem dL_law_1201 : decode cL_law 1201 = .ok (.iaload, 1) := by decide +kernel
theorem dL_law_1202 : decode cL_law 1202 = .ok (.aload_n 0, 1) := by decide +kernel
theorem dL_law_1203 : decode cL_law 1203 = .ok (.iload_n 3, 1) := by decide +kernel
theorem dL_law_1204 : decode cL_law 1204 = .ok (.bipush 6, 2) := by decide +kernel
theorem dL_law_1206 : decode cL_law 1206 = .ok (.iadd, 1) := by decide +kernel
theorem dL_law_1207 : decode cL_law 1207 = .ok (.iaload, 1) := by decide +kernel
theorem dL_law_1208 : decode cL_law 1208 = .ok (.invokevirtual 94, 3) := by decide +kernel
theorem dL_law_1211 : decode cL_law 1211 = .ok (.lcmp, 1) := by decide +kernel
theorem dL_law_1212 : decode cL_law 1212 = .ok (.ifCond .eq 1070, 3) := by decide +kernel
theorem dL_law_1215 : decode cL_law 1215 = .ok (.iconst 0, 1) := by decide +kernel
theorem dL_law_1216 : decode cL_law 1216 = .ok (.ireturn, 1) := by decide +kernel
theorem dL_law_1217 : decode cL_law 1217 = .ok (.aload_n 1, 1) := by decide +kernel
theorem dL_law_1218 : decode cL_law 1218 = .ok (.aload_n 0, 1) := by decide +kernel
theorem dL_law_1219 : decode cL_law 1219 = .ok (.iload_n 3, 1) := by decide +kernel
theorem dL_law_1220 : decode cL_law 1220 = .ok (.iconst 1, 1) := by decide +kernel
theorem dL_law_1221 : decode cL_law 1221 = .ok (.iadd, 1) := by decide +kernel
theorem dL_law_1222 : decode cL_law 1222 = .ok (.iaload, 1) := by decide +kernel
theorem dL_law_1223 : decode cL_law 1223 = .ok (.aload_n 0, 1) := by decide +kernel
theorem dL_law_1224 : decode cL_law 1224 = .ok (.iload_n 3, 1) := by decide +kernel
theorem dL_law_1225 : decode cL_law 1225 = .ok (.iconst 2, 1) := by decide +kernel
theorem dL_law_1226 : decode cL_law 1226 = .ok (.iadd, 1) := by decide +kernel
theorem dL_law_1227 : decode cL_law 1227 = .ok (.iaload, 1) := by decide +kernel
theorem dL_law_1228 : decode cL_law 1228 = .ok (.aload_n 0, 1) := by decide +kernel
theorem dL_law_1229 : decode cL_law 1229 = .ok (.iload_n 3, 1) := by decide +kernel
theorem dL_law_1230 : decode cL_law 1230 = .ok (.iconst 3, 1) := by decide +kernel
theorem dL_law_1231 : decode cL_law 1231 = .ok (.iadd, 1) := by decide +kernel
theorem dL_law_1232 : decode cL_law 1232 = .ok (.iaload, 1) := by decide +kernel
theorem dL_law_1233 : decode cL_law 1233 = .ok (.aload_n 0, 1) := by decide +kernel
theorem dL_law_1234 : decode cL_law 1234 = .ok (.iload_n 3, 1) := by decide +kernel
theorem dL_law_1235 : decode cL_law 1235 = .ok (.iconst 4, 1) := by decide +kernel
theorem dL_law_1236 : decode cL_law 1236 = .ok (.iadd, 1) := by decide +kernel
theorem dL_law_1237 : decode cL_law 1237 = .ok (.iaload, 1) := by decide +kernel
theorem dL_law_1238 : decode cL_law 1238 = .ok (.invokevirtual 95, 3) := by decide +kernel
theorem dL_law_1241 : decode cL_law 1241 = .ok (.aload_n 2, 1) := by decide +kernel
theorem dL_law_1242 : decode cL_law 1242 = .ok (.aload_n 0, 1) := by decide +kernel
theorem dL_law_1243 : decode cL_law 1243 = .ok (.iload_n 3, 1) := by decide +kernel
theorem dL_law_1244 : decode cL_law 1244 = .ok (.iconst 1, 1) := by decide +kernel
theorem dL_law_1245 : decode cL_law 1245 = .ok (.iadd, 1) := by decide +kernel
theorem dL_law_1246 : decode cL_law 1246 = .ok (.iaload, 1) := by decide +kernel
theorem dL_law_1247 : decode cL_law 1247 = .ok (.aload_n 0, 1) := by decide +kernel
theorem dL_law_1248 : decode cL_law 1248 = .ok (.iload_n 3, 1) := by decide +kernel
theorem dL_law_1249 : decode cL_law 1249 = .ok (.iconst 2, 1) := by decide +kernel
theorem dL_law_1250 : decode cL_law 1250 = .ok (.iadd, 1) := by decide +kernel
theorem dL_law_1251 : decode cL_law 1251 = .ok (.iaload, 1) := by decide +kernel
theorem dL_law_1252 : decode cL_law 1252 = .ok (.aload_n 0, 1) := by decide +kernel
theorem dL_law_1253 : decode cL_law 1253 = .ok (.iload_n 3, 1) := by decide +kernel
theorem dL_law_1254 : decode cL_law 1254 = .ok (.iconst 3, 1) := by decide +kernel
theorem dL_law_1255 : decode cL_law 1255 = .ok (.iadd, 1) := by decide +kernel
theorem dL_law_1256 : decode cL_law 1256 = .ok (.iaload, 1) := by decide +kernel
theorem dL_law_1257 : decode cL_law 1257 = .ok (.aload_n 0, 1) := by decide +kernel
theorem dL_law_1258 : decode cL_law 1258 = .ok (.iload_n 3, 1) := by decide +kernel
theorem dL_law_1259 : decode cL_law 1259 = .ok (.iconst 4, 1) := by decide +kernel
theorem dL_law_1260 : decode cL_law 1260 = .ok (.iadd, 1) := by decide +kernel
theorem dL_law_1261 : decode cL_law 1261 = .ok (.iaload, 1) := by decide +kernel
theorem dL_law_1262 : decode cL_law 1262 = .ok (.invokevirtual 98, 3) := by decide +kernel
theorem dL_law_1265 : decode cL_law 1265 = .ok (.if_icmp .eq 1017, 3) := by decide +kernel
theorem dL_law_1268 : decode cL_law 1268 = .ok (.iconst 0, 1) := by decide +kernel
theorem dL_law_1269 : decode cL_law 1269 = .ok (.ireturn, 1) := by decide +kernel
theorem dL_law_1270 : decode cL_law 1270 = .ok (.aload_n 1, 1) := by decide +kernel
theorem dL_law_1271 : decode cL_law 1271 = .ok (.aload_n 0, 1) := by decide +kernel
theorem dL_law_1272 : decode cL_law 1272 = .ok (.iload_n 3, 1) := by decide +kernel
theorem dL_law_1273 : decode cL_law 1273 = .ok (.iconst 1, 1) := by decide +kernel
theorem dL_law_1274 : decode cL_law 1274 = .ok (.iadd, 1) := by decide +kernel
theorem dL_law_1275 : decode cL_law 1275 = .ok (.iaload, 1) := by decide +kernel
theorem dL_law_1276 : decode cL_law 1276 = .ok (.aload_n 0, 1) := by decide +kernel
theorem dL_law_1277 : decode cL_law 1277 = .ok (.iload_n 3, 1) := by decide +kernel
theorem dL_law_1278 : decode cL_law 1278 = .ok (.iconst 2, 1) := by decide +kernel
theorem dL_law_1279 : decode cL_law 1279 = .ok (.iadd, 1) := by decide +kernel
theorem dL_law_1280 : decode cL_law 1280 = .ok (.iaload, 1) := by decide +kernel
theorem dL_law_1281 : decode cL_law 1281 = .ok (.aload_n 0, 1) := by decide +kernel
theorem dL_law_1282 : decode cL_law 1282 = .ok (.iload_n 3, 1) := by decide +kernel
theorem dL_law_1283 : decode cL_law 1283 = .ok (.iconst 3, 1) := by decide +kernel
theorem dL_law_1284 : decode cL_law 1284 = .ok (.iadd, 1) := by decide +kernel
theorem dL_law_1285 : decode cL_law 1285 = .ok (.iaload, 1) := by decide +kernel
theorem dL_law_1286 : decode cL_law 1286 = .ok (.aload_n 0, 1) := by decide +kernel
theorem dL_law_1287 : decode cL_law 1287 = .ok (.iload_n 3, 1) := by decide +kernel
theorem dL_law_1288 : decode cL_law 1288 = .ok (.iconst 4, 1) := by decide +kernel
theorem dL_law_1289 : decode cL_law 1289 = .ok (.iadd, 1) := by decide +kernel
theorem dL_law_1290 : decode cL_law 1290 = .ok (.iaload, 1) := by decide +kernel
theorem dL_law_1291 : decode cL_law 1291 = .ok (.invokevirtual 99, 3) := by decide +kernel
theorem dL_law_1294 : decode cL_law 1294 = .ok (.aload_n 2, 1) := by decide +kernel
theorem dL_law_1295 : decode cL_law 1295 = .ok (.aload_n 0, 1) := by decide +kernel
theorem dL_law_1296 : decode cL_law 1296 = .ok (.iload_n 3, 1) := by decide +kernel
theorem dL_law_1297 : decode cL_law 1297 = .ok (.iconst 1, 1) := by decide +kernel
theorem dL_law_1298 : decode cL_law 1298 = .ok (.iadd, 1) := by decide +kernel
theorem dL_law_1299 : decode cL_law 1299 = .ok (.iaload, 1) := by decide +kernel
theorem dL_law_1300 : decode cL_law 1300 = .ok (.aload_n 0, 1) := by decide +kernel
theorem dL_law_1301 : decode cL_law 1301 = .ok (.iload_n 3, 1) := by decide +kernel
theorem dL_law_1302 : decode cL_law 1302 = .ok (.iconst 2, 1) := by decide +kernel
theorem dL_law_1303 : decode cL_law 1303 = .ok (.iadd, 1) := by decide +kernel
theorem dL_law_1304 : decode cL_law 1304 = .ok (.iaload, 1) := by decide +kernel
theorem dL_law_1305 : decode cL_law 1305 = .ok (.aload_n 0, 1) := by decide +kernel
theorem dL_law_1306 : decode cL_law 1306 = .ok (.iload_n 3, 1) := by decide +kernel
theorem dL_law_1307 : decode cL_law 1307 = .ok (.iconst 3, 1) := by decide +kernel
theorem dL_law_1308 : decode cL_law 1308 = .ok (.iadd, 1) := by decide +kernel
theorem dL_law_1309 : decode cL_law 1309 = .ok (.iaload, 1) := by decide +kernel
theorem dL_law_1310 : decode cL_law 1310 = .ok (.aload_n 0, 1) := by decide +kernel
theorem dL_law_1311 : decode cL_law 1311 = .ok (.iload_n 3, 1) := by decide +kernel
theorem dL_law_1312 : decode cL_law 1312 = .ok (.iconst 4, 1) := by decide +kernel
theorem dL_law_1313 : decode cL_law 1313 = .ok (.iadd, 1) := by decide +kernel
theorem dL_law_1314 : decode cL_law 1314 = .ok (.iaload, 1) := by decide +kernel
theorem dL_law_1315 : decode cL_law 1315 = .ok (.invokevirtual 102, 3) := by decide +kernel
theorem dL_law_1318 : decode cL_law 1318 = .ok (.if_icmp .eq 964, 3) := by decide +kernel
theorem dL_law_1321 : decode cL_law 1321 = .ok (.iconst 0, 1) := by decide +kernel
theorem dL_law_1322 : decode cL_law 1322 = .ok (.ireturn, 1) := by decide +kernel
theorem dL_law_1323 : decode cL_law 1323 = .ok (.aload_n 1, 1) := by decide +kernel
theorem dL_law_1324 : decode cL_law 1324 = .ok (.aload_n 0, 1) := by decide +kernel
theorem dL_law_1325 : decode cL_law 1325 = .ok (.iload_n 3, 1) := by decide +kernel
theorem dL_law_1326 : decode cL_law 1326 = .ok (.iconst 1, 1) := by decide +kernel
theorem dL_law_1327 : decode cL_law 1327 = .ok (.iadd, 1) := by decide +kernel
theorem dL_law_1328 : decode cL_law 1328 = .ok (.iaload, 1) := by decide +kernel
theorem dL_law_1329 : decode cL_law 1329 = .ok (.aload_n 0, 1) := by decide +kernel
theorem dL_law_1330 : decode cL_law 1330 = .ok (.iload_n 3, 1) := by decide +kernel
theorem dL_law_1331 : decode cL_law 1331 = .ok (.iconst 2, 1) := by decide +kernel
theorem dL_law_1332 : decode cL_law 1332 = .ok (.iadd, 1) := by decide +kernel
theorem dL_law_1333 : decode cL_law 1333 = .ok (.iaload, 1) := by decide +kernel
theorem dL_law_1334 : decode cL_law 1334 = .ok (.aload_n 0, 1) := by decide +kernel
theorem dL_law_1335 : decode cL_law 1335 = .ok (.iload_n 3, 1) := by decide +kernel
theorem dL_law_1336 : decode cL_law 1336 = .ok (.iconst 3, 1) := by decide +kernel
theorem dL_law_1337 : decode cL_law 1337 = .ok (.iadd, 1) := by decide +kernel
theorem dL_law_1338 : decode cL_law 1338 = .ok (.iaload, 1) := by decide +kernel
theorem dL_law_1339 : decode cL_law 1339 = .ok (.aload_n 0, 1) := by decide +kernel
theorem dL_law_1340 : decode cL_law 1340 = .ok (.iload_n 3, 1) := by decide +kernel
theorem dL_law_1341 : decode cL_law 1341 = .ok (.iconst 4, 1) := by decide +kernel
theorem dL_law_1342 : decode cL_law 1342 = .ok (.iadd, 1) := by decide +kernel
theorem dL_law_1343 : decode cL_law 1343 = .ok (.iaload, 1) := by decide +kernel
theorem dL_law_1344 : decode cL_law 1344 = .ok (.invokevirtual 103, 3) := by decide +kernel
theorem dL_law_1347 : decode cL_law 1347 = .ok (.aload_n 2, 1) := by decide +kernel
theorem dL_law_1348 : decode cL_law 1348 = .ok (.aload_n 0, 1) := by decide +kernel
theorem dL_law_1349 : decode cL_law 1349 = .ok (.iload_n 3, 1) := by decide +kernel
theorem dL_law_1350 : decode cL_law 1350 = .ok (.iconst 1, 1) := by decide +kernel
theorem dL_law_1351 : decode cL_law 1351 = .ok (.iadd, 1) := by decide +kernel
theorem dL_law_1352 : decode cL_law 1352 = .ok (.iaload, 1) := by decide +kernel
theorem dL_law_1353 : decode cL_law 1353 = .ok (.aload_n 0, 1) := by decide +kernel
theorem dL_law_1354 : decode cL_law 1354 = .ok (.iload_n 3, 1) := by decide +kernel
theorem dL_law_1355 : decode cL_law 1355 = .ok (.iconst 2, 1) := by decide +kernel
theorem dL_law_1356 : decode cL_law 1356 = .ok (.iadd, 1) := by decide +kernel
theorem dL_law_1357 : decode cL_law 1357 = .ok (.iaload, 1) := by decide +kernel
theorem dL_law_1358 : decode cL_law 1358 = .ok (.aload_n 0, 1) := by decide +kernel
theorem dL_law_1359 : decode cL_law 1359 = .ok (.iload_n 3, 1) := by decide +kernel
theorem dL_law_1360 : decode cL_law 1360 = .ok (.iconst 3, 1) := by decide +kernel
theorem dL_law_1361 : decode cL_law 1361 = .ok (.iadd, 1) := by decide +kernel
theorem dL_law_1362 : decode cL_law 1362 = .ok (.iaload, 1) := by decide +kernel
theorem dL_law_1363 : decode cL_law 1363 = .ok (.aload_n 0, 1) := by decide +kernel
theorem dL_law_1364 : decode cL_law 1364 = .ok (.iload_n 3, 1) := by decide +kernel
theorem dL_law_1365 : decode cL_law 1365 = .ok (.iconst 4, 1) := by decide +kernel
theorem dL_law_1366 : decode cL_law 1366 = .ok (.iadd, 1) := by decide +kernel
theorem dL_law_1367 : decode cL_law 1367 = .ok (.iaload, 1) := by decide +kernel
theorem dL_law_1368 : decode cL_law 1368 = .ok (.invokevirtual 106, 3) := by decide +kernel
theorem dL_law_1371 : decode cL_law 1371 = .ok (.if_icmp .eq 911, 3) := by decide +kernel
theorem dL_law_1374 : decode cL_law 1374 = .ok (.iconst 0, 1) := by decide +kernel
theorem dL_law_1375 : decode cL_law 1375 = .ok (.ireturn, 1) := by decide +kernel
theorem dL_law_1376 : decode cL_law 1376 = .ok (.aload_n 1, 1) := by decide +kernel
theorem dL_law_1377 : decode cL_law 1377 = .ok (.aload_n 0, 1) := by decide +kernel
theorem dL_law_1378 : decode cL_law 1378 = .ok (.iload_n 3, 1) := by decide +kernel
theorem dL_law_1379 : decode cL_law 1379 = .ok (.iconst 1, 1) := by decide +kernel
theorem dL_law_1380 : decode cL_law 1380 = .ok (.iadd, 1) := by decide +kernel
theorem dL_law_1381 : decode cL_law 1381 = .ok (.iaload, 1) := by decide +kernel
theorem dL_law_1382 : decode cL_law 1382 = .ok (.aload_n 0, 1) := by decide +kernel
theorem dL_law_1383 : decode cL_law 1383 = .ok (.iload_n 3, 1) := by decide +kernel
theorem dL_law_1384 : decode cL_law 1384 = .ok (.iconst 2, 1) := by decide +kernel
theorem dL_law_1385 : decode cL_law 1385 = .ok (.iadd, 1) := by decide +kernel
theorem dL_law_1386 : decode cL_law 1386 = .ok (.iaload, 1) := by decide +kernel
theorem dL_law_1387 : decode cL_law 1387 = .ok (.aload_n 0, 1) := by decide +kernel
theorem dL_law_1388 : decode cL_law 1388 = .ok (.iload_n 3, 1) := by decide +kernel
theorem dL_law_1389 : decode cL_law 1389 = .ok (.iconst 3, 1) := by decide +kernel
theorem dL_law_1390 : decode cL_law 1390 = .ok (.iadd, 1) := by decide +kernel
theorem dL_law_1391 : decode cL_law 1391 = .ok (.iaload, 1) := by decide +kernel
theorem dL_law_1392 : decode cL_law 1392 = .ok (.aload_n 0, 1) := by decide +kernel
theorem dL_law_1393 : decode cL_law 1393 = .ok (.iload_n 3, 1) := by decide +kernel
theorem dL_law_1394 : decode cL_law 1394 = .ok (.iconst 4, 1) := by decide +kernel
theorem dL_law_1395 : decode cL_law 1395 = .ok (.iadd, 1) := by decide +kernel
theorem dL_law_1396 : decode cL_law 1396 = .ok (.iaload, 1) := by decide +kernel
theorem dL_law_1397 : decode cL_law 1397 = .ok (.invokevirtual 107, 3) := by decide +kernel
theorem dL_law_1400 : decode cL_law 1400 = .ok (.aload_n 2, 1) := by decide +kernel
theorem dL_law_1401 : decode cL_law 1401 = .ok (.aload_n 0, 1) := by decide +kernel
theorem dL_law_1402 : decode cL_law 1402 = .ok (.iload_n 3, 1) := by decide +kernel
theorem dL_law_1403 : decode cL_law 1403 = .ok (.iconst 1, 1) := by decide +kernel
theorem dL_law_1404 : decode cL_law 1404 = .ok (.iadd, 1) := by decide +kernel
theorem dL_law_1405 : decode cL_law 1405 = .ok (.iaload, 1) := by decide +kernel
theorem dL_law_1406 : decode cL_law 1406 = .ok (.aload_n 0, 1) := by decide +kernel
theorem dL_law_1407 : decode cL_law 1407 = .ok (.iload_n 3, 1) := by decide +kernel
theorem dL_law_1408 : decode cL_law 1408 = .ok (.iconst 2, 1) := by decide +kernel
theorem dL_law_1409 : decode cL_law 1409 = .ok (.iadd, 1) := by decide +kernel
theorem dL_law_1410 : decode cL_law 1410 = .ok (.iaload, 1) := by decide +kernel
theorem dL_law_1411 : decode cL_law 1411 = .ok (.aload_n 0, 1) := by decide +kernel
theorem dL_law_1412 : decode cL_law 1412 = .ok (.iload_n 3, 1) := by decide +kernel
theorem dL_law_1413 : decode cL_law 1413 = .ok (.iconst 3, 1) := by decide +kernel
theorem dL_law_1414 : decode cL_law 1414 = .ok (.iadd, 1) := by decide +kernel
theorem dL_law_1415 : decode cL_law 1415 = .ok (.iaload, 1) := by decide +kernel
theorem dL_law_1416 : decode cL_law 1416 = .ok (.aload_n 0, 1) := by decide +kernel
theorem dL_law_1417 : decode cL_law 1417 = .ok (.iload_n 3, 1) := by decide +kernel
theorem dL_law_1418 : decode cL_law 1418 = .ok (.iconst 4, 1) := by decide +kernel
theorem dL_law_1419 : decode cL_law 1419 = .ok (.iadd, 1) := by decide +kernel
theorem dL_law_1420 : decode cL_law 1420 = .ok (.iaload, 1) := by decide +kernel
theorem dL_law_1421 : decode cL_law 1421 = .ok (.invokevirtual 110, 3) := by decide +kernel
theorem dL_law_1424 : decode cL_law 1424 = .ok (.if_icmp .eq 858, 3) := by decide +kernel
theorem dL_law_1427 : decode cL_law 1427 = .ok (.iconst 0, 1) := by decide +kernel
theorem dL_law_1428 : decode cL_law 1428 = .ok (.ireturn, 1) := by decide +kernel
theorem dL_law_1429 : decode cL_law 1429 = .ok (.aload_n 1, 1) := by decide +kernel
theorem dL_law_1430 : decode cL_law 1430 = .ok (.aload_n 0, 1) := by decide +kernel
theorem dL_law_1431 : decode cL_law 1431 = .ok (.iload_n 3, 1) := by decide +kernel
theorem dL_law_1432 : decode cL_law 1432 = .ok (.iconst 1, 1) := by decide +kernel
theorem dL_law_1433 : decode cL_law 1433 = .ok (.iadd, 1) := by decide +kernel
theorem dL_law_1434 : decode cL_law 1434 = .ok (.iaload, 1) := by decide +kernel
theorem dL_law_1435 : decode cL_law 1435 = .ok (.aload_n 0, 1) := by decide +kernel
theorem dL_law_1436 : decode cL_law 1436 = .ok (.iload_n 3, 1) := by decide +kernel
theorem dL_law_1437 : decode cL_law 1437 = .ok (.iconst 2, 1) := by decide +kernel
theorem dL_law_1438 : decode cL_law 1438 = .ok (.iadd, 1) := by decide +kernel
theorem dL_law_1439 : decode cL_law 1439 = .ok (.iaload, 1) := by decide +kernel
theorem dL_law_1440 : decode cL_law 1440 = .ok (.aload_n 0, 1) := by decide +kernel
theorem dL_law_1441 : decode cL_law 1441 = .ok (.iload_n 3, 1) := by decide +kernel
theorem dL_law_1442 : decode cL_law 1442 = .ok (.iconst 3, 1) := by decide +kernel
theorem dL_law_1443 : decode cL_law 1443 = .ok (.iadd, 1) := by decide +kernel
theorem dL_law_1444 : decode cL_law 1444 = .ok (.iaload, 1) := by decide +kernel
theorem dL_law_1445 : decode cL_law 1445 = .ok (.invokevirtual 111, 3) := by decide +kernel
theorem dL_law_1448 : decode cL_law 1448 = .ok (.aload_n 2, 1) := by decide +kernel
theorem dL_law_1449 : decode cL_law 1449 = .ok (.aload_n 0, 1) := by decide +kernel
theorem dL_law_1450 : decode cL_law 1450 = .ok (.iload_n 3, 1) := by decide +kernel
theorem dL_law_1451 : decode cL_law 1451 = .ok (.iconst 1, 1) := by decide +kernel
theorem dL_law_1452 : decode cL_law 1452 = .ok (.iadd, 1) := by decide +kernel
theorem dL_law_1453 : decode cL_law 1453 = .ok (.iaload, 1) := by decide +kernel
theorem dL_law_1454 : decode cL_law 1454 = .ok (.aload_n 0, 1) := by decide +kernel
theorem dL_law_1455 : decode cL_law 1455 = .ok (.iload_n 3, 1) := by decide +kernel
theorem dL_law_1456 : decode cL_law 1456 = .ok (.iconst 2, 1) := by decide +kernel
theorem dL_law_1457 : decode cL_law 1457 = .ok (.iadd, 1) := by decide +kernel
theorem dL_law_1458 : decode cL_law 1458 = .ok (.iaload, 1) := by decide +kernel
theorem dL_law_1459 : decode cL_law 1459 = .ok (.aload_n 0, 1) := by decide +kernel
theorem dL_law_1460 : decode cL_law 1460 = .ok (.iload_n 3, 1) := by decide +kernel
theorem dL_law_1461 : decode cL_law 1461 = .ok (.iconst 3, 1) := by decide +kernel
theorem dL_law_1462 : decode cL_law 1462 = .ok (.iadd, 1) := by decide +kernel
theorem dL_law_1463 : decode cL_law 1463 = .ok (.iaload, 1) := by decide +kernel
theorem dL_law_1464 : decode cL_law 1464 = .ok (.invokevirtual 114, 3) := by decide +kernel
theorem dL_law_1467 : decode cL_law 1467 = .ok (.if_icmp .eq 815, 3) := by decide +kernel
theorem dL_law_1470 : decode cL_law 1470 = .ok (.iconst 0, 1) := by decide +kernel
theorem dL_law_1471 : decode cL_law 1471 = .ok (.ireturn, 1) := by decide +kernel
theorem dL_law_1472 : decode cL_law 1472 = .ok (.aload_n 1, 1) := by decide +kernel
theorem dL_law_1473 : decode cL_law 1473 = .ok (.aload_n 0, 1) := by decide +kernel
theorem dL_law_1474 : decode cL_law 1474 = .ok (.iload_n 3, 1) := by decide +kernel
theorem dL_law_1475 : decode cL_law 1475 = .ok (.iconst 1, 1) := by decide +kernel
theorem dL_law_1476 : decode cL_law 1476 = .ok (.iadd, 1) := by decide +kernel
theorem dL_law_1477 : decode cL_law 1477 = .ok (.iaload, 1) := by decide +kernel
theorem dL_law_1478 : decode cL_law 1478 = .ok (.aload_n 0, 1) := by decide +kernel
theorem dL_law_1479 : decode cL_law 1479 = .ok (.iload_n 3, 1) := by decide +kernel
theorem dL_law_1480 : decode cL_law 1480 = .ok (.iconst 2, 1) := by decide +kernel
theorem dL_law_1481 : decode cL_law 1481 = .ok (.iadd, 1) := by decide +kernel
theorem dL_law_1482 : decode cL_law 1482 = .ok (.iaload, 1) := by decide +kernel
theorem dL_law_1483 : decode cL_law 1483 = .ok (.invokevirtual 115, 3) := by decide +kernel
theorem dL_law_1486 : decode cL_law 1486 = .ok (.aload_n 2, 1) := by decide +kernel
theorem dL_law_1487 : decode cL_law 1487 = .ok (.aload_n 0, 1) := by decide +kernel
theorem dL_law_1488 : decode cL_law 1488 = .ok (.iload_n 3, 1) := by decide +kernel
theorem dL_law_1489 : decode cL_law 1489 = .ok (.iconst 1, 1) := by decide +kernel
theorem dL_law_1490 : decode cL_law 1490 = .ok (.iadd, 1) := by decide +kernel
theorem dL_law_1491 : decode cL_law 1491 = .ok (.iaload, 1) := by decide +kernel
theorem dL_law_1492 : decode cL_law 1492 = .ok (.aload_n 0, 1) := by decide +kernel
theorem dL_law_1493 : decode cL_law 1493 = .ok (.iload_n 3, 1) := by decide +kernel
theorem dL_law_1494 : decode cL_law 1494 = .ok (.iconst 2, 1) := by decide +kernel
theorem dL_law_1495 : decode cL_law 1495 = .ok (.iadd, 1) := by decide +kernel
theorem dL_law_1496 : decode cL_law 1496 = .ok (.iaload, 1) := by decide +kernel
theorem dL_law_1497 : decode cL_law 1497 = .ok (.invokevirtual 118, 3) := by decide +kernel
theorem dL_law_1500 : decode cL_law 1500 = .ok (.if_icmp .eq 782, 3) := by decide +kernel
theorem dL_law_1503 : decode cL_law 1503 = .ok (.iconst 0, 1) := by decide +kernel
theorem dL_law_1504 : decode cL_law 1504 = .ok (.ireturn, 1) := by decide +kernel
theorem dL_law_1505 : decode cL_law 1505 = .ok (.aload_n 1, 1) := by decide +kernel
theorem dL_law_1506 : decode cL_law 1506 = .ok (.aload_n 0, 1) := by decide +kernel
theorem dL_law_1507 : decode cL_law 1507 = .ok (.iload_n 3, 1) := by decide +kernel
theorem dL_law_1508 : decode cL_law 1508 = .ok (.iconst 1, 1) := by decide +kernel
theorem dL_law_1509 : decode cL_law 1509 = .ok (.iadd, 1) := by decide +kernel
theorem dL_law_1510 : decode cL_law 1510 = .ok (.iaload, 1) := by decide +kernel
theorem dL_law_1511 : decode cL_law 1511 = .ok (.aload_n 0, 1) := by decide +kernel
theorem dL_law_1512 : decode cL_law 1512 = .ok (.iload_n 3, 1) := by decide +kernel
theorem dL_law_1513 : decode cL_law 1513 = .ok (.iconst 2, 1) := by decide +kernel
theorem dL_law_1514 : decode cL_law 1514 = .ok (.iadd, 1) := by decide +kernel
theorem dL_law_1515 : decode cL_law 1515 = .ok (.iaload, 1) := by decide +kernel
theorem dL_law_1516 : decode cL_law 1516 = .ok (.aload_n 0, 1) := by decide +kernel
theorem dL_law_1517 : decode cL_law 1517 = .ok (.iload_n 3, 1) := by decide +kernel
theorem dL_law_1518 : decode cL_law 1518 = .ok (.iconst 3, 1) := by decide +kernel
theorem dL_law_1519 : decode cL_law 1519 = .ok (.iadd, 1) := by decide +kernel
theorem dL_law_1520 : decode cL_law 1520 = .ok (.iaload, 1) := by decide +kernel
theorem dL_law_1521 : decode cL_law 1521 = .ok (.ifCond .eq 7, 3) := by decide +kernel
theorem dL_law_1524 : decode cL_law 1524 = .ok (.iconst 1, 1) := by decide +kernel
theorem dL_law_1525 : decode cL_law 1525 = .ok (.goto 4, 3) := by decide +kernel
theorem dL_law_1528 : decode cL_law 1528 = .ok (.iconst 0, 1) := by decide +kernel
theorem dL_law_1529 : decode cL_law 1529 = .ok (.invokevirtual 119, 3) := by decide +kernel
theorem dL_law_1532 : decode cL_law 1532 = .ok (.aload_n 2, 1) := by decide +kernel
theorem dL_law_1533 : decode cL_law 1533 = .ok (.aload_n 0, 1) := by decide +kernel
theorem dL_law_1534 : decode cL_law 1534 = .ok (.iload_n 3, 1) := by decide +kernel
theorem dL_law_1535 : decode cL_law 1535 = .ok (.iconst 1, 1) := by decide +kernel
theorem dL_law_1536 : decode cL_law 1536 = .ok (.iadd, 1) := by decide +kernel
theorem dL_law_1537 : decode cL_law 1537 = .ok (.iaload, 1) := by decide +kernel
theorem dL_law_1538 : decode cL_law 1538 = .ok (.aload_n 0, 1) := by decide +kernel
theorem dL_law_1539 : decode cL_law 1539 = .ok (.iload_n 3, 1) := by decide +kernel
theorem dL_law_1540 : decode cL_law 1540 = .ok (.iconst 2, 1) := by decide +kernel
theorem dL_law_1541 : decode cL_law 1541 = .ok (.iadd, 1) := by decide +kernel
theorem dL_law_1542 : decode cL_law 1542 = .ok (.iaload, 1) := by decide +kernel
theorem dL_law_1543 : decode cL_law 1543 = .ok (.aload_n 0, 1) := by decide +kernel
theorem dL_law_1544 : decode cL_law 1544 = .ok (.iload_n 3, 1) := by decide +kernel
theorem dL_law_1545 : decode cL_law 1545 = .ok (.iconst 3, 1) := by decide +kernel
theorem dL_law_1546 : decode cL_law 1546 = .ok (.iadd, 1) := by decide +kernel
theorem dL_law_1547 : decode cL_law 1547 = .ok (.iaload, 1) := by decide +kernel
theorem dL_law_1548 : decode cL_law 1548 = .ok (.ifCond .eq 7, 3) := by decide +kernel
theorem dL_law_1551 : decode cL_law 1551 = .ok (.iconst 1, 1) := by decide +kernel
theorem dL_law_1552 : decode cL_law 1552 = .ok (.goto 4, 3) := by decide +kernel
theorem dL_law_1555 : decode cL_law 1555 = .ok (.iconst 0, 1) := by decide +kernel
theorem dL_law_1556 : decode cL_law 1556 = .ok (.invokevirtual 123, 3) := by decide +kernel
theorem dL_law_1559 : decode cL_law 1559 = .ok (.if_icmp .eq 723, 3) := by decide +kernel
theorem dL_law_1562 : decode cL_law 1562 = .ok (.iconst 0, 1) := by decide +kernel
theorem dL_law_1563 : decode cL_law 1563 = .ok (.ireturn, 1) := by decide +kernel
theorem dL_law_1564 : decode cL_law 1564 = .ok (.aload_n 1, 1) := by decide +kernel
theorem dL_law_1565 : decode cL_law 1565 = .ok (.aload_n 0, 1) := by decide +kernel
theorem dL_law_1566 : decode cL_law 1566 = .ok (.iload_n 3, 1) := by decide +kernel
theorem dL_law_1567 : decode cL_law 1567 = .ok (.iconst 1, 1) := by decide +kernel
theorem dL_law_1568 : decode cL_law 1568 = .ok (.iadd, 1) := by decide +kernel
theorem dL_law_1569 : decode cL_law 1569 = .ok (.iaload, 1) := by decide +kernel
theorem dL_law_1570 : decode cL_law 1570 = .ok (.aload_n 0, 1) := by decide +kernel
theorem dL_law_1571 : decode cL_law 1571 = .ok (.iload_n 3, 1) := by decide +kernel
theorem dL_law_1572 : decode cL_law 1572 = .ok (.iconst 2, 1) := by decide +kernel
theorem dL_law_1573 : decode cL_law 1573 = .ok (.iadd, 1) := by decide +kernel
theorem dL_law_1574 : decode cL_law 1574 = .ok (.iaload, 1) := by decide +kernel
theorem dL_law_1575 : decode cL_law 1575 = .ok (.invokevirtual 124, 3) := by decide +kernel
theorem dL_law_1578 : decode cL_law 1578 = .ok (.aload_n 2, 1) := by decide +kernel
theorem dL_law_1579 : decode cL_law 1579 = .ok (.aload_n 0, 1) := by decide +kernel
theorem dL_law_1580 : decode cL_law 1580 = .ok (.iload_n 3, 1) := by decide +kernel
theorem dL_law_1581 : decode cL_law 1581 = .ok (.iconst 1, 1) := by decide +kernel
theorem dL_law_1582 : decode cL_law 1582 = .ok (.iadd, 1) := by decide +kernel
theorem dL_law_1583 : decode cL_law 1583 = .ok (.iaload, 1) := by decide +kernel
theorem dL_law_1584 : decode cL_law 1584 = .ok (.aload_n 0, 1) := by decide +kernel
theorem dL_law_1585 : decode cL_law 1585 = .ok (.iload_n 3, 1) := by decide +kernel
theorem dL_law_1586 : decode cL_law 1586 = .ok (.iconst 2, 1) := by decide +kernel
theorem dL_law_1587 : decode cL_law 1587 = .ok (.iadd, 1) := by decide +kernel
theorem dL_law_1588 : decode cL_law 1588 = .ok (.iaload, 1) := by decide +kernel
theorem dL_law_1589 : decode cL_law 1589 = .ok (.invokevirtual 127, 3) := by decide +kernel
theorem dL_law_1592 : decode cL_law 1592 = .ok (.if_icmp .eq 690, 3) := by decide +kernel
theorem dL_law_1595 : decode cL_law 1595 = .ok (.iconst 0, 1) := by decide +kernel
theorem dL_law_1596 : decode cL_law 1596 = .ok (.ireturn, 1) := by decide +kernel
theorem dL_law_1597 : decode cL_law 1597 = .ok (.aload_n 1, 1) := by decide +kernel
theorem dL_law_1598 : decode cL_law 1598 = .ok (.aload_n 0, 1) := by decide +kernel
theorem dL_law_1599 : decode cL_law 1599 = .ok (.iload_n 3, 1) := by decide +kernel
theorem dL_law_1600 : decode cL_law 1600 = .ok (.iconst 1, 1) := by decide +kernel
theorem dL_law_1601 : decode cL_law 1601 = .ok (.iadd, 1) := by decide +kernel
theorem dL_law_1602 : decode cL_law 1602 = .ok (.iaload, 1) := by decide +kernel
theorem dL_law_1603 : decode cL_law 1603 = .ok (.aload_n 0, 1) := by decide +kernel
theorem dL_law_1604 : decode cL_law 1604 = .ok (.iload_n 3, 1) := by decide +kernel
theorem dL_law_1605 : decode cL_law 1605 = .ok (.iconst 2, 1) := by decide +kernel
theorem dL_law_1606 : decode cL_law 1606 = .ok (.iadd, 1) := by decide +kernel
theorem dL_law_1607 : decode cL_law 1607 = .ok (.iaload, 1) := by decide +kernel
theorem dL_law_1608 : decode cL_law 1608 = .ok (.invokevirtual 128, 3) := by decide +kernel
theorem dL_law_1611 : decode cL_law 1611 = .ok (.aload_n 2, 1) := by decide +kernel
theorem dL_law_1612 : decode cL_law 1612 = .ok (.aload_n 0, 1) := by decide +kernel
theorem dL_law_1613 : decode cL_law 1613 = .ok (.iload_n 3, 1) := by decide +kernel
theorem dL_law_1614 : decode cL_law 1614 = .ok (.iconst 1, 1) := by decide +kernel
theorem dL_law_1615 : decode cL_law 1615 = .ok (.iadd, 1) := by decide +kernel
theorem dL_law_1616 : decode cL_law 1616 = .ok (.iaload, 1) := by decide +kernel
theorem dL_law_1617 : decode cL_law 1617 = .ok (.aload_n 0, 1) := by decide +kernel
theorem dL_law_1618 : decode cL_law 1618 = .ok (.iload_n 3, 1) := by decide +kernel
theorem dL_law_1619 : decode cL_law 1619 = .ok (.iconst 2, 1) := by decide +kernel
theorem dL_law_1620 : decode cL_law 1620 = .ok (.iadd, 1) := by decide +kernel
theorem dL_law_1621 : decode cL_law 1621 = .ok (.iaload, 1) := by decide +kernel
theorem dL_law_1622 : decode cL_law 1622 = .ok (.invokevirtual 131, 3) := by decide +kernel
theorem dL_law_1625 : decode cL_law 1625 = .ok (.if_icmp .eq 657, 3) := by decide +kernel
theorem dL_law_1628 : decode cL_law 1628 = .ok (.iconst 0, 1) := by decide +kernel
theorem dL_law_1629 : decode cL_law 1629 = .ok (.ireturn, 1) := by decide +kernel
theorem dL_law_1630 : decode cL_law 1630 = .ok (.aload_n 1, 1) := by decide +kernel
theorem dL_law_1631 : decode cL_law 1631 = .ok (.aload_n 0, 1) := by decide +kernel
theorem dL_law_1632 : decode cL_law 1632 = .ok (.iload_n 3, 1) := by decide +kernel
theorem dL_law_1633 : decode cL_law 1633 = .ok (.iconst 1, 1) := by decide +kernel
theorem dL_law_1634 : decode cL_law 1634 = .ok (.iadd, 1) := by decide +kernel
theorem dL_law_1635 : decode cL_law 1635 = .ok (.iaload, 1) := by decide +kernel
theorem dL_law_1636 : decode cL_law 1636 = .ok (.aload_n 0, 1) := by decide +kernel
theorem dL_law_1637 : decode cL_law 1637 = .ok (.iload_n 3, 1) := by decide +kernel
theorem dL_law_1638 : decode cL_law 1638 = .ok (.iconst 2, 1) := by decide +kernel
theorem dL_law_1639 : decode cL_law 1639 = .ok (.iadd, 1) := by decide +kernel
theorem dL_law_1640 : decode cL_law 1640 = .ok (.iaload, 1) := by decide +kernel
theorem dL_law_1641 : decode cL_law 1641 = .ok (.aload_n 0, 1) := by decide +kernel
theorem dL_law_1642 : decode cL_law 1642 = .ok (.iload_n 3, 1) := by decide +kernel
theorem dL_law_1643 : decode cL_law 1643 = .ok (.iconst 3, 1) := by decide +kernel
theorem dL_law_1644 : decode cL_law 1644 = .ok (.iadd, 1) := by decide +kernel
theorem dL_law_1645 : decode cL_law 1645 = .ok (.iaload, 1) := by decide +kernel
theorem dL_law_1646 : decode cL_law 1646 = .ok (.ifCond .eq 7, 3) := by decide +kernel
theorem dL_law_1649 : decode cL_law 1649 = .ok (.iconst 1, 1) := by decide +kernel
theorem dL_law_1650 : decode cL_law 1650 = .ok (.goto 4, 3) := by decide +kernel
theorem dL_law_1653 : decode cL_law 1653 = .ok (.iconst 0, 1) := by decide +kernel
theorem dL_law_1654 : decode cL_law 1654 = .ok (.invokevirtual 132, 3) := by decide +kernel
theorem dL_law_1657 : decode cL_law 1657 = .ok (.aload_n 2, 1) := by decide +kernel
theorem dL_law_1658 : decode cL_law 1658 = .ok (.aload_n 0, 1) := by decide +kernel
theorem dL_law_1659 : decode cL_law 1659 = .ok (.iload_n 3, 1) := by decide +kernel
theorem dL_law_1660 : decode cL_law 1660 = .ok (.iconst 1, 1) := by decide +kernel
theorem dL_law_1661 : decode cL_law 1661 = .ok (.iadd, 1) := by decide +kernel
theorem dL_law_1662 : decode cL_law 1662 = .ok (.iaload, 1) := by decide +kernel
theorem dL_law_1663 : decode cL_law 1663 = .ok (.aload_n 0, 1) := by decide +kernel
theorem dL_law_1664 : decode cL_law 1664 = .ok (.iload_n 3, 1) := by decide +kernel
theorem dL_law_1665 : decode cL_law 1665 = .ok (.iconst 2, 1) := by decide +kernel
theorem dL_law_1666 : decode cL_law 1666 = .ok (.iadd, 1) := by decide +kernel
theorem dL_law_1667 : decode cL_law 1667 = .ok (.iaload, 1) := by decide +kernel
theorem dL_law_1668 : decode cL_law 1668 = .ok (.aload_n 0, 1) := by decide +kernel
theorem dL_law_1669 : decode cL_law 1669 = .ok (.iload_n 3, 1) := by decide +kernel
theorem dL_law_1670 : decode cL_law 1670 = .ok (.iconst 3, 1) := by decide +kernel
theorem dL_law_1671 : decode cL_law 1671 = .ok (.iadd, 1) := by decide +kernel
theorem dL_law_1672 : decode cL_law 1672 = .ok (.iaload, 1) := by decide +kernel
theorem dL_law_1673 : decode cL_law 1673 = .ok (.ifCond .eq 7, 3) := by decide +kernel
theorem dL_law_1676 : decode cL_law 1676 = .ok (.iconst 1, 1) := by decide +kernel
theorem dL_law_1677 : decode cL_law 1677 = .ok (.goto 4, 3) := by decide +kernel
theorem dL_law_1680 : decode cL_law 1680 = .ok (.iconst 0, 1) := by decide +kernel
theorem dL_law_1681 : decode cL_law 1681 = .ok (.invokevirtual 135, 3) := by decide +kernel
theorem dL_law_1684 : decode cL_law 1684 = .ok (.if_icmp .eq 598, 3) := by decide +kernel
theorem dL_law_1687 : decode cL_law 1687 = .ok (.iconst 0, 1) := by decide +kernel
theorem dL_law_1688 : decode cL_law 1688 = .ok (.ireturn, 1) := by decide +kernel
theorem dL_law_1689 : decode cL_law 1689 = .ok (.aload_n 1, 1) := by decide +kernel
theorem dL_law_1690 : decode cL_law 1690 = .ok (.aload_n 0, 1) := by decide +kernel
theorem dL_law_1691 : decode cL_law 1691 = .ok (.iload_n 3, 1) := by decide +kernel
theorem dL_law_1692 : decode cL_law 1692 = .ok (.iconst 1, 1) := by decide +kernel
theorem dL_law_1693 : decode cL_law 1693 = .ok (.iadd, 1) := by decide +kernel
theorem dL_law_1694 : decode cL_law 1694 = .ok (.iaload, 1) := by decide +kernel
theorem dL_law_1695 : decode cL_law 1695 = .ok (.aload_n 0, 1) := by decide +kernel
theorem dL_law_1696 : decode cL_law 1696 = .ok (.iload_n 3, 1) := by decide +kernel
theorem dL_law_1697 : decode cL_law 1697 = .ok (.iconst 2, 1) := by decide +kernel
theorem dL_law_1698 : decode cL_law 1698 = .ok (.iadd, 1) := by decide +kernel
theorem dL_law_1699 : decode cL_law 1699 = .ok (.iaload, 1) := by decide +kernel
theorem dL_law_1700 : decode cL_law 1700 = .ok (.invokevirtual 136, 3) := by decide +kernel
theorem dL_law_1703 : decode cL_law 1703 = .ok (.aload_n 2, 1) := by decide +kernel
theorem dL_law_1704 : decode cL_law 1704 = .ok (.aload_n 0, 1) := by decide +kernel
theorem dL_law_1705 : decode cL_law 1705 = .ok (.iload_n 3, 1) := by decide +kernel
theorem dL_law_1706 : decode cL_law 1706 = .ok (.iconst 1, 1) := by decide +kernel
theorem dL_law_1707 : decode cL_law 1707 = .ok (.iadd, 1) := by decide +kernel
theorem dL_law_1708 : decode cL_law 1708 = .ok (.iaload, 1) := by decide +kernel
theorem dL_law_1709 : decode cL_law 1709 = .ok (.aload_n 0, 1) := by decide +kernel
theorem dL_law_1710 : decode cL_law 1710 = .ok (.iload_n 3, 1) := by decide +kernel
theorem dL_law_1711 : decode cL_law 1711 = .ok (.iconst 2, 1) := by decide +kernel
theorem dL_law_1712 : decode cL_law 1712 = .ok (.iadd, 1) := by decide +kernel
theorem dL_law_1713 : decode cL_law 1713 = .ok (.iaload, 1) := by decide +kernel
theorem dL_law_1714 : decode cL_law 1714 = .ok (.invokevirtual 139, 3) := by decide +kernel
theorem dL_law_1717 : decode cL_law 1717 = .ok (.if_icmp .eq 565, 3) := by decide +kernel
theorem dL_law_1720 : decode cL_law 1720 = .ok (.iconst 0, 1) := by decide +kernel
theorem dL_law_1721 : decode cL_law 1721 = .ok (.ireturn, 1) := by decide +kernel
theorem dL_law_1722 : decode cL_law 1722 = .ok (.aload_n 1, 1) := by decide +kernel
theorem dL_law_1723 : decode cL_law 1723 = .ok (.aload_n 0, 1) := by decide +kernel
theorem dL_law_1724 : decode cL_law 1724 = .ok (.iload_n 3, 1) := by decide +kernel
theorem dL_law_1725 : decode cL_law 1725 = .ok (.iconst 1, 1) := by decide +kernel
theorem dL_law_1726 : decode cL_law 1726 = .ok (.iadd, 1) := by decide +kernel
theorem dL_law_1727 : decode cL_law 1727 = .ok (.iaload, 1) := by decide +kernel
theorem dL_law_1728 : decode cL_law 1728 = .ok (.aload_n 0, 1) := by decide +kernel
theorem dL_law_1729 : decode cL_law 1729 = .ok (.iload_n 3, 1) := by decide +kernel
theorem dL_law_1730 : decode cL_law 1730 = .ok (.iconst 2, 1) := by decide +kernel
theorem dL_law_1731 : decode cL_law 1731 = .ok (.iadd, 1) := by decide +kernel
theorem dL_law_1732 : decode cL_law 1732 = .ok (.iaload, 1) := by decide +kernel
theorem dL_law_1733 : decode cL_law 1733 = .ok (.aload_n 0, 1) := by decide +kernel
theorem dL_law_1734 : decode cL_law 1734 = .ok (.iload_n 3, 1) := by decide +kernel
theorem dL_law_1735 : decode cL_law 1735 = .ok (.iconst 3, 1) := by decide +kernel
theorem dL_law_1736 : decode cL_law 1736 = .ok (.iadd, 1) := by decide +kernel
theorem dL_law_1737 : decode cL_law 1737 = .ok (.iaload, 1) := by decide +kernel
theorem dL_law_1738 : decode cL_law 1738 = .ok (.invokevirtual 140, 3) := by decide +kernel
theorem dL_law_1741 : decode cL_law 1741 = .ok (.aload_n 2, 1) := by decide +kernel
theorem dL_law_1742 : decode cL_law 1742 = .ok (.aload_n 0, 1) := by decide +kernel
theorem dL_law_1743 : decode cL_law 1743 = .ok (.iload_n 3, 1) := by decide +kernel
theorem dL_law_1744 : decode cL_law 1744 = .ok (.iconst 1, 1) := by decide +kernel
theorem dL_law_1745 : decode cL_law 1745 = .ok (.iadd, 1) := by decide +kernel
theorem dL_law_1746 : decode cL_law 1746 = .ok (.iaload, 1) := by decide +kernel
theorem dL_law_1747 : decode cL_law 1747 = .ok (.aload_n 0, 1) := by decide +kernel
theorem dL_law_1748 : decode cL_law 1748 = .ok (.iload_n 3, 1) := by decide +kernel
theorem dL_law_1749 : decode cL_law 1749 = .ok (.iconst 2, 1) := by decide +kernel
theorem dL_law_1750 : decode cL_law 1750 = .ok (.iadd, 1) := by decide +kernel
theorem dL_law_1751 : decode cL_law 1751 = .ok (.iaload, 1) := by decide +kernel
theorem dL_law_1752 : decode cL_law 1752 = .ok (.aload_n 0, 1) := by decide +kernel
theorem dL_law_1753 : decode cL_law 1753 = .ok (.iload_n 3, 1) := by decide +kernel
theorem dL_law_1754 : decode cL_law 1754 = .ok (.iconst 3, 1) := by decide +kernel
theorem dL_law_1755 : decode cL_law 1755 = .ok (.iadd, 1) := by decide +kernel
theorem dL_law_1756 : decode cL_law 1756 = .ok (.iaload, 1) := by decide +kernel
theorem dL_law_1757 : decode cL_law 1757 = .ok (.invokevirtual 143, 3) := by decide +kernel
theorem dL_law_1760 : decode cL_law 1760 = .ok (.if_icmp .eq 522, 3) := by decide +kernel
theorem dL_law_1763 : decode cL_law 1763 = .ok (.iconst 0, 1) := by decide +kernel
theorem dL_law_1764 : decode cL_law 1764 = .ok (.ireturn, 1) := by decide +kernel
theorem dL_law_1765 : decode cL_law 1765 = .ok (.aload_n 1, 1) := by decide +kernel
theorem dL_law_1766 : decode cL_law 1766 = .ok (.aload_n 0, 1) := by decide +kernel
theorem dL_law_1767 : decode cL_law 1767 = .ok (.iload_n 3, 1) := by decide +kernel
theorem dL_law_1768 : decode cL_law 1768 = .ok (.iconst 1, 1) := by decide +kernel
theorem dL_law_1769 : decode cL_law 1769 = .ok (.iadd, 1) := by decide +kernel
theorem dL_law_1770 : decode cL_law 1770 = .ok (.iaload, 1) := by decide +kernel
theorem dL_law_1771 : decode cL_law 1771 = .ok (.aload_n 0, 1) := by decide +kernel
theorem dL_law_1772 : decode cL_law 1772 = .ok (.iload_n 3, 1) := by decide +kernel
theorem dL_law_1773 : decode cL_law 1773 = .ok (.iconst 2, 1) := by decide +kernel
theorem dL_law_1774 : decode cL_law 1774 = .ok (.iadd, 1) := by decide +kernel
theorem dL_law_1775 : decode cL_law 1775 = .ok (.iaload, 1) := by decide +kernel
theorem dL_law_1776 : decode cL_law 1776 = .ok (.aload_n 0, 1) := by decide +kernel
theorem dL_law_1777 : decode cL_law 1777 = .ok (.iload_n 3, 1) := by decide +kernel
theorem dL_law_1778 : decode cL_law 1778 = .ok (.iconst 3, 1) := by decide +kernel
theorem dL_law_1779 : decode cL_law 1779 = .ok (.iadd, 1) := by decide +kernel
theorem dL_law_1780 : decode cL_law 1780 = .ok (.iaload, 1) := by decide +kernel
theorem dL_law_1781 : decode cL_law 1781 = .ok (.aload_n 0, 1) := by decide +kernel
theorem dL_law_1782 : decode cL_law 1782 = .ok (.iload_n 3, 1) := by decide +kernel
theorem dL_law_1783 : decode cL_law 1783 = .ok (.iconst 4, 1) := by decide +kernel
theorem dL_law_1784 : decode cL_law 1784 = .ok (.iadd, 1) := by decide +kernel
theorem dL_law_1785 : decode cL_law 1785 = .ok (.iaload, 1) := by decide +kernel
theorem dL_law_1786 : decode cL_law 1786 = .ok (.invokevirtual 144, 3) := by decide +kernel
theorem dL_law_1789 : decode cL_law 1789 = .ok (.aload_n 2, 1) := by decide +kernel
theorem dL_law_1790 : decode cL_law 1790 = .ok (.aload_n 0, 1) := by decide +kernel
theorem dL_law_1791 : decode cL_law 1791 = .ok (.iload_n 3, 1) := by decide +kernel
theorem dL_law_1792 : decode cL_law 1792 = .ok (.iconst 1, 1) := by decide +kernel
theorem dL_law_1793 : decode cL_law 1793 = .ok (.iadd, 1) := by decide +kernel
theorem dL_law_1794 : decode cL_law 1794 = .ok (.iaload, 1) := by decide +kernel
theorem dL_law_1795 : decode cL_law 1795 = .ok (.aload_n 0, 1) := by decide +kernel
theorem dL_law_1796 : decode cL_law 1796 = .ok (.iload_n 3, 1) := by decide +kernel
theorem dL_law_1797 : decode cL_law 1797 = .ok (.iconst 2, 1) := by decide +kernel
theorem dL_law_1798 : decode cL_law 1798 = .ok (.iadd, 1) := by decide +kernel
theorem dL_law_1799 : decode cL_law 1799 = .ok (.iaload, 1) := by decide +kernel
theorem dL_law_1800 : decode cL_law 1800 = .ok (.aload_n 0, 1) := by decide +kernel
theorem dL_law_1801 : decode cL_law 1801 = .ok (.iload_n 3, 1) := by decide +kernel
theorem dL_law_1802 : decode cL_law 1802 = .ok (.iconst 3, 1) := by decide +kernel
theorem dL_law_1803 : decode cL_law 1803 = .ok (.iadd, 1) := by decide +kernel
theorem dL_law_1804 : decode cL_law 1804 = .ok (.iaload, 1) := by decide +kernel
theorem dL_law_1805 : decode cL_law 1805 = .ok (.aload_n 0, 1) := by decide +kernel
theorem dL_law_1806 : decode cL_law 1806 = .ok (.iload_n 3, 1) := by decide +kernel
theorem dL_law_1807 : decode cL_law 1807 = .ok (.iconst 4, 1) := by decide +kernel
theorem dL_law_1808 : decode cL_law 1808 = .ok (.iadd, 1) := by decide +kernel
theorem dL_law_1809 : decode cL_law 1809 = .ok (.iaload, 1) := by decide +kernel
theorem dL_law_1810 : decode cL_law 1810 = .ok (.invokevirtual 147, 3) := by decide +kernel
theorem dL_law_1813 : decode cL_law 1813 = .ok (.if_icmp .eq 469, 3) := by decide +kernel
theorem dL_law_1816 : decode cL_law 1816 = .ok (.iconst 0, 1) := by decide +kernel
theorem dL_law_1817 : decode cL_law 1817 = .ok (.ireturn, 1) := by decide +kernel
theorem dL_law_1818 : decode cL_law 1818 = .ok (.aload_n 1, 1) := by decide +kernel
theorem dL_law_1819 : decode cL_law 1819 = .ok (.aload_n 0, 1) := by decide +kernel
theorem dL_law_1820 : decode cL_law 1820 = .ok (.iload_n 3, 1) := by decide +kernel
theorem dL_law_1821 : decode cL_law 1821 = .ok (.iconst 1, 1) := by decide +kernel
theorem dL_law_1822 : decode cL_law 1822 = .ok (.iadd, 1) := by decide +kernel
theorem dL_law_1823 : decode cL_law 1823 = .ok (.iaload, 1) := by decide +kernel
theorem dL_law_1824 : decode cL_law 1824 = .ok (.aload_n 0, 1) := by decide +kernel
theorem dL_law_1825 : decode cL_law 1825 = .ok (.iload_n 3, 1) := by decide +kernel
theorem dL_law_1826 : decode cL_law 1826 = .ok (.iconst 2, 1) := by decide +kernel
theorem dL_law_1827 : decode cL_law 1827 = .ok (.iadd, 1) := by decide +kernel
theorem dL_law_1828 : decode cL_law 1828 = .ok (.iaload, 1) := by decide +kernel
theorem dL_law_1829 : decode cL_law 1829 = .ok (.aload_n 0, 1) := by decide +kernel
theorem dL_law_1830 : decode cL_law 1830 = .ok (.iload_n 3, 1) := by decide +kernel
theorem dL_law_1831 : decode cL_law 1831 = .ok (.iconst 3, 1) := by decide +kernel
theorem dL_law_1832 : decode cL_law 1832 = .ok (.iadd, 1) := by decide +kernel
theorem dL_law_1833 : decode cL_law 1833 = .ok (.iaload, 1) := by decide +kernel
theorem dL_law_1834 : decode cL_law 1834 = .ok (.aload_n 0, 1) := by decide +kernel
theorem dL_law_1835 : decode cL_law 1835 = .ok (.iload_n 3, 1) := by decide +kernel
theorem dL_law_1836 : decode cL_law 1836 = .ok (.iconst 4, 1) := by decide +kernel
theorem dL_law_1837 : decode cL_law 1837 = .ok (.iadd, 1) := by decide +kernel
theorem dL_law_1838 : decode cL_law 1838 = .ok (.iaload, 1) := by decide +kernel
theorem dL_law_1839 : decode cL_law 1839 = .ok (.ifCond .eq 7, 3) := by decide +kernel
theorem dL_law_1842 : decode cL_law 1842 = .ok (.iconst 1, 1) := by decide +kernel
theorem dL_law_1843 : decode cL_law 1843 = .ok (.goto 4, 3) := by decide +kernel
theorem dL_law_1846 : decode cL_law 1846 = .ok (.iconst 0, 1) := by decide +kernel
theorem dL_law_1847 : decode cL_law 1847 = .ok (.invokevirtual 148, 3) := by decide +kernel
theorem dL_law_1850 : decode cL_law 1850 = .ok (.aload_n 2, 1) := by decide +kernel
theorem dL_law_1851 : decode cL_law 1851 = .ok (.aload_n 0, 1) := by decide +kernel
theorem dL_law_1852 : decode cL_law 1852 = .ok (.iload_n 3, 1) := by decide +kernel
theorem dL_law_1853 : decode cL_law 1853 = .ok (.iconst 1, 1) := by decide +kernel
theorem dL_law_1854 : decode cL_law 1854 = .ok (.iadd, 1) := by decide +kernel
theorem dL_law_1855 : decode cL_law 1855 = .ok (.iaload, 1) := by decide +kernel
theorem dL_law_1856 : decode cL_law 1856 = .ok (.aload_n 0, 1) := by decide +kernel
theorem dL_law_1857 : decode cL_law 1857 = .ok (.iload_n 3, 1) := by decide +kernel
theorem dL_law_1858 : decode cL_law 1858 = .ok (.iconst 2, 1) := by decide +kernel
theorem dL_law_1859 : decode cL_law 1859 = .ok (.iadd, 1) := by decide +kernel
theorem dL_law_1860 : decode cL_law 1860 = .ok (.iaload, 1) := by decide +kernel
theorem dL_law_1861 : decode cL_law 1861 = .ok (.aload_n 0, 1) := by decide +kernel
theorem dL_law_1862 : decode cL_law 1862 = .ok (.iload_n 3, 1) := by decide +kernel
theorem dL_law_1863 : decode cL_law 1863 = .ok (.iconst 3, 1) := by decide +kernel
theorem dL_law_1864 : decode cL_law 1864 = .ok (.iadd, 1) := by decide +kernel
theorem dL_law_1865 : decode cL_law 1865 = .ok (.iaload, 1) := by decide +kernel
theorem dL_law_1866 : decode cL_law 1866 = .ok (.aload_n 0, 1) := by decide +kernel
theorem dL_law_1867 : decode cL_law 1867 = .ok (.iload_n 3, 1) := by decide +kernel
theorem dL_law_1868 : decode cL_law 1868 = .ok (.iconst 4, 1) := by decide +kernel
theorem dL_law_1869 : decode cL_law 1869 = .ok (.iadd, 1) := by decide +kernel
theorem dL_law_1870 : decode cL_law 1870 = .ok (.iaload, 1) := by decide +kernel
theorem dL_law_1871 : decode cL_law 1871 = .ok (.ifCond .eq 7, 3) := by decide +kernel
theorem dL_law_1874 : decode cL_law 1874 = .ok (.iconst 1, 1) := by decide +kernel
theorem dL_law_1875 : decode cL_law 1875 = .ok (.goto 4, 3) := by decide +kernel
theorem dL_law_1878 : decode cL_law 1878 = .ok (.iconst 0, 1) := by decide +kernel
theorem dL_law_1879 : decode cL_law 1879 = .ok (.invokevirtual 152, 3) := by decide +kernel
theorem dL_law_1882 : decode cL_law 1882 = .ok (.if_icmp .eq 400, 3) := by decide +kernel
theorem dL_law_1885 : decode cL_law 1885 = .ok (.iconst 0, 1) := by decide +kernel
theorem dL_law_1886 : decode cL_law 1886 = .ok (.ireturn, 1) := by decide +kernel
theorem dL_law_1887 : decode cL_law 1887 = .ok (.aload_n 1, 1) := by decide +kernel
theorem dL_law_1888 : decode cL_law 1888 = .ok (.aload_n 0, 1) := by decide +kernel
theorem dL_law_1889 : decode cL_law 1889 = .ok (.iload_n 3, 1) := by decide +kernel
theorem dL_law_1890 : decode cL_law 1890 = .ok (.iconst 1, 1) := by decide +kernel
theorem dL_law_1891 : decode cL_law 1891 = .ok (.iadd, 1) := by decide +kernel
theorem dL_law_1892 : decode cL_law 1892 = .ok (.iaload, 1) := by decide +kernel
theorem dL_law_1893 : decode cL_law 1893 = .ok (.aload_n 0, 1) := by decide +kernel
theorem dL_law_1894 : decode cL_law 1894 = .ok (.iload_n 3, 1) := by decide +kernel
theorem dL_law_1895 : decode cL_law 1895 = .ok (.iconst 2, 1) := by decide +kernel
theorem dL_law_1896 : decode cL_law 1896 = .ok (.iadd, 1) := by decide +kernel
theorem dL_law_1897 : decode cL_law 1897 = .ok (.iaload, 1) := by decide +kernel
theorem dL_law_1898 : decode cL_law 1898 = .ok (.aload_n 0, 1) := by decide +kernel
theorem dL_law_1899 : decode cL_law 1899 = .ok (.iload_n 3, 1) := by decide +kernel
theorem dL_law_1900 : decode cL_law 1900 = .ok (.iconst 3, 1) := by decide +kernel
theorem dL_law_1901 : decode cL_law 1901 = .ok (.iadd, 1) := by decide +kernel
theorem dL_law_1902 : decode cL_law 1902 = .ok (.iaload, 1) := by decide +kernel
theorem dL_law_1903 : decode cL_law 1903 = .ok (.invokevirtual 153, 3) := by decide +kernel
theorem dL_law_1906 : decode cL_law 1906 = .ok (.aload_n 2, 1) := by decide +kernel
theorem dL_law_1907 : decode cL_law 1907 = .ok (.aload_n 0, 1) := by decide +kernel
theorem dL_law_1908 : decode cL_law 1908 = .ok (.iload_n 3, 1) := by decide +kernel
theorem dL_law_1909 : decode cL_law 1909 = .ok (.iconst 1, 1) := by decide +kernel
theorem dL_law_1910 : decode cL_law 1910 = .ok (.iadd, 1) := by decide +kernel
theorem dL_law_1911 : decode cL_law 1911 = .ok (.iaload, 1) := by decide +kernel
theorem dL_law_1912 : decode cL_law 1912 = .ok (.aload_n 0, 1) := by decide +kernel
theorem dL_law_1913 : decode cL_law 1913 = .ok (.iload_n 3, 1) := by decide +kernel
theorem dL_law_1914 : decode cL_law 1914 = .ok (.iconst 2, 1) := by decide +kernel
theorem dL_law_1915 : decode cL_law 1915 = .ok (.iadd, 1) := by decide +kernel
theorem dL_law_1916 : decode cL_law 1916 = .ok (.iaload, 1) := by decide +kernel
theorem dL_law_1917 : decode cL_law 1917 = .ok (.aload_n 0, 1) := by decide +kernel
theorem dL_law_1918 : decode cL_law 1918 = .ok (.iload_n 3, 1) := by decide +kernel
theorem dL_law_1919 : decode cL_law 1919 = .ok (.iconst 3, 1) := by decide +kernel
theorem dL_law_1920 : decode cL_law 1920 = .ok (.iadd, 1) := by decide +kernel
theorem dL_law_1921 : decode cL_law 1921 = .ok (.iaload, 1) := by decide +kernel
theorem dL_law_1922 : decode cL_law 1922 = .ok (.invokevirtual 156, 3) := by decide +kernel
theorem dL_law_1925 : decode cL_law 1925 = .ok (.if_icmp .eq 357, 3) := by decide +kernel
theorem dL_law_1928 : decode cL_law 1928 = .ok (.iconst 0, 1) := by decide +kernel
theorem dL_law_1929 : decode cL_law 1929 = .ok (.ireturn, 1) := by decide +kernel
theorem dL_law_1930 : decode cL_law 1930 = .ok (.aload_n 1, 1) := by decide +kernel
theorem dL_law_1931 : decode cL_law 1931 = .ok (.aload_n 0, 1) := by decide +kernel
theorem dL_law_1932 : decode cL_law 1932 = .ok (.iload_n 3, 1) := by decide +kernel
theorem dL_law_1933 : decode cL_law 1933 = .ok (.iconst 1, 1) := by decide +kernel
theorem dL_law_1934 : decode cL_law 1934 = .ok (.iadd, 1) := by decide +kernel
theorem dL_law_1935 : decode cL_law 1935 = .ok (.iaload, 1) := by decide +kernel
theorem dL_law_1936 : decode cL_law 1936 = .ok (.aload_n 0, 1) := by decide +kernel
theorem dL_law_1937 : decode cL_law 1937 = .ok (.iload_n 3, 1) := by decide +kernel
theorem dL_law_1938 : decode cL_law 1938 = .ok (.iconst 2, 1) := by decide +kernel
theorem dL_law_1939 : decode cL_law 1939 = .ok (.iadd, 1) := by decide +kernel
theorem dL_law_1940 : decode cL_law 1940 = .ok (.iaload, 1) := by decide +kernel
theorem dL_law_1941 : decode cL_law 1941 = .ok (.aload_n 0, 1) := by decide +kernel
theorem dL_law_1942 : decode cL_law 1942 = .ok (.iload_n 3, 1) := by decide +kernel
theorem dL_law_1943 : decode cL_law 1943 = .ok (.iconst 3, 1) := by decide +kernel
theorem dL_law_1944 : decode cL_law 1944 = .ok (.iadd, 1) := by decide +kernel
theorem dL_law_1945 : decode cL_law 1945 = .ok (.iaload, 1) := by decide +kernel
theorem dL_law_1946 : decode cL_law 1946 = .ok (.invokevirtual 157, 3) := by decide +kernel
theorem dL_law_1949 : decode cL_law 1949 = .ok (.aload_n 2, 1) := by decide +kernel
theorem dL_law_1950 : decode cL_law 1950 = .ok (.aload_n 0, 1) := by decide +kernel
theorem dL_law_1951 : decode cL_law 1951 = .ok (.iload_n 3, 1) := by decide +kernel
theorem dL_law_1952 : decode cL_law 1952 = .ok (.iconst 1, 1) := by decide +kernel
theorem dL_law_1953 : decode cL_law 1953 = .ok (.iadd, 1) := by decide +kernel
theorem dL_law_1954 : decode cL_law 1954 = .ok (.iaload, 1) := by decide +kernel
theorem dL_law_1955 : decode cL_law 1955 = .ok (.aload_n 0, 1) := by decide +kernel
theorem dL_law_1956 : decode cL_law 1956 = .ok (.iload_n 3, 1) := by decide +kernel
theorem dL_law_1957 : decode cL_law 1957 = .ok (.iconst 2, 1) := by decide +kernel
theorem dL_law_1958 : decode cL_law 1958 = .ok (.iadd, 1) := by decide +kernel
theorem dL_law_1959 : decode cL_law 1959 = .ok (.iaload, 1) := by decide +kernel
theorem dL_law_1960 : decode cL_law 1960 = .ok (.aload_n 0, 1) := by decide +kernel
theorem dL_law_1961 : decode cL_law 1961 = .ok (.iload_n 3, 1) := by decide +kernel
theorem dL_law_1962 : decode cL_law 1962 = .ok (.iconst 3, 1) := by decide +kernel
theorem dL_law_1963 : decode cL_law 1963 = .ok (.iadd, 1) := by decide +kernel
theorem dL_law_1964 : decode cL_law 1964 = .ok (.iaload, 1) := by decide +kernel
theorem dL_law_1965 : decode cL_law 1965 = .ok (.invokevirtual 160, 3) := by decide +kernel
theorem dL_law_1968 : decode cL_law 1968 = .ok (.if_icmp .eq 314, 3) := by decide +kernel
theorem dL_law_1971 : decode cL_law 1971 = .ok (.iconst 0, 1) := by decide +kernel
theorem dL_law_1972 : decode cL_law 1972 = .ok (.ireturn, 1) := by decide +kernel
theorem dL_law_1973 : decode cL_law 1973 = .ok (.aload_n 1, 1) := by decide +kernel
theorem dL_law_1974 : decode cL_law 1974 = .ok (.aload_n 0, 1) := by decide +kernel
theorem dL_law_1975 : decode cL_law 1975 = .ok (.iload_n 3, 1) := by decide +kernel
theorem dL_law_1976 : decode cL_law 1976 = .ok (.iconst 1, 1) := by decide +kernel
theorem dL_law_1977 : decode cL_law 1977 = .ok (.iadd, 1) := by decide +kernel
theorem dL_law_1978 : decode cL_law 1978 = .ok (.iaload, 1) := by decide +kernel
theorem dL_law_1979 : decode cL_law 1979 = .ok (.aload_n 0, 1) := by decide +kernel
theorem dL_law_1980 : decode cL_law 1980 = .ok (.iload_n 3, 1) := by decide +kernel
theorem dL_law_1981 : decode cL_law 1981 = .ok (.iconst 2, 1) := by decide +kernel
theorem dL_law_1982 : decode cL_law 1982 = .ok (.iadd, 1) := by decide +kernel
theorem dL_law_1983 : decode cL_law 1983 = .ok (.iaload, 1) := by decide +kernel
theorem dL_law_1984 : decode cL_law 1984 = .ok (.aload_n 0, 1) := by decide +kernel
theorem dL_law_1985 : decode cL_law 1985 = .ok (.iload_n 3, 1) := by decide +kernel
theorem dL_law_1986 : decode cL_law 1986 = .ok (.iconst 3, 1) := by decide +kernel
theorem dL_law_1987 : decode cL_law 1987 = .ok (.iadd, 1) := by decide +kernel
theorem dL_law_1988 : decode cL_law 1988 = .ok (.iaload, 1) := by decide +kernel
theorem dL_law_1989 : decode cL_law 1989 = .ok (.aload_n 0, 1) := by decide +kernel
theorem dL_law_1990 : decode cL_law 1990 = .ok (.iload_n 3, 1) := by decide +kernel
theorem dL_law_1991 : decode cL_law 1991 = .ok (.iconst 4, 1) := by decide +kernel
theorem dL_law_1992 : decode cL_law 1992 = .ok (.iadd, 1) := by decide +kernel
theorem dL_law_1993 : decode cL_law 1993 = .ok (.iaload, 1) := by decide +kernel
theorem dL_law_1994 : decode cL_law 1994 = .ok (.ifCond .eq 7, 3) := by decide +kernel
theorem dL_law_1997 : decode cL_law 1997 = .ok (.iconst 1, 1) := by decide +kernel
theorem dL_law_1998 : decode cL_law 1998 = .ok (.goto 4, 3) := by decide +kernel
theorem dL_law_2001 : decode cL_law 2001 = .ok (.iconst 0, 1) := by decide +kernel
theorem dL_law_2002 : decode cL_law 2002 = .ok (.invokevirtual 161, 3) := by decide +kernel
theorem dL_law_2005 : decode cL_law 2005 = .ok (.aload_n 2, 1) := by decide +kernel
theorem dL_law_2006 : decode cL_law 2006 = .ok (.aload_n 0, 1) := by decide +kernel
theorem dL_law_2007 : decode cL_law 2007 = .ok (.iload_n 3, 1) := by decide +kernel
theorem dL_law_2008 : decode cL_law 2008 = .ok (.iconst 1, 1) := by decide +kernel
theorem dL_law_2009 : decode cL_law 2009 = .ok (.iadd, 1) := by decide +kernel
theorem dL_law_2010 : decode cL_law 2010 = .ok (.iaload, 1) := by decide +kernel
theorem dL_law_2011 : decode cL_law 2011 = .ok (.aload_n 0, 1) := by decide +kernel
theorem dL_law_2012 : decode cL_law 2012 = .ok (.iload_n 3, 1) := by decide +kernel
theorem dL_law_2013 : decode cL_law 2013 = .ok (.iconst 2, 1) := by decide +kernel
theorem dL_law_2014 : decode cL_law 2014 = .ok (.iadd, 1) := by decide +kernel
theorem dL_law_2015 : decode cL_law 2015 = .ok (.iaload, 1) := by decide +kernel
theorem dL_law_2016 : decode cL_law 2016 = .ok (.aload_n 0, 1) := by decide +kernel
theorem dL_law_2017 : decode cL_law 2017 = .ok (.iload_n 3, 1) := by decide +kernel
theorem dL_law_2018 : decode cL_law 2018 = .ok (.iconst 3, 1) := by decide +kernel
theorem dL_law_2019 : decode cL_law 2019 = .ok (.iadd, 1) := by decide +kernel
theorem dL_law_2020 : decode cL_law 2020 = .ok (.iaload, 1) := by decide +kernel
theorem dL_law_2021 : decode cL_law 2021 = .ok (.aload_n 0, 1) := by decide +kernel
theorem dL_law_2022 : decode cL_law 2022 = .ok (.iload_n 3, 1) := by decide +kernel
theorem dL_law_2023 : decode cL_law 2023 = .ok (.iconst 4, 1) := by decide +kernel
theorem dL_law_2024 : decode cL_law 2024 = .ok (.iadd, 1) := by decide +kernel
theorem dL_law_2025 : decode cL_law 2025 = .ok (.iaload, 1) := by decide +kernel
theorem dL_law_2026 : decode cL_law 2026 = .ok (.ifCond .eq 7, 3) := by decide +kernel
theorem dL_law_2029 : decode cL_law 2029 = .ok (.iconst 1, 1) := by decide +kernel
theorem dL_law_2030 : decode cL_law 2030 = .ok (.goto 4, 3) := by decide +kernel
theorem dL_law_2033 : decode cL_law 2033 = .ok (.iconst 0, 1) := by decide +kernel
theorem dL_law_2034 : decode cL_law 2034 = .ok (.invokevirtual 164, 3) := by decide +kernel
theorem dL_law_2037 : decode cL_law 2037 = .ok (.if_icmp .eq 245, 3) := by decide +kernel
theorem dL_law_2040 : decode cL_law 2040 = .ok (.iconst 0, 1) := by decide +kernel
theorem dL_law_2041 : decode cL_law 2041 = .ok (.ireturn, 1) := by decide +kernel
theorem dL_law_2042 : decode cL_law 2042 = .ok (.aload_n 1, 1) := by decide +kernel
theorem dL_law_2043 : decode cL_law 2043 = .ok (.aload_n 0, 1) := by decide +kernel
theorem dL_law_2044 : decode cL_law 2044 = .ok (.iload_n 3, 1) := by decide +kernel
theorem dL_law_2045 : decode cL_law 2045 = .ok (.iconst 1, 1) := by decide +kernel
theorem dL_law_2046 : decode cL_law 2046 = .ok (.iadd, 1) := by decide +kernel
theorem dL_law_2047 : decode cL_law 2047 = .ok (.iaload, 1) := by decide +kernel
theorem dL_law_2048 : decode cL_law 2048 = .ok (.aload_n 0, 1) := by decide +kernel
theorem dL_law_2049 : decode cL_law 2049 = .ok (.iload_n 3, 1) := by decide +kernel
theorem dL_law_2050 : decode cL_law 2050 = .ok (.iconst 2, 1) := by decide +kernel
theorem dL_law_2051 : decode cL_law 2051 = .ok (.iadd, 1) := by decide +kernel
theorem dL_law_2052 : decode cL_law 2052 = .ok (.iaload, 1) := by decide +kernel
theorem dL_law_2053 : decode cL_law 2053 = .ok (.aload_n 0, 1) := by decide +kernel
theorem dL_law_2054 : decode cL_law 2054 = .ok (.iload_n 3, 1) := by decide +kernel
theorem dL_law_2055 : decode cL_law 2055 = .ok (.iconst 3, 1) := by decide +kernel
theorem dL_law_2056 : decode cL_law 2056 = .ok (.iadd, 1) := by decide +kernel
theorem dL_law_2057 : decode cL_law 2057 = .ok (.iaload, 1) := by decide +kernel
theorem dL_law_2058 : decode cL_law 2058 = .ok (.aload_n 0, 1) := by decide +kernel
theorem dL_law_2059 : decode cL_law 2059 = .ok (.iload_n 3, 1) := by decide +kernel
theorem dL_law_2060 : decode cL_law 2060 = .ok (.iconst 4, 1) := by decide +kernel
theorem dL_law_2061 : decode cL_law 2061 = .ok (.iadd, 1) := by decide +kernel
theorem dL_law_2062 : decode cL_law 2062 = .ok (.iaload, 1) := by decide +kernel
theorem dL_law_2063 : decode cL_law 2063 = .ok (.invokevirtual 165, 3) := by decide +kernel
theorem dL_law_2066 : decode cL_law 2066 = .ok (.aload_n 2, 1) := by decide +kernel
theorem dL_law_2067 : decode cL_law 2067 = .ok (.aload_n 0, 1) := by decide +kernel
theorem dL_law_2068 : decode cL_law 2068 = .ok (.iload_n 3, 1) := by decide +kernel
theorem dL_law_2069 : decode cL_law 2069 = .ok (.iconst 1, 1) := by decide +kernel
theorem dL_law_2070 : decode cL_law 2070 = .ok (.iadd, 1) := by decide +kernel
theorem dL_law_2071 : decode cL_law 2071 = .ok (.iaload, 1) := by decide +kernel
theorem dL_law_2072 : decode cL_law 2072 = .ok (.aload_n 0, 1) := by decide +kernel
theorem dL_law_2073 : decode cL_law 2073 = .ok (.iload_n 3, 1) := by decide +kernel
theorem dL_law_2074 : decode cL_law 2074 = .ok (.iconst 2, 1) := by decide +kernel
theorem dL_law_2075 : decode cL_law 2075 = .ok (.iadd, 1) := by decide +kernel
theorem dL_law_2076 : decode cL_law 2076 = .ok (.iaload, 1) := by decide +kernel
theorem dL_law_2077 : decode cL_law 2077 = .ok (.aload_n 0, 1) := by decide +kernel
theorem dL_law_2078 : decode cL_law 2078 = .ok (.iload_n 3, 1) := by decide +kernel
theorem dL_law_2079 : decode cL_law 2079 = .ok (.iconst 3, 1) := by decide +kernel
theorem dL_law_2080 : decode cL_law 2080 = .ok (.iadd, 1) := by decide +kernel
theorem dL_law_2081 : decode cL_law 2081 = .ok (.iaload, 1) := by decide +kernel
theorem dL_law_2082 : decode cL_law 2082 = .ok (.aload_n 0, 1) := by decide +kernel
theorem dL_law_2083 : decode cL_law 2083 = .ok (.iload_n 3, 1) := by decide +kernel
theorem dL_law_2084 : decode cL_law 2084 = .ok (.iconst 4, 1) := by decide +kernel
theorem dL_law_2085 : decode cL_law 2085 = .ok (.iadd, 1) := by decide +kernel
theorem dL_law_2086 : decode cL_law 2086 = .ok (.iaload, 1) := by decide +kernel
theorem dL_law_2087 : decode cL_law 2087 = .ok (.invokevirtual 168, 3) := by decide +kernel
theorem dL_law_2090 : decode cL_law 2090 = .ok (.if_icmp .eq 192, 3) := by decide +kernel
theorem dL_law_2093 : decode cL_law 2093 = .ok (.iconst 0, 1) := by decide +kernel
theorem dL_law_2094 : decode cL_law 2094 = .ok (.ireturn, 1) := by decide +kernel
theorem dL_law_2095 : decode cL_law 2095 = .ok (.aload_n 1, 1) := by decide +kernel
theorem dL_law_2096 : decode cL_law 2096 = .ok (.aload_n 0, 1) := by decide +kernel
theorem dL_law_2097 : decode cL_law 2097 = .ok (.iload_n 3, 1) := by decide +kernel
theorem dL_law_2098 : decode cL_law 2098 = .ok (.iconst 1, 1) := by decide +kernel
theorem dL_law_2099 : decode cL_law 2099 = .ok (.iadd, 1) := by decide +kernel
theorem dL_law_2100 : decode cL_law 2100 = .ok (.iaload, 1) := by decide +kernel
theorem dL_law_2101 : decode cL_law 2101 = .ok (.aload_n 0, 1) := by decide +kernel
theorem dL_law_2102 : decode cL_law 2102 = .ok (.iload_n 3, 1) := by decide +kernel
theorem dL_law_2103 : decode cL_law 2103 = .ok (.iconst 2, 1) := by decide +kernel
theorem dL_law_2104 : decode cL_law 2104 = .ok (.iadd, 1) := by decide +kernel
theorem dL_law_2105 : decode cL_law 2105 = .ok (.iaload, 1) := by decide +kernel
theorem dL_law_2106 : decode cL_law 2106 = .ok (.aload_n 0, 1) := by decide +kernel
theorem dL_law_2107 : decode cL_law 2107 = .ok (.iload_n 3, 1) := by decide +kernel
theorem dL_law_2108 : decode cL_law 2108 = .ok (.iconst 3, 1) := by decide +kernel
theorem dL_law_2109 : decode cL_law 2109 = .ok (.iadd, 1) := by decide +kernel
theorem dL_law_2110 : decode cL_law 2110 = .ok (.iaload, 1) := by decide +kernel
theorem dL_law_2111 : decode cL_law 2111 = .ok (.invokevirtual 169, 3) := by decide +kernel
theorem dL_law_2114 : decode cL_law 2114 = .ok (.aload_n 2, 1) := by decide +kernel
theorem dL_law_2115 : decode cL_law 2115 = .ok (.aload_n 0, 1) := by decide +kernel
theorem dL_law_2116 : decode cL_law 2116 = .ok (.iload_n 3, 1) := by decide +kernel
theorem dL_law_2117 : decode cL_law 2117 = .ok (.iconst 1, 1) := by decide +kernel
theorem dL_law_2118 : decode cL_law 2118 = .ok (.iadd, 1) := by decide +kernel
theorem dL_law_2119 : decode cL_law 2119 = .ok (.iaload, 1) := by decide +kernel
theorem dL_law_2120 : decode cL_law 2120 = .ok (.aload_n 0, 1) := by decide +kernel
theorem dL_law_2121 : decode cL_law 2121 = .ok (.iload_n 3, 1) := by decide +kernel
theorem dL_law_2122 : decode cL_law 2122 = .ok (.iconst 2, 1) := by decide +kernel
theorem dL_law_2123 : decode cL_law 2123 = .ok (.iadd, 1) := by decide +kernel
theorem dL_law_2124 : decode cL_law 2124 = .ok (.iaload, 1) := by decide +kernel
theorem dL_law_2125 : decode cL_law 2125 = .ok (.aload_n 0, 1) := by decide +kernel
theorem dL_law_2126 : decode cL_law 2126 = .ok (.iload_n 3, 1) := by decide +kernel
theorem dL_law_2127 : decode cL_law 2127 = .ok (.iconst 3, 1) := by decide +kernel
theorem dL_law_2128 : decode cL_law 2128 = .ok (.iadd, 1) := by decide +kernel
theorem dL_law_2129 : decode cL_law 2129 = .ok (.iaload, 1) := by decide +kernel
theorem dL_law_2130 : decode cL_law 2130 = .ok (.invokevirtual 172, 3) := by decide +kernel
theorem dL_law_2133 : decode cL_law 2133 = .ok (.if_icmp .eq 149, 3) := by decide +kernel
theorem dL_law_2136 : decode cL_law 2136 = .ok (.iconst 0, 1) := by decide +kernel
theorem dL_law_2137 : decode cL_law 2137 = .ok (.ireturn, 1) := by decide +kernel
theorem dL_law_2138 : decode cL_law 2138 = .ok (.aload_n 1, 1) := by decide +kernel
theorem dL_law_2139 : decode cL_law 2139 = .ok (.aload_n 0, 1) := by decide +kernel
theorem dL_law_2140 : decode cL_law 2140 = .ok (.iload_n 3, 1) := by decide +kernel
theorem dL_law_2141 : decode cL_law 2141 = .ok (.iconst 1, 1) := by decide +kernel
theorem dL_law_2142 : decode cL_law 2142 = .ok (.iadd, 1) := by decide +kernel
theorem dL_law_2143 : decode cL_law 2143 = .ok (.iaload, 1) := by decide +kernel
theorem dL_law_2144 : decode cL_law 2144 = .ok (.aload_n 0, 1) := by decide +kernel
theorem dL_law_2145 : decode cL_law 2145 = .ok (.iload_n 3, 1) := by decide +kernel
theorem dL_law_2146 : decode cL_law 2146 = .ok (.iconst 2, 1) := by decide +kernel
theorem dL_law_2147 : decode cL_law 2147 = .ok (.iadd, 1) := by decide +kernel
theorem dL_law_2148 : decode cL_law 2148 = .ok (.iaload, 1) := by decide +kernel
theorem dL_law_2149 : decode cL_law 2149 = .ok (.aload_n 0, 1) := by decide +kernel
theorem dL_law_2150 : decode cL_law 2150 = .ok (.iload_n 3, 1) := by decide +kernel
theorem dL_law_2151 : decode cL_law 2151 = .ok (.iconst 3, 1) := by decide +kernel
theorem dL_law_2152 : decode cL_law 2152 = .ok (.iadd, 1) := by decide +kernel
theorem dL_law_2153 : decode cL_law 2153 = .ok (.iaload, 1) := by decide +kernel
theorem dL_law_2154 : decode cL_law 2154 = .ok (.aload_n 0, 1) := by decide +kernel
theorem dL_law_2155 : decode cL_law 2155 = .ok (.iload_n 3, 1) := by decide +kernel
theorem dL_law_2156 : decode cL_law 2156 = .ok (.iconst 4, 1) := by decide +kernel
theorem dL_law_2157 : decode cL_law 2157 = .ok (.iadd, 1) := by decide +kernel
theorem dL_law_2158 : decode cL_law 2158 = .ok (.iaload, 1) := by decide +kernel
theorem dL_law_2159 : decode cL_law 2159 = .ok (.aload_n 0, 1) := by decide +kernel
theorem dL_law_2160 : decode cL_law 2160 = .ok (.iload_n 3, 1) := by decide +kernel
theorem dL_law_2161 : decode cL_law 2161 = .ok (.iconst 5, 1) := by decide +kernel
theorem dL_law_2162 : decode cL_law 2162 = .ok (.iadd, 1) := by decide +kernel
theorem dL_law_2163 : decode cL_law 2163 = .ok (.iaload, 1) := by decide +kernel
theorem dL_law_2164 : decode cL_law 2164 = .ok (.aload_n 0, 1) := by decide +kernel
theorem dL_law_2165 : decode cL_law 2165 = .ok (.iload_n 3, 1) := by decide +kernel
theorem dL_law_2166 : decode cL_law 2166 = .ok (.bipush 6, 2) := by decide +kernel
theorem dL_law_2168 : decode cL_law 2168 = .ok (.iadd, 1) := by decide +kernel
theorem dL_law_2169 : decode cL_law 2169 = .ok (.iaload, 1) := by decide +kernel
theorem dL_law_2170 : decode cL_law 2170 = .ok (.invokevirtual 173, 3) := by decide +kernel
theorem dL_law_2173 : decode cL_law 2173 = .ok (.aload_n 2, 1) := by decide +kernel
theorem dL_law_2174 : decode cL_law 2174 = .ok (.aload_n 0, 1) := by decide +kernel
theorem dL_law_2175 : decode cL_law 2175 = .ok (.iload_n 3, 1) := by decide +kernel
theorem dL_law_2176 : decode cL_law 2176 = .ok (.iconst 1, 1) := by decide +kernel
theorem dL_law_2177 : decode cL_law 2177 = .ok (.iadd, 1) := by decide +kernel
theorem dL_law_2178 : decode cL_law 2178 = .ok (.iaload, 1) := by decide +kernel
theorem dL_law_2179 : decode cL_law 2179 = .ok (.aload_n 0, 1) := by decide +kernel
theorem dL_law_2180 : decode cL_law 2180 = .ok (.iload_n 3, 1) := by decide +kernel
theorem dL_law_2181 : decode cL_law 2181 = .ok (.iconst 2, 1) := by decide +kernel
theorem dL_law_2182 : decode cL_law 2182 = .ok (.iadd, 1) := by decide +kernel
theorem dL_law_2183 : decode cL_law 2183 = .ok (.iaload, 1) := by decide +kernel
theorem dL_law_2184 : decode cL_law 2184 = .ok (.aload_n 0, 1) := by decide +kernel
theorem dL_law_2185 : decode cL_law 2185 = .ok (.iload_n 3, 1) := by decide +kernel
theorem dL_law_2186 : decode cL_law 2186 = .ok (.iconst 3, 1) := by decide +kernel
theorem dL_law_2187 : decode cL_law 2187 = .ok (.iadd, 1) := by decide +kernel
theorem dL_law_2188 : decode cL_law 2188 = .ok (.iaload, 1) := by decide +kernel
theorem dL_law_2189 : decode cL_law 2189 = .ok (.aload_n 0, 1) := by decide +kernel
theorem dL_law_2190 : decode cL_law 2190 = .ok (.iload_n 3, 1) := by decide +kernel
theorem dL_law_2191 : decode cL_law 2191 = .ok (.iconst 4, 1) := by decide +kernel
theorem dL_law_2192 : decode cL_law 2192 = .ok (.iadd, 1) := by decide +kernel
theorem dL_law_2193 : decode cL_law 2193 = .ok (.iaload, 1) := by decide +kernel
theorem dL_law_2194 : decode cL_law 2194 = .ok (.aload_n 0, 1) := by decide +kernel
theorem dL_law_2195 : decode cL_law 2195 = .ok (.iload_n 3, 1) := by decide +kernel
theorem dL_law_2196 : decode cL_law 2196 = .ok (.iconst 5, 1) := by decide +kernel
theorem dL_law_2197 : decode cL_law 2197 = .ok (.iadd, 1) := by decide +kernel
theorem dL_law_2198 : decode cL_law 2198 = .ok (.iaload, 1) := by decide +kernel
theorem dL_law_2199 : decode cL_law 2199 = .ok (.aload_n 0, 1) := by decide +kernel
theorem dL_law_2200 : decode cL_law 2200 = .ok (.iload_n 3, 1) := by decide +kernel
theorem dL_law_2201 : decode cL_law 2201 = .ok (.bipush 6, 2) := by decide +kernel
theorem dL_law_2203 : decode cL_law 2203 = .ok (.iadd, 1) := by decide +kernel
theorem dL_law_2204 : decode cL_law 2204 = .ok (.iaload, 1) := by decide +kernel
theorem dL_law_2205 : decode cL_law 2205 = .ok (.invokevirtual 177, 3) := by decide +kernel
theorem dL_law_2208 : decode cL_law 2208 = .ok (.if_icmp .eq 74, 3) := by decide +kernel
theorem dL_law_2211 : decode cL_law 2211 = .ok (.iconst 0, 1) := by decide +kernel
theorem dL_law_2212 : decode cL_law 2212 = .ok (.ireturn, 1) := by decide +kernel
theorem dL_law_2213 : decode cL_law 2213 = .ok (.aload_n 1, 1) := by decide +kernel
theorem dL_law_2214 : decode cL_law 2214 = .ok (.aload_n 0, 1) := by decide +kernel
theorem dL_law_2215 : decode cL_law 2215 = .ok (.iload_n 3, 1) := by decide +kernel
theorem dL_law_2216 : decode cL_law 2216 = .ok (.iconst 1, 1) := by decide +kernel
theorem dL_law_2217 : decode cL_law 2217 = .ok (.iadd, 1) := by decide +kernel
theorem dL_law_2218 : decode cL_law 2218 = .ok (.iaload, 1) := by decide +kernel
theorem dL_law_2219 : decode cL_law 2219 = .ok (.invokevirtual 178, 3) := by decide +kernel
theorem dL_law_2222 : decode cL_law 2222 = .ok (.aload_n 2, 1) := by decide +kernel
theorem dL_law_2223 : decode cL_law 2223 = .ok (.aload_n 0, 1) := by decide +kernel
theorem dL_law_2224 : decode cL_law 2224 = .ok (.iload_n 3, 1) := by decide +kernel
theorem dL_law_2225 : decode cL_law 2225 = .ok (.iconst 1, 1) := by decide +kernel
theorem dL_law_2226 : decode cL_law 2226 = .ok (.iadd, 1) := by decide +kernel
theorem dL_law_2227 : decode cL_law 2227 = .ok (.iaload, 1) := by decide +kernel
theorem dL_law_2228 : decode cL_law 2228 = .ok (.invokevirtual 181, 3) := by decide +kernel
theorem dL_law_2231 : decode cL_law 2231 = .ok (.if_icmp .eq 51, 3) := by decide +kernel
theorem dL_law_2234 : decode cL_law 2234 = .ok (.iconst 0, 1) := by decide +kernel
theorem dL_law_2235 : decode cL_law 2235 = .ok (.ireturn, 1) := by decide +kernel
theorem dL_law_2236 : decode cL_law 2236 = .ok (.aload_n 1, 1) := by decide +kernel
theorem dL_law_2237 : decode cL_law 2237 = .ok (.aload_n 0, 1) := by decide +kernel
theorem dL_law_2238 : decode cL_law 2238 = .ok (.iload_n 3, 1) := by decide +kernel
theorem dL_law_2239 : decode cL_law 2239 = .ok (.iconst 1, 1) := by decide +kernel
theorem dL_law_2240 : decode cL_law 2240 = .ok (.iadd, 1) := by decide +kernel
theorem dL_law_2241 : decode cL_law 2241 = .ok (.iaload, 1) := by decide +kernel
theorem dL_law_2242 : decode cL_law 2242 = .ok (.invokevirtual 182, 3) := by decide +kernel
theorem dL_law_2245 : decode cL_law 2245 = .ok (.aload_n 2, 1) := by decide +kernel
theorem dL_law_2246 : decode cL_law 2246 = .ok (.aload_n 0, 1) := by decide +kernel
theorem dL_law_2247 : decode cL_law 2247 = .ok (.iload_n 3, 1) := by decide +kernel
theorem dL_law_2248 : decode cL_law 2248 = .ok (.iconst 1, 1) := by decide +kernel
theorem dL_law_2249 : decode cL_law 2249 = .ok (.iadd, 1) := by decide +kernel
theorem dL_law_2250 : decode cL_law 2250 = .ok (.iaload, 1) := by decide +kernel
theorem dL_law_2251 : decode cL_law 2251 = .ok (.invokevirtual 186, 3) := by decide +kernel
theorem dL_law_2254 : decode cL_law 2254 = .ok (.if_icmp .eq 28, 3) := by decide +kernel
theorem dL_law_2257 : decode cL_law 2257 = .ok (.iconst 0, 1) := by decide +kernel
theorem dL_law_2258 : decode cL_law 2258 = .ok (.ireturn, 1) := by decide +kernel
theorem dL_law_2259 : decode cL_law 2259 = .ok (.aload_n 1, 1) := by decide +kernel
theorem dL_law_2260 : decode cL_law 2260 = .ok (.aload_n 0, 1) := by decide +kernel
theorem dL_law_2261 : decode cL_law 2261 = .ok (.iload_n 3, 1) := by decide +kernel
theorem dL_law_2262 : decode cL_law 2262 = .ok (.iconst 1, 1) := by decide +kernel
theorem dL_law_2263 : decode cL_law 2263 = .ok (.iadd, 1) := by decide +kernel
theorem dL_law_2264 : decode cL_law 2264 = .ok (.iaload, 1) := by decide +kernel
theorem dL_law_2265 : decode cL_law 2265 = .ok (.invokevirtual 187, 3) := by decide +kernel
theorem dL_law_2268 : decode cL_law 2268 = .ok (.aload_n 2, 1) := by decide +kernel
theorem dL_law_2269 : decode cL_law 2269 = .ok (.aload_n 0, 1) := by decide +kernel
theorem dL_law_2270 : decode cL_law 2270 = .ok (.iload_n 3, 1) := by decide +kernel
theorem dL_law_2271 : decode cL_law 2271 = .ok (.iconst 1, 1) := by decide +kernel
theorem dL_law_2272 : decode cL_law 2272 = .ok (.iadd, 1) := by decide +kernel
theorem dL_law_2273 : decode cL_law 2273 = .ok (.iaload, 1) := by decide +kernel
theorem dL_law_2274 : decode cL_law 2274 = .ok (.invokevirtual 190, 3) := by decide +kernel
theorem dL_law_2277 : decode cL_law 2277 = .ok (.if_icmp .eq 5, 3) := by decide +kernel
theorem dL_law_2280 : decode cL_law 2280 = .ok (.iconst 0, 1) := by decide +kernel
theorem dL_law_2281 : decode cL_law 2281 = .ok (.ireturn, 1) := by decide +kernel
theorem dL_law_2282 : decode cL_law 2282 = .ok (.iinc 3 10, 3) := by decide +kernel
theorem dL_law_2285 : decode cL_law 2285 = .ok (.goto (-2267), 3) := by decide +kernel
theorem dL_law_2288 : decode cL_law 2288 = .ok (.iconst 1, 1) := by decide +kernel
theorem dL_law_2289 : decode cL_law 2289 = .ok (.ireturn, 1) := by decide +kernel
noncomputable def k_L_law_2282 (F : Nat) (L : Nat) (xs : Nat → Int) (h18 : AK) : AK := ak_iinc 3 10 h18
set_option maxRecDepth 20000 in
theorem sk_L_law_2282 (F : Nat) (L : Nat) (xs : Nat → Int) {h18 : AK} (hh18 : Snd (XS L xs) RL cL_law 4 21 18 h18) : Snd (XS L xs) RL cL_law 4 21 2282 (k_L_law_2282 F L xs h18) := by
  unfold k_L_law_2282
  exact snd_iinc (pc := 2282) (i := 3) (n := 10) (by decide) dL_law_2282 (snd_goto (pc := 2285) (off := (-2267)) (tgt := 18) (by decide) dL_law_2285 (hh18))
noncomputable def k_L_law_212 (F : Nat) (L : Nat) (xs : Nat → Int) (h18 : AK) : AK := ak_aload 1 (ak_aload 0 (ak_iload 3 (ak_push (vI 1) (ak_iadd (ak_sld L xs (ak_aload 0 (ak_iload 3 (ak_push (vI 2) (ak_iadd (ak_sld L xs (ak_aload 0 (ak_iload 3 (ak_push (vI 3) (ak_iadd (ak_sld L xs (ak_aload 0 (ak_iload 3 (ak_push (vI 4) (ak_iadd (ak_sld L xs (ak_aload 0 (ak_iload 3 (ak_push (vI 5) (ak_iadd (ak_sld L xs (ak_callv 8 5 (m_X8_feed F) (ak_aload 2 (ak_aload 0 (ak_iload 3 (ak_push (vI 1) (ak_iadd (ak_sld L xs (ak_aload 0 (ak_iload 3 (ak_push (vI 2) (ak_iadd (ak_sld L xs (ak_aload 0 (ak_iload 3 (ak_push (vI 3) (ak_iadd (ak_sld L xs (ak_aload 0 (ak_iload 3 (ak_push (vI 4) (ak_iadd (ak_sld L xs (ak_aload 0 (ak_iload 3 (ak_push (vI 5) (ak_iadd (ak_sld L xs (ak_callv 9 5 (m_X9_feed F) (ak_cmpeq ((k_L_law_2282 F L xs h18)) (ak_push (vI 0) ak_ireturn)))))))))))))))))))))))))))))))))))))))))))))))))))))))
set_option maxRecDepth 20000 in
theorem sk_L_law_212 (F : Nat) (L : Nat) (xs : Nat → Int) {h18 : AK} (hh18 : Snd (XS L xs) RL cL_law 4 21 18 h18) : Snd (XS L xs) RL cL_law 4 21 212 (k_L_law_212 F L xs h18) := by
  unfold k_L_law_212
  exact snd_aload_n (pc := 212) (i := 1) dL_law_212 (snd_aload_n (pc := 213) (i := 0) dL_law_213 (snd_iload_n (pc := 214) (i := 3) dL_law_214 (snd_iconst (pc := 215) dL_law_215 (snd_iadd (pc := 216) dL_law_216 (snd_sld (pc := 217) dL_law_217 (snd_aload_n (pc := 218) (i := 0) dL_law_218 (snd_iload_n (pc := 219) (i := 3) dL_law_219 (snd_iconst (pc := 220) dL_law_220 (snd_iadd (pc := 221) dL_law_221 (snd_sld (pc := 222) dL_law_222 (snd_aload_n (pc := 223) (i := 0) dL_law_223 (snd_iload_n (pc := 224) (i := 3) dL_law_224 (snd_iconst (pc := 225) dL_law_225 (snd_iadd (pc := 226) dL_law_226 (snd_sld (pc := 227) dL_law_227 (snd_aload_n (pc := 228) (i := 0) dL_law_228 (snd_iload_n (pc := 229) (i := 3) dL_law_229 (snd_iconst (pc := 230) dL_law_230 (snd_iadd (pc := 231) dL_law_231 (snd_sld (pc := 232) dL_law_232 (snd_aload_n (pc := 233) (i := 0) dL_law_233 (snd_iload_n (pc := 234) (i := 3) dL_law_234 (snd_iconst (pc := 235) dL_law_235 (snd_iadd (pc := 236) dL_law_236 (snd_sld (pc := 237) dL_law_237 (snd_callV (pc := 238) (n := 5) cls8 (s_X8_feed F) (by decide) (by decide) wd_613 wd_610 wd_611 wd_612 wd_120 hy_X8_feed dL_law_238 (snd_aload_n (pc := 241) (i := 2) dL_law_241 (snd_aload_n (pc := 242) (i := 0) dL_law_242 (snd_iload_n (pc := 243) (i := 3) dL_law_243 (snd_iconst (pc := 244) dL_law_244 (snd_iadd (pc := 245) dL_law_245 (snd_sld (pc := 246) dL_law_246 (snd_aload_n (pc := 247) (i := 0) dL_law_247 (snd_iload_n (pc := 248) (i := 3) dL_law_248 (snd_iconst (pc := 249) dL_law_249 (snd_iadd (pc := 250) dL_law_250 (snd_sld (pc := 251) dL_law_251 (snd_aload_n (pc := 252) (i := 0) dL_law_252 (snd_iload_n (pc := 253) (i := 3) dL_law_253 (snd_iconst (pc := 254) dL_law_254 (snd_iadd (pc := 255) dL_law_255 (snd_sld (pc := 256) dL_law_256 (snd_aload_n (pc := 257) (i := 0) dL_law_257 (snd_iload_n (pc := 258) (i := 3) dL_law_258 (snd_iconst (pc := 259) dL_law_259 (snd_iadd (pc := 260) dL_law_260 (snd_sld (pc := 261) dL_law_261 (snd_aload_n (pc := 262) (i := 0) dL_law_262 (snd_iload_n (pc := 263) (i := 3) dL_law_263 (snd_iconst (pc := 264) dL_law_264 (snd_iadd (pc := 265) dL_law_265 (snd_sld (pc := 266) dL_law_266 (snd_callV (pc := 267) (n := 5) cls9 (s_X9_feed F) (by decide) (by decide) wd_1500 wd_1497 wd_1498 wd_1499 wd_129 hy_X9_feed dL_law_267 (snd_icmpeq (pc := 270) (off := 2012) (tgt := 2282) (by decide) dL_law_270 ((sk_L_law_2282 F L xs hh18)) (snd_iconst (pc := 273) dL_law_273 (snd_ireturn dL_law_274))))))))))))))))))))))))))))))))))))))))))))))))))))))))
noncomputable def k_L_law_275 (F : Nat) (L : Nat) (xs : Nat → Int) (h18 : AK) : AK := ak_aload 1 (ak_aload 0 (ak_iload 3 (ak_push (vI 1) (ak_iadd (ak_sld L xs (ak_callv 8 1 (m_X8_end F) (ak_aload 2 (ak_aload 0 (ak_iload 3 (ak_push (vI 1) (ak_iadd (ak_sld L xs (ak_callv 9 1 (m_X9_end F) (ak_cmpeq ((k_L_law_2282 F L xs h18)) (ak_push (vI 0) ak_ireturn)))))))))))))))
set_option maxRecDepth 20000 in
theorem sk_L_law_275 (F : Nat) (L : Nat) (xs : Nat → Int) {h18 : AK} (hh18 : Snd (XS L xs) RL cL_law 4 21 18 h18) : Snd (XS L xs) RL cL_law 4 21 275 (k_L_law_275 F L xs h18) := by
  unfold k_L_law_275
  exact snd_aload_n (pc := 275) (i := 1) dL_law_275 (snd_aload_n (pc := 276) (i := 0) dL_law_276 (snd_iload_n (pc := 277) (i := 3) dL_law_277 (snd_iconst (pc := 278) dL_law_278 (snd_iadd (pc := 279) dL_law_279 (snd_sld (pc := 280) dL_law_280 (snd_callV (pc := 281) (n := 1) cls8 (s_X8_end F) (by decide) (by decide) wd_621 wd_618 wd_619 wd_620 wd_120 hy_X8_end dL_law_281 (snd_aload_n (pc := 284) (i := 2) dL_law_284 (snd_aload_n (pc := 285) (i := 0) dL_law_285 (snd_iload_n (pc := 286) (i := 3) dL_law_286 (snd_iconst (pc := 287) dL_law_287 (snd_iadd (pc := 288) dL_law_288 (snd_sld (pc := 289) dL_law_289 (snd_callV (pc := 290) (n := 1) cls9 (s_X9_end F) (by decide) (by decide) wd_1508 wd_1505 wd_1506 wd_1507 wd_129 hy_X9_end dL_law_290 (snd_icmpeq (pc := 293) (off := 1989) (tgt := 2282) (by decide) dL_law_293 ((sk_L_law_2282 F L xs hh18)) (snd_iconst (pc := 296) dL_law_296 (snd_ireturn dL_law_297))))))))))))))))
noncomputable def k_L_law_298 (F : Nat) (L : Nat) (xs : Nat → Int) (h18 : AK) : AK := ak_aload 1 (ak_aload 0 (ak_iload 3 (ak_push (vI 1) (ak_iadd (ak_sld L xs (ak_aload 0 (ak_iload 3 (ak_push (vI 2) (ak_iadd (ak_sld L xs (ak_callv 8 2 (m_X8_text F) (ak_aload 2 (ak_aload 0 (ak_iload 3 (ak_push (vI 1) (ak_iadd (ak_sld L xs (ak_aload 0 (ak_iload 3 (ak_push (vI 2) (ak_iadd (ak_sld L xs (ak_callv 9 2 (m_X9_text F) (ak_cmpeq ((k_L_law_2282 F L xs h18)) (ak_push (vI 0) ak_ireturn)))))))))))))))))))))))))
set_option maxRecDepth 20000 in
theorem sk_L_law_298 (F : Nat) (L : Nat) (xs : Nat → Int) {h18 : AK} (hh18 : Snd (XS L xs) RL cL_law 4 21 18 h18) : Snd (XS L xs) RL cL_law 4 21 298 (k_L_law_298 F L xs h18) := by
  unfold k_L_law_298
  exact snd_aload_n (pc := 298) (i := 1) dL_law_298 (snd_aload_n (pc := 299) (i := 0) dL_law_299 (snd_iload_n (pc := 300) (i := 3) dL_law_300 (snd_iconst (pc := 301) dL_law_301 (snd_iadd (pc := 302) dL_law_302 (snd_sld (pc := 303) dL_law_303 (snd_aload_n (pc := 304) (i := 0) dL_law_304 (snd_iload_n (pc := 305) (i := 3) dL_law_305 (snd_iconst (pc := 306) dL_law_306 (snd_iadd (pc := 307) dL_law_307 (snd_sld (pc := 308) dL_law_308 (snd_callV (pc := 309) (n := 2) cls8 (s_X8_text F) (by decide) (by decide) wd_625 wd_622 wd_623 wd_624 wd_120 hy_X8_text dL_law_309 (snd_aload_n (pc := 312) (i := 2) dL_law_312 (snd_aload_n (pc := 313) (i := 0) dL_law_313 (snd_iload_n (pc := 314) (i := 3) dL_law_314 (snd_iconst (pc := 315) dL_law_315 (snd_iadd (pc := 316) dL_law_316 (snd_sld (pc := 317) dL_law_317 (snd_aload_n (pc := 318) (i := 0) dL_law_318 (snd_iload_n (pc := 319) (i := 3) dL_law_319 (snd_iconst (pc := 320) dL_law_320 (snd_iadd (pc := 321) dL_law_321 (snd_sld (pc := 322) dL_law_322 (snd_callV (pc := 323) (n := 2) cls9 (s_X9_text F) (by decide) (by decide) wd_1515 wd_1512 wd_1513 wd_1514 wd_129 hy_X9_text dL_law_323 (snd_icmpeq (pc := 326) (off := 1956) (tgt := 2282) (by decide) dL_law_326 ((sk_L_law_2282 F L xs hh18)) (snd_iconst (pc := 329) dL_law_329 (snd_ireturn dL_law_330))))))))))))))))))))))))))
noncomputable def k_L_law_331 (F : Nat) (L : Nat) (xs : Nat → Int) (h18 : AK) : AK := ak_aload 1 (ak_aload 0 (ak_iload 3 (ak_push (vI 1) (ak_iadd (ak_sld L xs (ak_callv 8 1 (m_X8_fault F) (ak_aload 2 (ak_aload 0 (ak_iload 3 (ak_push (vI 1) (ak_iadd (ak_sld L xs (ak_callv 9 1 (m_X9_fault F) (ak_cmpeq ((k_L_law_2282 F L xs h18)) (ak_push (vI 0) ak_ireturn)))))))))))))))
set_option maxRecDepth 20000 in
theorem sk_L_law_331 (F : Nat) (L : Nat) (xs : Nat → Int) {h18 : AK} (hh18 : Snd (XS L xs) RL cL_law 4 21 18 h18) : Snd (XS L xs) RL cL_law 4 21 331 (k_L_law_331 F L xs h18) := by
  unfold k_L_law_331
  exact snd_aload_n (pc := 331) (i := 1) dL_law_331 (snd_aload_n (pc := 332) (i := 0) dL_law_332 (snd_iload_n (pc := 333) (i := 3) dL_law_333 (snd_iconst (pc := 334) dL_law_334 (snd_iadd (pc := 335) dL_law_335 (snd_sld (pc := 336) dL_law_336 (snd_callV (pc := 337) (n := 1) cls8 (s_X8_fault F) (by decide) (by decide) wd_830 wd_827 wd_828 wd_829 wd_120 hy_X8_fault dL_law_337 (snd_aload_n (pc := 340) (i := 2) dL_law_340 (snd_aload_n (pc := 341) (i := 0) dL_law_341 (snd_iload_n (pc := 342) (i := 3) dL_law_342 (snd_iconst (pc := 343) dL_law_343 (snd_iadd (pc := 344) dL_law_344 (snd_sld (pc := 345) dL_law_345 (snd_callV (pc := 346) (n := 1) cls9 (s_X9_fault F) (by decide) (by decide) wd_1585 wd_1582 wd_1583 wd_1584 wd_129 hy_X9_fault dL_law_346 (snd_icmpeq (pc := 349) (off := 1933) (tgt := 2282) (by decide) dL_law_349 ((sk_L_law_2282 F L xs hh18)) (snd_iconst (pc := 352) dL_law_352 (snd_ireturn dL_law_353))))))))))))))))
noncomputable def k_L_law_354 (F : Nat) (L : Nat) (xs : Nat → Int) (h18 : AK) : AK := ak_aload 1 (ak_aload 0 (ak_iload 3 (ak_push (vI 1) (ak_iadd (ak_sld L xs (ak_aload 0 (ak_iload 3 (ak_push (vI 2) (ak_iadd (ak_sld L xs (ak_callv 8 2 (m_X8_town F) (ak_aload 2 (ak_aload 0 (ak_iload 3 (ak_push (vI 1) (ak_iadd (ak_sld L xs (ak_aload 0 (ak_iload 3 (ak_push (vI 2) (ak_iadd (ak_sld L xs (ak_callv 9 2 (m_X9_town F) (ak_cmpeq ((k_L_law_2282 F L xs h18)) (ak_push (vI 0) ak_ireturn)))))))))))))))))))))))))
set_option maxRecDepth 20000 in
theorem sk_L_law_354 (F : Nat) (L : Nat) (xs : Nat → Int) {h18 : AK} (hh18 : Snd (XS L xs) RL cL_law 4 21 18 h18) : Snd (XS L xs) RL cL_law 4 21 354 (k_L_law_354 F L xs h18) := by
  unfold k_L_law_354
  exact snd_aload_n (pc := 354) (i := 1) dL_law_354 (snd_aload_n (pc := 355) (i := 0) dL_law_355 (snd_iload_n (pc := 356) (i := 3) dL_law_356 (snd_iconst (pc := 357) dL_law_357 (snd_iadd (pc := 358) dL_law_358 (snd_sld (pc := 359) dL_law_359 (snd_aload_n (pc := 360) (i := 0) dL_law_360 (snd_iload_n (pc := 361) (i := 3) dL_law_361 (snd_iconst (pc := 362) dL_law_362 (snd_iadd (pc := 363) dL_law_363 (snd_sld (pc := 364) dL_law_364 (snd_callV (pc := 365) (n := 2) cls8 (s_X8_town F) (by decide) (by decide) wd_834 wd_831 wd_832 wd_833 wd_120 hy_X8_town dL_law_365 (snd_aload_n (pc := 368) (i := 2) dL_law_368 (snd_aload_n (pc := 369) (i := 0) dL_law_369 (snd_iload_n (pc := 370) (i := 3) dL_law_370 (snd_iconst (pc := 371) dL_law_371 (snd_iadd (pc := 372) dL_law_372 (snd_sld (pc := 373) dL_law_373 (snd_aload_n (pc := 374) (i := 0) dL_law_374 (snd_iload_n (pc := 375) (i := 3) dL_law_375 (snd_iconst (pc := 376) dL_law_376 (snd_iadd (pc := 377) dL_law_377 (snd_sld (pc := 378) dL_law_378 (snd_callV (pc := 379) (n := 2) cls9 (s_X9_town F) (by decide) (by decide) wd_1589 wd_1586 wd_1587 wd_1588 wd_129 hy_X9_town dL_law_379 (snd_icmpeq (pc := 382) (off := 1900) (tgt := 2282) (by decide) dL_law_382 ((sk_L_law_2282 F L xs hh18)) (snd_iconst (pc := 385) dL_law_385 (snd_ireturn dL_law_386))))))))))))))))))))))))))
noncomputable def k_L_law_387 (F : Nat) (L : Nat) (xs : Nat → Int) (h18 : AK) : AK := ak_aload 1 (ak_aload 0 (ak_iload 3 (ak_push (vI 1) (ak_iadd (ak_sld L xs (ak_aload 0 (ak_iload 3 (ak_push (vI 2) (ak_iadd (ak_sld L xs (ak_aload 0 (ak_iload 3 (ak_push (vI 3) (ak_iadd (ak_sld L xs (ak_callv 8 3 (m_X8_road F) (ak_aload 2 (ak_aload 0 (ak_iload 3 (ak_push (vI 1) (ak_iadd (ak_sld L xs (ak_aload 0 (ak_iload 3 (ak_push (vI 2) (ak_iadd (ak_sld L xs (ak_aload 0 (ak_iload 3 (ak_push (vI 3) (ak_iadd (ak_sld L xs (ak_callv 9 3 (m_X9_road F) (ak_cmpeq ((k_L_law_2282 F L xs h18)) (ak_push (vI 0) ak_ireturn)))))))))))))))))))))))))))))))))))
set_option maxRecDepth 20000 in
theorem sk_L_law_387 (F : Nat) (L : Nat) (xs : Nat → Int) {h18 : AK} (hh18 : Snd (XS L xs) RL cL_law 4 21 18 h18) : Snd (XS L xs) RL cL_law 4 21 387 (k_L_law_387 F L xs h18) := by
  unfold k_L_law_387
  exact snd_aload_n (pc := 387) (i := 1) dL_law_387 (snd_aload_n (pc := 388) (i := 0) dL_law_388 (snd_iload_n (pc := 389) (i := 3) dL_law_389 (snd_iconst (pc := 390) dL_law_390 (snd_iadd (pc := 391) dL_law_391 (snd_sld (pc := 392) dL_law_392 (snd_aload_n (pc := 393) (i := 0) dL_law_393 (snd_iload_n (pc := 394) (i := 3) dL_law_394 (snd_iconst (pc := 395) dL_law_395 (snd_iadd (pc := 396) dL_law_396 (snd_sld (pc := 397) dL_law_397 (snd_aload_n (pc := 398) (i := 0) dL_law_398 (snd_iload_n (pc := 399) (i := 3) dL_law_399 (snd_iconst (pc := 400) dL_law_400 (snd_iadd (pc := 401) dL_law_401 (snd_sld (pc := 402) dL_law_402 (snd_callV (pc := 403) (n := 3) cls8 (s_X8_road F) (by decide) (by decide) wd_842 wd_839 wd_840 wd_841 wd_120 hy_X8_road dL_law_403 (snd_aload_n (pc := 406) (i := 2) dL_law_406 (snd_aload_n (pc := 407) (i := 0) dL_law_407 (snd_iload_n (pc := 408) (i := 3) dL_law_408 (snd_iconst (pc := 409) dL_law_409 (snd_iadd (pc := 410) dL_law_410 (snd_sld (pc := 411) dL_law_411 (snd_aload_n (pc := 412) (i := 0) dL_law_412 (snd_iload_n (pc := 413) (i := 3) dL_law_413 (snd_iconst (pc := 414) dL_law_414 (snd_iadd (pc := 415) dL_law_415 (snd_sld (pc := 416) dL_law_416 (snd_aload_n (pc := 417) (i := 0) dL_law_417 (snd_iload_n (pc := 418) (i := 3) dL_law_418 (snd_iconst (pc := 419) dL_law_419 (snd_iadd (pc := 420) dL_law_420 (snd_sld (pc := 421) dL_law_421 (snd_callV (pc := 422) (n := 3) cls9 (s_X9_road F) (by decide) (by decide) wd_1601 wd_1598 wd_1599 wd_1600 wd_129 hy_X9_road dL_law_422 (snd_icmpeq (pc := 425) (off := 1857) (tgt := 2282) (by decide) dL_law_425 ((sk_L_law_2282 F L xs hh18)) (snd_iconst (pc := 428) dL_law_428 (snd_ireturn dL_law_429))))))))))))))))))))))))))))))))))))
noncomputable def k_L_law_430 (F : Nat) (L : Nat) (xs : Nat → Int) (h18 : AK) : AK := ak_aload 1 (ak_aload 0 (ak_iload 3 (ak_push (vI 1) (ak_iadd (ak_sld L xs (ak_aload 0 (ak_iload 3 (ak_push (vI 2) (ak_iadd (ak_sld L xs (ak_aload 0 (ak_iload 3 (ak_push (vI 3) (ak_iadd (ak_sld L xs (ak_callv 8 3 (m_X8_person F) (ak_aload 2 (ak_aload 0 (ak_iload 3 (ak_push (vI 1) (ak_iadd (ak_sld L xs (ak_aload 0 (ak_iload 3 (ak_push (vI 2) (ak_iadd (ak_sld L xs (ak_aload 0 (ak_iload 3 (ak_push (vI 3) (ak_iadd (ak_sld L xs (ak_callv 9 3 (m_X9_person F) (ak_cmpeq ((k_L_law_2282 F L xs h18)) (ak_push (vI 0) ak_ireturn)))))))))))))))))))))))))))))))))))
set_option maxRecDepth 20000 in
theorem sk_L_law_430 (F : Nat) (L : Nat) (xs : Nat → Int) {h18 : AK} (hh18 : Snd (XS L xs) RL cL_law 4 21 18 h18) : Snd (XS L xs) RL cL_law 4 21 430 (k_L_law_430 F L xs h18) := by
  unfold k_L_law_430
  exact snd_aload_n (pc := 430) (i := 1) dL_law_430 (snd_aload_n (pc := 431) (i := 0) dL_law_431 (snd_iload_n (pc := 432) (i := 3) dL_law_432 (snd_iconst (pc := 433) dL_law_433 (snd_iadd (pc := 434) dL_law_434 (snd_sld (pc := 435) dL_law_435 (snd_aload_n (pc := 436) (i := 0) dL_law_436 (snd_iload_n (pc := 437) (i := 3) dL_law_437 (snd_iconst (pc := 438) dL_law_438 (snd_iadd (pc := 439) dL_law_439 (snd_sld (pc := 440) dL_law_440 (snd_aload_n (pc := 441) (i := 0) dL_law_441 (snd_iload_n (pc := 442) (i := 3) dL_law_442 (snd_iconst (pc := 443) dL_law_443 (snd_iadd (pc := 444) dL_law_444 (snd_sld (pc := 445) dL_law_445 (snd_callV (pc := 446) (n := 3) cls8 (s_X8_person F) (by decide) (by decide) wd_850 wd_847 wd_848 wd_849 wd_120 hy_X8_person dL_law_446 (snd_aload_n (pc := 449) (i := 2) dL_law_449 (snd_aload_n (pc := 450) (i := 0) dL_law_450 (snd_iload_n (pc := 451) (i := 3) dL_law_451 (snd_iconst (pc := 452) dL_law_452 (snd_iadd (pc := 453) dL_law_453 (snd_sld (pc := 454) dL_law_454 (snd_aload_n (pc := 455) (i := 0) dL_law_455 (snd_iload_n (pc := 456) (i := 3) dL_law_456 (snd_iconst (pc := 457) dL_law_457 (snd_iadd (pc := 458) dL_law_458 (snd_sld (pc := 459) dL_law_459 (snd_aload_n (pc := 460) (i := 0) dL_law_460 (snd_iload_n (pc := 461) (i := 3) dL_law_461 (snd_iconst (pc := 462) dL_law_462 (snd_iadd (pc := 463) dL_law_463 (snd_sld (pc := 464) dL_law_464 (snd_callV (pc := 465) (n := 3) cls9 (s_X9_person F) (by decide) (by decide) wd_1605 wd_1602 wd_1603 wd_1604 wd_129 hy_X9_person dL_law_465 (snd_icmpeq (pc := 468) (off := 1814) (tgt := 2282) (by decide) dL_law_468 ((sk_L_law_2282 F L xs hh18)) (snd_iconst (pc := 471) dL_law_471 (snd_ireturn dL_law_472))))))))))))))))))))))))))))))))))))
noncomputable def k_L_law_473 (F : Nat) (L : Nat) (xs : Nat → Int) (h18 : AK) : AK := ak_aload 1 (ak_aload 0 (ak_iload 3 (ak_push (vI 1) (ak_iadd (ak_sld L xs (ak_aload 0 (ak_iload 3 (ak_push (vI 2) (ak_iadd (ak_sld L xs (ak_aload 0 (ak_iload 3 (ak_push (vI 3) (ak_iadd (ak_sld L xs (ak_callv 8 3 (m_X8_errand F) (ak_aload 2 (ak_aload 0 (ak_iload 3 (ak_push (vI 1) (ak_iadd (ak_sld L xs (ak_aload 0 (ak_iload 3 (ak_push (vI 2) (ak_iadd (ak_sld L xs (ak_aload 0 (ak_iload 3 (ak_push (vI 3) (ak_iadd (ak_sld L xs (ak_callv 9 3 (m_X9_errand F) (ak_cmpeq ((k_L_law_2282 F L xs h18)) (ak_push (vI 0) ak_ireturn)))))))))))))))))))))))))))))))))))
set_option maxRecDepth 20000 in
theorem sk_L_law_473 (F : Nat) (L : Nat) (xs : Nat → Int) {h18 : AK} (hh18 : Snd (XS L xs) RL cL_law 4 21 18 h18) : Snd (XS L xs) RL cL_law 4 21 473 (k_L_law_473 F L xs h18) := by
  unfold k_L_law_473
  exact snd_aload_n (pc := 473) (i := 1) dL_law_473 (snd_aload_n (pc := 474) (i := 0) dL_law_474 (snd_iload_n (pc := 475) (i := 3) dL_law_475 (snd_iconst (pc := 476) dL_law_476 (snd_iadd (pc := 477) dL_law_477 (snd_sld (pc := 478) dL_law_478 (snd_aload_n (pc := 479) (i := 0) dL_law_479 (snd_iload_n (pc := 480) (i := 3) dL_law_480 (snd_iconst (pc := 481) dL_law_481 (snd_iadd (pc := 482) dL_law_482 (snd_sld (pc := 483) dL_law_483 (snd_aload_n (pc := 484) (i := 0) dL_law_484 (snd_iload_n (pc := 485) (i := 3) dL_law_485 (snd_iconst (pc := 486) dL_law_486 (snd_iadd (pc := 487) dL_law_487 (snd_sld (pc := 488) dL_law_488 (snd_callV (pc := 489) (n := 3) cls8 (s_X8_errand F) (by decide) (by decide) wd_858 wd_855 wd_856 wd_857 wd_120 hy_X8_errand dL_law_489 (snd_aload_n (pc := 492) (i := 2) dL_law_492 (snd_aload_n (pc := 493) (i := 0) dL_law_493 (snd_iload_n (pc := 494) (i := 3) dL_law_494 (snd_iconst (pc := 495) dL_law_495 (snd_iadd (pc := 496) dL_law_496 (snd_sld (pc := 497) dL_law_497 (snd_aload_n (pc := 498) (i := 0) dL_law_498 (snd_iload_n (pc := 499) (i := 3) dL_law_499 (snd_iconst (pc := 500) dL_law_500 (snd_iadd (pc := 501) dL_law_501 (snd_sld (pc := 502) dL_law_502 (snd_aload_n (pc := 503) (i := 0) dL_law_503 (snd_iload_n (pc := 504) (i := 3) dL_law_504 (snd_iconst (pc := 505) dL_law_505 (snd_iadd (pc := 506) dL_law_506 (snd_sld (pc := 507) dL_law_507 (snd_callV (pc := 508) (n := 3) cls9 (s_X9_errand F) (by decide) (by decide) wd_1609 wd_1606 wd_1607 wd_1608 wd_129 hy_X9_errand dL_law_508 (snd_icmpeq (pc := 511) (off := 1771) (tgt := 2282) (by decide) dL_law_511 ((sk_L_law_2282 F L xs hh18)) (snd_iconst (pc := 514) dL_law_514 (snd_ireturn dL_law_515))))))))))))))))))))))))))))))))))))
noncomputable def k_L_law_516 (F : Nat) (L : Nat) (xs : Nat → Int) (h18 : AK) : AK := ak_aload 1 (ak_aload 0 (ak_iload 3 (ak_push (vI 1) (ak_iadd (ak_sld L xs (ak_aload 0 (ak_iload 3 (ak_push (vI 2) (ak_iadd (ak_sld L xs (ak_aload 0 (ak_iload 3 (ak_push (vI 3) (ak_iadd (ak_sld L xs (ak_callv 8 3 (m_X8_move F) (ak_aload 2 (ak_aload 0 (ak_iload 3 (ak_push (vI 1) (ak_iadd (ak_sld L xs (ak_aload 0 (ak_iload 3 (ak_push (vI 2) (ak_iadd (ak_sld L xs (ak_aload 0 (ak_iload 3 (ak_push (vI 3) (ak_iadd (ak_sld L xs (ak_callv 9 3 (m_X9_move F) (ak_cmpeq ((k_L_law_2282 F L xs h18)) (ak_push (vI 0) ak_ireturn)))))))))))))))))))))))))))))))))))
set_option maxRecDepth 20000 in
theorem sk_L_law_516 (F : Nat) (L : Nat) (xs : Nat → Int) {h18 : AK} (hh18 : Snd (XS L xs) RL cL_law 4 21 18 h18) : Snd (XS L xs) RL cL_law 4 21 516 (k_L_law_516 F L xs h18) := by
  unfold k_L_law_516
  exact snd_aload_n (pc := 516) (i := 1) dL_law_516 (snd_aload_n (pc := 517) (i := 0) dL_law_517 (snd_iload_n (pc := 518) (i := 3) dL_law_518 (snd_iconst (pc := 519) dL_law_519 (snd_iadd (pc := 520) dL_law_520 (snd_sld (pc := 521) dL_law_521 (snd_aload_n (pc := 522) (i := 0) dL_law_522 (snd_iload_n (pc := 523) (i := 3) dL_law_523 (snd_iconst (pc := 524) dL_law_524 (snd_iadd (pc := 525) dL_law_525 (snd_sld (pc := 526) dL_law_526 (snd_aload_n (pc := 527) (i := 0) dL_law_527 (snd_iload_n (pc := 528) (i := 3) dL_law_528 (snd_iconst (pc := 529) dL_law_529 (snd_iadd (pc := 530) dL_law_530 (snd_sld (pc := 531) dL_law_531 (snd_callV (pc := 532) (n := 3) cls8 (s_X8_move F) (by decide) (by decide) wd_866 wd_863 wd_864 wd_865 wd_120 hy_X8_move dL_law_532 (snd_aload_n (pc := 535) (i := 2) dL_law_535 (snd_aload_n (pc := 536) (i := 0) dL_law_536 (snd_iload_n (pc := 537) (i := 3) dL_law_537 (snd_iconst (pc := 538) dL_law_538 (snd_iadd (pc := 539) dL_law_539 (snd_sld (pc := 540) dL_law_540 (snd_aload_n (pc := 541) (i := 0) dL_law_541 (snd_iload_n (pc := 542) (i := 3) dL_law_542 (snd_iconst (pc := 543) dL_law_543 (snd_iadd (pc := 544) dL_law_544 (snd_sld (pc := 545) dL_law_545 (snd_aload_n (pc := 546) (i := 0) dL_law_546 (snd_iload_n (pc := 547) (i := 3) dL_law_547 (snd_iconst (pc := 548) dL_law_548 (snd_iadd (pc := 549) dL_law_549 (snd_sld (pc := 550) dL_law_550 (snd_callV (pc := 551) (n := 3) cls9 (s_X9_move F) (by decide) (by decide) wd_1613 wd_1610 wd_1611 wd_1612 wd_129 hy_X9_move dL_law_551 (snd_icmpeq (pc := 554) (off := 1728) (tgt := 2282) (by decide) dL_law_554 ((sk_L_law_2282 F L xs hh18)) (snd_iconst (pc := 557) dL_law_557 (snd_ireturn dL_law_558))))))))))))))))))))))))))))))))))))
noncomputable def k_L_law_559 (F : Nat) (L : Nat) (xs : Nat → Int) (h18 : AK) : AK := ak_aload 1 (ak_aload 0 (ak_iload 3 (ak_push (vI 1) (ak_iadd (ak_sld L xs (ak_aload 0 (ak_iload 3 (ak_push (vI 2) (ak_iadd (ak_sld L xs (ak_aload 0 (ak_iload 3 (ak_push (vI 3) (ak_iadd (ak_sld L xs (ak_callv 8 3 (m_X8_run F) (ak_aload 2 (ak_aload 0 (ak_iload 3 (ak_push (vI 1) (ak_iadd (ak_sld L xs (ak_aload 0 (ak_iload 3 (ak_push (vI 2) (ak_iadd (ak_sld L xs (ak_aload 0 (ak_iload 3 (ak_push (vI 3) (ak_iadd (ak_sld L xs (ak_callv 9 3 (m_X9_run F) (ak_cmpeq ((k_L_law_2282 F L xs h18)) (ak_push (vI 0) ak_ireturn)))))))))))))))))))))))))))))))))))
set_option maxRecDepth 20000 in
theorem sk_L_law_559 (F : Nat) (L : Nat) (xs : Nat → Int) {h18 : AK} (hh18 : Snd (XS L xs) RL cL_law 4 21 18 h18) : Snd (XS L xs) RL cL_law 4 21 559 (k_L_law_559 F L xs h18) := by
  unfold k_L_law_559
  exact snd_aload_n (pc := 559) (i := 1) dL_law_559 (snd_aload_n (pc := 560) (i := 0) dL_law_560 (snd_iload_n (pc := 561) (i := 3) dL_law_561 (snd_iconst (pc := 562) dL_law_562 (snd_iadd (pc := 563) dL_law_563 (snd_sld (pc := 564) dL_law_564 (snd_aload_n (pc := 565) (i := 0) dL_law_565 (snd_iload_n (pc := 566) (i := 3) dL_law_566 (snd_iconst (pc := 567) dL_law_567 (snd_iadd (pc := 568) dL_law_568 (snd_sld (pc := 569) dL_law_569 (snd_aload_n (pc := 570) (i := 0) dL_law_570 (snd_iload_n (pc := 571) (i := 3) dL_law_571 (snd_iconst (pc := 572) dL_law_572 (snd_iadd (pc := 573) dL_law_573 (snd_sld (pc := 574) dL_law_574 (snd_callV (pc := 575) (n := 3) cls8 (s_X8_run F) (by decide) (by decide) wd_893 wd_890 wd_891 wd_892 wd_120 hy_X8_run dL_law_575 (snd_aload_n (pc := 578) (i := 2) dL_law_578 (snd_aload_n (pc := 579) (i := 0) dL_law_579 (snd_iload_n (pc := 580) (i := 3) dL_law_580 (snd_iconst (pc := 581) dL_law_581 (snd_iadd (pc := 582) dL_law_582 (snd_sld (pc := 583) dL_law_583 (snd_aload_n (pc := 584) (i := 0) dL_law_584 (snd_iload_n (pc := 585) (i := 3) dL_law_585 (snd_iconst (pc := 586) dL_law_586 (snd_iadd (pc := 587) dL_law_587 (snd_sld (pc := 588) dL_law_588 (snd_aload_n (pc := 589) (i := 0) dL_law_589 (snd_iload_n (pc := 590) (i := 3) dL_law_590 (snd_iconst (pc := 591) dL_law_591 (snd_iadd (pc := 592) dL_law_592 (snd_sld (pc := 593) dL_law_593 (snd_callV (pc := 594) (n := 3) cls9 (s_X9_run F) (by decide) (by decide) wd_1629 wd_1626 wd_1627 wd_1628 wd_129 hy_X9_run dL_law_594 (snd_icmpeq (pc := 597) (off := 1685) (tgt := 2282) (by decide) dL_law_597 ((sk_L_law_2282 F L xs hh18)) (snd_iconst (pc := 600) dL_law_600 (snd_ireturn dL_law_601))))))))))))))))))))))))))))))))))))
noncomputable def k_L_law_602 (F : Nat) (L : Nat) (xs : Nat → Int) (h18 : AK) : AK := ak_aload 1 (ak_aload 0 (ak_iload 3 (ak_push (vI 1) (ak_iadd (ak_sld L xs (ak_aload 0 (ak_iload 3 (ak_push (vI 2) (ak_iadd (ak_sld L xs (ak_aload 0 (ak_iload 3 (ak_push (vI 3) (ak_iadd (ak_sld L xs (ak_aload 0 (ak_iload 3 (ak_push (vI 4) (ak_iadd (ak_sld L xs (ak_callv 8 4 (m_X8_state F) (ak_aload 2 (ak_aload 0 (ak_iload 3 (ak_push (vI 1) (ak_iadd (ak_sld L xs (ak_aload 0 (ak_iload 3 (ak_push (vI 2) (ak_iadd (ak_sld L xs (ak_aload 0 (ak_iload 3 (ak_push (vI 3) (ak_iadd (ak_sld L xs (ak_aload 0 (ak_iload 3 (ak_push (vI 4) (ak_iadd (ak_sld L xs (ak_callv 9 4 (m_X9_state F) (ak_cmpeq ((k_L_law_2282 F L xs h18)) (ak_push (vI 0) ak_ireturn)))))))))))))))))))))))))))))))))))))))))))))
set_option maxRecDepth 20000 in
theorem sk_L_law_602 (F : Nat) (L : Nat) (xs : Nat → Int) {h18 : AK} (hh18 : Snd (XS L xs) RL cL_law 4 21 18 h18) : Snd (XS L xs) RL cL_law 4 21 602 (k_L_law_602 F L xs h18) := by
  unfold k_L_law_602
  exact snd_aload_n (pc := 602) (i := 1) dL_law_602 (snd_aload_n (pc := 603) (i := 0) dL_law_603 (snd_iload_n (pc := 604) (i := 3) dL_law_604 (snd_iconst (pc := 605) dL_law_605 (snd_iadd (pc := 606) dL_law_606 (snd_sld (pc := 607) dL_law_607 (snd_aload_n (pc := 608) (i := 0) dL_law_608 (snd_iload_n (pc := 609) (i := 3) dL_law_609 (snd_iconst (pc := 610) dL_law_610 (snd_iadd (pc := 611) dL_law_611 (snd_sld (pc := 612) dL_law_612 (snd_aload_n (pc := 613) (i := 0) dL_law_613 (snd_iload_n (pc := 614) (i := 3) dL_law_614 (snd_iconst (pc := 615) dL_law_615 (snd_iadd (pc := 616) dL_law_616 (snd_sld (pc := 617) dL_law_617 (snd_aload_n (pc := 618) (i := 0) dL_law_618 (snd_iload_n (pc := 619) (i := 3) dL_law_619 (snd_iconst (pc := 620) dL_law_620 (snd_iadd (pc := 621) dL_law_621 (snd_sld (pc := 622) dL_law_622 (snd_callV (pc := 623) (n := 4) cls8 (s_X8_state F) (by decide) (by decide) wd_934 wd_931 wd_932 wd_933 wd_120 hy_X8_state dL_law_623 (snd_aload_n (pc := 626) (i := 2) dL_law_626 (snd_aload_n (pc := 627) (i := 0) dL_law_627 (snd_iload_n (pc := 628) (i := 3) dL_law_628 (snd_iconst (pc := 629) dL_law_629 (snd_iadd (pc := 630) dL_law_630 (snd_sld (pc := 631) dL_law_631 (snd_aload_n (pc := 632) (i := 0) dL_law_632 (snd_iload_n (pc := 633) (i := 3) dL_law_633 (snd_iconst (pc := 634) dL_law_634 (snd_iadd (pc := 635) dL_law_635 (snd_sld (pc := 636) dL_law_636 (snd_aload_n (pc := 637) (i := 0) dL_law_637 (snd_iload_n (pc := 638) (i := 3) dL_law_638 (snd_iconst (pc := 639) dL_law_639 (snd_iadd (pc := 640) dL_law_640 (snd_sld (pc := 641) dL_law_641 (snd_aload_n (pc := 642) (i := 0) dL_law_642 (snd_iload_n (pc := 643) (i := 3) dL_law_643 (snd_iconst (pc := 644) dL_law_644 (snd_iadd (pc := 645) dL_law_645 (snd_sld (pc := 646) dL_law_646 (snd_callV (pc := 647) (n := 4) cls9 (s_X9_state F) (by decide) (by decide) wd_1693 wd_1690 wd_1691 wd_1692 wd_129 hy_X9_state dL_law_647 (snd_icmpeq (pc := 650) (off := 1632) (tgt := 2282) (by decide) dL_law_650 ((sk_L_law_2282 F L xs hh18)) (snd_iconst (pc := 653) dL_law_653 (snd_ireturn dL_law_654))))))))))))))))))))))))))))))))))))))))))))))
noncomputable def k_L_law_655 (F : Nat) (L : Nat) (xs : Nat → Int) (h18 : AK) : AK := ak_aload 1 (ak_aload 0 (ak_iload 3 (ak_push (vI 1) (ak_iadd (ak_sld L xs (ak_aload 0 (ak_iload 3 (ak_push (vI 2) (ak_iadd (ak_sld L xs (ak_aload 0 (ak_iload 3 (ak_push (vI 3) (ak_iadd (ak_sld L xs (ak_aload 0 (ak_iload 3 (ak_push (vI 4) (ak_iadd (ak_sld L xs (ak_aload 0 (ak_iload 3 (ak_push (vI 5) (ak_iadd (ak_sld L xs (ak_callv 8 5 (m_X8_paid F) (ak_aload 2 (ak_aload 0 (ak_iload 3 (ak_push (vI 1) (ak_iadd (ak_sld L xs (ak_aload 0 (ak_iload 3 (ak_push (vI 2) (ak_iadd (ak_sld L xs (ak_aload 0 (ak_iload 3 (ak_push (vI 3) (ak_iadd (ak_sld L xs (ak_aload 0 (ak_iload 3 (ak_push (vI 4) (ak_iadd (ak_sld L xs (ak_aload 0 (ak_iload 3 (ak_push (vI 5) (ak_iadd (ak_sld L xs (ak_callv 9 5 (m_X9_paid F) (ak_cmpeq ((k_L_law_2282 F L xs h18)) (ak_push (vI 0) ak_ireturn)))))))))))))))))))))))))))))))))))))))))))))))))))))))
set_option maxRecDepth 20000 in
theorem sk_L_law_655 (F : Nat) (L : Nat) (xs : Nat → Int) {h18 : AK} (hh18 : Snd (XS L xs) RL cL_law 4 21 18 h18) : Snd (XS L xs) RL cL_law 4 21 655 (k_L_law_655 F L xs h18) := by
  unfold k_L_law_655
  exact snd_aload_n (pc := 655) (i := 1) dL_law_655 (snd_aload_n (pc := 656) (i := 0) dL_law_656 (snd_iload_n (pc := 657) (i := 3) dL_law_657 (snd_iconst (pc := 658) dL_law_658 (snd_iadd (pc := 659) dL_law_659 (snd_sld (pc := 660) dL_law_660 (snd_aload_n (pc := 661) (i := 0) dL_law_661 (snd_iload_n (pc := 662) (i := 3) dL_law_662 (snd_iconst (pc := 663) dL_law_663 (snd_iadd (pc := 664) dL_law_664 (snd_sld (pc := 665) dL_law_665 (snd_aload_n (pc := 666) (i := 0) dL_law_666 (snd_iload_n (pc := 667) (i := 3) dL_law_667 (snd_iconst (pc := 668) dL_law_668 (snd_iadd (pc := 669) dL_law_669 (snd_sld (pc := 670) dL_law_670 (snd_aload_n (pc := 671) (i := 0) dL_law_671 (snd_iload_n (pc := 672) (i := 3) dL_law_672 (snd_iconst (pc := 673) dL_law_673 (snd_iadd (pc := 674) dL_law_674 (snd_sld (pc := 675) dL_law_675 (snd_aload_n (pc := 676) (i := 0) dL_law_676 (snd_iload_n (pc := 677) (i := 3) dL_law_677 (snd_iconst (pc := 678) dL_law_678 (snd_iadd (pc := 679) dL_law_679 (snd_sld (pc := 680) dL_law_680 (snd_callV (pc := 681) (n := 5) cls8 (s_X8_paid F) (by decide) (by decide) wd_943 wd_940 wd_941 wd_942 wd_120 hy_X8_paid dL_law_681 (snd_aload_n (pc := 684) (i := 2) dL_law_684 (snd_aload_n (pc := 685) (i := 0) dL_law_685 (snd_iload_n (pc := 686) (i := 3) dL_law_686 (snd_iconst (pc := 687) dL_law_687 (snd_iadd (pc := 688) dL_law_688 (snd_sld (pc := 689) dL_law_689 (snd_aload_n (pc := 690) (i := 0) dL_law_690 (snd_iload_n (pc := 691) (i := 3) dL_law_691 (snd_iconst (pc := 692) dL_law_692 (snd_iadd (pc := 693) dL_law_693 (snd_sld (pc := 694) dL_law_694 (snd_aload_n (pc := 695) (i := 0) dL_law_695 (snd_iload_n (pc := 696) (i := 3) dL_law_696 (snd_iconst (pc := 697) dL_law_697 (snd_iadd (pc := 698) dL_law_698 (snd_sld (pc := 699) dL_law_699 (snd_aload_n (pc := 700) (i := 0) dL_law_700 (snd_iload_n (pc := 701) (i := 3) dL_law_701 (snd_iconst (pc := 702) dL_law_702 (snd_iadd (pc := 703) dL_law_703 (snd_sld (pc := 704) dL_law_704 (snd_aload_n (pc := 705) (i := 0) dL_law_705 (snd_iload_n (pc := 706) (i := 3) dL_law_706 (snd_iconst (pc := 707) dL_law_707 (snd_iadd (pc := 708) dL_law_708 (snd_sld (pc := 709) dL_law_709 (snd_callV (pc := 710) (n := 5) cls9 (s_X9_paid F) (by decide) (by decide) wd_1701 wd_1698 wd_1699 wd_1700 wd_129 hy_X9_paid dL_law_710 (snd_icmpeq (pc := 713) (off := 1569) (tgt := 2282) (by decide) dL_law_713 ((sk_L_law_2282 F L xs hh18)) (snd_iconst (pc := 716) dL_law_716 (snd_ireturn dL_law_717))))))))))))))))))))))))))))))))))))))))))))))))))))))))
noncomputable def k_L_law_718 (F : Nat) (L : Nat) (xs : Nat → Int) (h18 : AK) : AK := ak_aload 1 (ak_aload 0 (ak_iload 3 (ak_push (vI 1) (ak_iadd (ak_sld L xs (ak_aload 0 (ak_iload 3 (ak_push (vI 2) (ak_iadd (ak_sld L xs (ak_aload 0 (ak_iload 3 (ak_push (vI 3) (ak_iadd (ak_sld L xs (ak_aload 0 (ak_iload 3 (ak_push (vI 4) (ak_iadd (ak_sld L xs (ak_callv 8 4 (m_X8_brings F) (ak_aload 2 (ak_aload 0 (ak_iload 3 (ak_push (vI 1) (ak_iadd (ak_sld L xs (ak_aload 0 (ak_iload 3 (ak_push (vI 2) (ak_iadd (ak_sld L xs (ak_aload 0 (ak_iload 3 (ak_push (vI 3) (ak_iadd (ak_sld L xs (ak_aload 0 (ak_iload 3 (ak_push (vI 4) (ak_iadd (ak_sld L xs (ak_callv 9 4 (m_X9_brings F) (ak_cmpeq ((k_L_law_2282 F L xs h18)) (ak_push (vI 0) ak_ireturn)))))))))))))))))))))))))))))))))))))))))))))
set_option maxRecDepth 20000 in
theorem sk_L_law_718 (F : Nat) (L : Nat) (xs : Nat → Int) {h18 : AK} (hh18 : Snd (XS L xs) RL cL_law 4 21 18 h18) : Snd (XS L xs) RL cL_law 4 21 718 (k_L_law_718 F L xs h18) := by
  unfold k_L_law_718
  exact snd_aload_n (pc := 718) (i := 1) dL_law_718 (snd_aload_n (pc := 719) (i := 0) dL_law_719 (snd_iload_n (pc := 720) (i := 3) dL_law_720 (snd_iconst (pc := 721) dL_law_721 (snd_iadd (pc := 722) dL_law_722 (snd_sld (pc := 723) dL_law_723 (snd_aload_n (pc := 724) (i := 0) dL_law_724 (snd_iload_n (pc := 725) (i := 3) dL_law_725 (snd_iconst (pc := 726) dL_law_726 (snd_iadd (pc := 727) dL_law_727 (snd_sld (pc := 728) dL_law_728 (snd_aload_n (pc := 729) (i := 0) dL_law_729 (snd_iload_n (pc := 730) (i := 3) dL_law_730 (snd_iconst (pc := 731) dL_law_731 (snd_iadd (pc := 732) dL_law_732 (snd_sld (pc := 733) dL_law_733 (snd_aload_n (pc := 734) (i := 0) dL_law_734 (snd_iload_n (pc := 735) (i := 3) dL_law_735 (snd_iconst (pc := 736) dL_law_736 (snd_iadd (pc := 737) dL_law_737 (snd_sld (pc := 738) dL_law_738 (snd_callV (pc := 739) (n := 4) cls8 (s_X8_brings F) (by decide) (by decide) wd_947 wd_944 wd_945 wd_946 wd_120 hy_X8_brings dL_law_739 (snd_aload_n (pc := 742) (i := 2) dL_law_742 (snd_aload_n (pc := 743) (i := 0) dL_law_743 (snd_iload_n (pc := 744) (i := 3) dL_law_744 (snd_iconst (pc := 745) dL_law_745 (snd_iadd (pc := 746) dL_law_746 (snd_sld (pc := 747) dL_law_747 (snd_aload_n (pc := 748) (i := 0) dL_law_748 (snd_iload_n (pc := 749) (i := 3) dL_law_749 (snd_iconst (pc := 750) dL_law_750 (snd_iadd (pc := 751) dL_law_751 (snd_sld (pc := 752) dL_law_752 (snd_aload_n (pc := 753) (i := 0) dL_law_753 (snd_iload_n (pc := 754) (i := 3) dL_law_754 (snd_iconst (pc := 755) dL_law_755 (snd_iadd (pc := 756) dL_law_756 (snd_sld (pc := 757) dL_law_757 (snd_aload_n (pc := 758) (i := 0) dL_law_758 (snd_iload_n (pc := 759) (i := 3) dL_law_759 (snd_iconst (pc := 760) dL_law_760 (snd_iadd (pc := 761) dL_law_761 (snd_sld (pc := 762) dL_law_762 (snd_callV (pc := 763) (n := 4) cls9 (s_X9_brings F) (by decide) (by decide) wd_1705 wd_1702 wd_1703 wd_1704 wd_129 hy_X9_brings dL_law_763 (snd_icmpeq (pc := 766) (off := 1516) (tgt := 2282) (by decide) dL_law_766 ((sk_L_law_2282 F L xs hh18)) (snd_iconst (pc := 769) dL_law_769 (snd_ireturn dL_law_770))))))))))))))))))))))))))))))))))))))))))))))
noncomputable def k_L_law_771 (F : Nat) (L : Nat) (xs : Nat → Int) (h18 : AK) : AK := ak_aload 1 (ak_aload 0 (ak_iload 3 (ak_push (vI 1) (ak_iadd (ak_sld L xs (ak_aload 0 (ak_iload 3 (ak_push (vI 2) (ak_iadd (ak_sld L xs (ak_aload 0 (ak_iload 3 (ak_push (vI 3) (ak_iadd (ak_sld L xs (ak_callv 8 3 (m_X8_worth F) (ak_aload 2 (ak_aload 0 (ak_iload 3 (ak_push (vI 1) (ak_iadd (ak_sld L xs (ak_aload 0 (ak_iload 3 (ak_push (vI 2) (ak_iadd (ak_sld L xs (ak_aload 0 (ak_iload 3 (ak_push (vI 3) (ak_iadd (ak_sld L xs (ak_callv 9 3 (m_X9_worth F) (ak_lcmp (ak_ifeq ((k_L_law_2282 F L xs h18)) (ak_push (vI 0) ak_ireturn))))))))))))))))))))))))))))))))))))
set_option maxRecDepth 20000 in
theorem sk_L_law_771 (F : Nat) (L : Nat) (xs : Nat → Int) {h18 : AK} (hh18 : Snd (XS L xs) RL cL_law 4 21 18 h18) : Snd (XS L xs) RL cL_law 4 21 771 (k_L_law_771 F L xs h18) := by
  unfold k_L_law_771
  exact snd_aload_n (pc := 771) (i := 1) dL_law_771 (snd_aload_n (pc := 772) (i := 0) dL_law_772 (snd_iload_n (pc := 773) (i := 3) dL_law_773 (snd_iconst (pc := 774) dL_law_774 (snd_iadd (pc := 775) dL_law_775 (snd_sld (pc := 776) dL_law_776 (snd_aload_n (pc := 777) (i := 0) dL_law_777 (snd_iload_n (pc := 778) (i := 3) dL_law_778 (snd_iconst (pc := 779) dL_law_779 (snd_iadd (pc := 780) dL_law_780 (snd_sld (pc := 781) dL_law_781 (snd_aload_n (pc := 782) (i := 0) dL_law_782 (snd_iload_n (pc := 783) (i := 3) dL_law_783 (snd_iconst (pc := 784) dL_law_784 (snd_iadd (pc := 785) dL_law_785 (snd_sld (pc := 786) dL_law_786 (snd_callV (pc := 787) (n := 3) cls8 (s_X8_worth F) (by decide) (by decide) wd_955 wd_952 wd_953 wd_954 wd_120 hy_X8_worth dL_law_787 (snd_aload_n (pc := 790) (i := 2) dL_law_790 (snd_aload_n (pc := 791) (i := 0) dL_law_791 (snd_iload_n (pc := 792) (i := 3) dL_law_792 (snd_iconst (pc := 793) dL_law_793 (snd_iadd (pc := 794) dL_law_794 (snd_sld (pc := 795) dL_law_795 (snd_aload_n (pc := 796) (i := 0) dL_law_796 (snd_iload_n (pc := 797) (i := 3) dL_law_797 (snd_iconst (pc := 798) dL_law_798 (snd_iadd (pc := 799) dL_law_799 (snd_sld (pc := 800) dL_law_800 (snd_aload_n (pc := 801) (i := 0) dL_law_801 (snd_iload_n (pc := 802) (i := 3) dL_law_802 (snd_iconst (pc := 803) dL_law_803 (snd_iadd (pc := 804) dL_law_804 (snd_sld (pc := 805) dL_law_805 (snd_callV (pc := 806) (n := 3) cls9 (s_X9_worth F) (by decide) (by decide) wd_1709 wd_1706 wd_1707 wd_1708 wd_129 hy_X9_worth dL_law_806 (snd_lcmp (pc := 809) dL_law_809 (snd_ifeq (pc := 810) (off := 1472) (tgt := 2282) (by decide) dL_law_810 ((sk_L_law_2282 F L xs hh18)) (snd_iconst (pc := 813) dL_law_813 (snd_ireturn dL_law_814)))))))))))))))))))))))))))))))))))))
noncomputable def k_L_law_815 (F : Nat) (L : Nat) (xs : Nat → Int) (h18 : AK) : AK := ak_aload 1 (ak_aload 0 (ak_iload 3 (ak_push (vI 1) (ak_iadd (ak_sld L xs (ak_aload 0 (ak_iload 3 (ak_push (vI 2) (ak_iadd (ak_sld L xs (ak_aload 0 (ak_iload 3 (ak_push (vI 3) (ak_iadd (ak_sld L xs (ak_aload 0 (ak_iload 3 (ak_push (vI 4) (ak_iadd (ak_sld L xs (ak_aload 0 (ak_iload 3 (ak_push (vI 5) (ak_iadd (ak_sld L xs (ak_aload 0 (ak_iload 3 (ak_push (vI 6) (ak_iadd (ak_sld L xs (ak_aload 0 (ak_iload 3 (ak_push (vI 7) (ak_iadd (ak_sld L xs (ak_aload 0 (ak_iload 3 (ak_push (vI 8) (ak_iadd (ak_sld L xs (ak_aload 0 (ak_iload 3 (ak_push (vI 9) (ak_iadd (ak_sld L xs (ak_callv 8 9 (m_X8_way F) (ak_aload 2 (ak_aload 0 (ak_iload 3 (ak_push (vI 1) (ak_iadd (ak_sld L xs (ak_aload 0 (ak_iload 3 (ak_push (vI 2) (ak_iadd (ak_sld L xs (ak_aload 0 (ak_iload 3 (ak_push (vI 3) (ak_iadd (ak_sld L xs (ak_aload 0 (ak_iload 3 (ak_push (vI 4) (ak_iadd (ak_sld L xs (ak_aload 0 (ak_iload 3 (ak_push (vI 5) (ak_iadd (ak_sld L xs (ak_aload 0 (ak_iload 3 (ak_push (vI 6) (ak_iadd (ak_sld L xs (ak_aload 0 (ak_iload 3 (ak_push (vI 7) (ak_iadd (ak_sld L xs (ak_aload 0 (ak_iload 3 (ak_push (vI 8) (ak_iadd (ak_sld L xs (ak_aload 0 (ak_iload 3 (ak_push (vI 9) (ak_iadd (ak_sld L xs (ak_callv 9 9 (m_X9_way F) (ak_cmpeq ((k_L_law_2282 F L xs h18)) (ak_push (vI 0) ak_ireturn)))))))))))))))))))))))))))))))))))))))))))))))))))))))))))))))))))))))))))))))))))))))))))))))
set_option maxRecDepth 20000 in
theorem sk_L_law_815 (F : Nat) (L : Nat) (xs : Nat → Int) {h18 : AK} (hh18 : Snd (XS L xs) RL cL_law 4 21 18 h18) : Snd (XS L xs) RL cL_law 4 21 815 (k_L_law_815 F L xs h18) := by
  unfold k_L_law_815
  exact snd_aload_n (pc := 815) (i := 1) dL_law_815 (snd_aload_n (pc := 816) (i := 0) dL_law_816 (snd_iload_n (pc := 817) (i := 3) dL_law_817 (snd_iconst (pc := 818) dL_law_818 (snd_iadd (pc := 819) dL_law_819 (snd_sld (pc := 820) dL_law_820 (snd_aload_n (pc := 821) (i := 0) dL_law_821 (snd_iload_n (pc := 822) (i := 3) dL_law_822 (snd_iconst (pc := 823) dL_law_823 (snd_iadd (pc := 824) dL_law_824 (snd_sld (pc := 825) dL_law_825 (snd_aload_n (pc := 826) (i := 0) dL_law_826 (snd_iload_n (pc := 827) (i := 3) dL_law_827 (snd_iconst (pc := 828) dL_law_828 (snd_iadd (pc := 829) dL_law_829 (snd_sld (pc := 830) dL_law_830 (snd_aload_n (pc := 831) (i := 0) dL_law_831 (snd_iload_n (pc := 832) (i := 3) dL_law_832 (snd_iconst (pc := 833) dL_law_833 (snd_iadd (pc := 834) dL_law_834 (snd_sld (pc := 835) dL_law_835 (snd_aload_n (pc := 836) (i := 0) dL_law_836 (snd_iload_n (pc := 837) (i := 3) dL_law_837 (snd_iconst (pc := 838) dL_law_838 (snd_iadd (pc := 839) dL_law_839 (snd_sld (pc := 840) dL_law_840 (snd_aload_n (pc := 841) (i := 0) dL_law_841 (snd_iload_n (pc := 842) (i := 3) dL_law_842 (snd_bipush (pc := 843) (by decide) dL_law_843 (snd_iadd (pc := 845) dL_law_845 (snd_sld (pc := 846) dL_law_846 (snd_aload_n (pc := 847) (i := 0) dL_law_847 (snd_iload_n (pc := 848) (i := 3) dL_law_848 (snd_bipush (pc := 849) (by decide) dL_law_849 (snd_iadd (pc := 851) dL_law_851 (snd_sld (pc := 852) dL_law_852 (snd_aload_n (pc := 853) (i := 0) dL_law_853 (snd_iload_n (pc := 854) (i := 3) dL_law_854 (snd_bipush (pc := 855) (by decide) dL_law_855 (snd_iadd (pc := 857) dL_law_857 (snd_sld (pc := 858) dL_law_858 (snd_aload_n (pc := 859) (i := 0) dL_law_859 (snd_iload_n (pc := 860) (i := 3) dL_law_860 (snd_bipush (pc := 861) (by decide) dL_law_861 (snd_iadd (pc := 863) dL_law_863 (snd_sld (pc := 864) dL_law_864 (snd_callV (pc := 865) (n := 9) cls8 (s_X8_way F) (by decide) (by decide) wd_966 wd_963 wd_964 wd_965 wd_120 hy_X8_way dL_law_865 (snd_aload_n (pc := 868) (i := 2) dL_law_868 (snd_aload_n (pc := 869) (i := 0) dL_law_869 (snd_iload_n (pc := 870) (i := 3) dL_law_870 (snd_iconst (pc := 871) dL_law_871 (snd_iadd (pc := 872) dL_law_872 (snd_sld (pc := 873) dL_law_873 (snd_aload_n (pc := 874) (i := 0) dL_law_874 (snd_iload_n (pc := 875) (i := 3) dL_law_875 (snd_iconst (pc := 876) dL_law_876 (snd_iadd (pc := 877) dL_law_877 (snd_sld (pc := 878) dL_law_878 (snd_aload_n (pc := 879) (i := 0) dL_law_879 (snd_iload_n (pc := 880) (i := 3) dL_law_880 (snd_iconst (pc := 881) dL_law_881 (snd_iadd (pc := 882) dL_law_882 (snd_sld (pc := 883) dL_law_883 (snd_aload_n (pc := 884) (i := 0) dL_law_884 (snd_iload_n (pc := 885) (i := 3) dL_law_885 (snd_iconst (pc := 886) dL_law_886 (snd_iadd (pc := 887) dL_law_887 (snd_sld (pc := 888) dL_law_888 (snd_aload_n (pc := 889) (i := 0) dL_law_889 (snd_iload_n (pc := 890) (i := 3) dL_law_890 (snd_iconst (pc := 891) dL_law_891 (snd_iadd (pc := 892) dL_law_892 (snd_sld (pc := 893) dL_law_893 (snd_aload_n (pc := 894) (i := 0) dL_law_894 (snd_iload_n (pc := 895) (i := 3) dL_law_895 (snd_bipush (pc := 896) (by decide) dL_law_896 (snd_iadd (pc := 898) dL_law_898 (snd_sld (pc := 899) dL_law_899 (snd_aload_n (pc := 900) (i := 0) dL_law_900 (snd_iload_n (pc := 901) (i := 3) dL_law_901 (snd_bipush (pc := 902) (by decide) dL_law_902 (snd_iadd (pc := 904) dL_law_904 (snd_sld (pc := 905) dL_law_905 (snd_aload_n (pc := 906) (i := 0) dL_law_906 (snd_iload_n (pc := 907) (i := 3) dL_law_907 (snd_bipush (pc := 908) (by decide) dL_law_908 (snd_iadd (pc := 910) dL_law_910 (snd_sld (pc := 911) dL_law_911 (snd_aload_n (pc := 912) (i := 0) dL_law_912 (snd_iload_n (pc := 913) (i := 3) dL_law_913 (snd_bipush (pc := 914) (by decide) dL_law_914 (snd_iadd (pc := 916) dL_law_916 (snd_sld (pc := 917) dL_law_917 (snd_callV (pc := 918) (n := 9) cls9 (s_X9_way F) (by decide) (by decide) wd_1720 wd_1717 wd_1718 wd_1719 wd_129 hy_X9_way dL_law_918 (snd_icmpeq (pc := 921) (off := 1361) (tgt := 2282) (by decide) dL_law_921 ((sk_L_law_2282 F L xs hh18)) (snd_iconst (pc := 924) dL_law_924 (snd_ireturn dL_law_925))))))))))))))))))))))))))))))))))))))))))))))))))))))))))))))))))))))))))))))))))))))))))))))))
noncomputable def k_L_law_1045 (F : Nat) (L : Nat) (xs : Nat → Int) (h18 : AK) : AK := ak_callv 9 9 (m_X9_cost F) (ak_lcmp (ak_ifeq ((k_L_law_2282 F L xs h18)) (ak_push (vI 0) ak_ireturn)))
set_option maxRecDepth 20000 in
theorem sk_L_law_1045 (F : Nat) (L : Nat) (xs : Nat → Int) {h18 : AK} (hh18 : Snd (XS L xs) RL cL_law 4 21 18 h18) : Snd (XS L xs) RL cL_law 4 21 1045 (k_L_law_1045 F L xs h18) := by
  unfold k_L_law_1045
  exact snd_callV (pc := 1045) (n := 9) cls9 (s_X9_cost F) (by decide) (by decide) wd_1752 wd_1749 wd_1750 wd_1751 wd_129 hy_X9_cost dL_law_1045 (snd_lcmp (pc := 1048) dL_law_1048 (snd_ifeq (pc := 1049) (off := 1233) (tgt := 2282) (by decide) dL_law_1049 ((sk_L_law_2282 F L xs hh18)) (snd_iconst (pc := 1052) dL_law_1052 (snd_ireturn dL_law_1053))))
noncomputable def k_L_law_984 (F : Nat) (L : Nat) (xs : Nat → Int) (h18 : AK) : AK := ak_callv 8 9 (m_X8_cost F) (ak_aload 2 (ak_aload 0 (ak_iload 3 (ak_push (vI 1) (ak_iadd (ak_sld L xs (ak_aload 0 (ak_iload 3 (ak_push (vI 2) (ak_iadd (ak_sld L xs (ak_aload 0 (ak_iload 3 (ak_push (vI 3) (ak_iadd (ak_sld L xs (ak_aload 0 (ak_iload 3 (ak_push (vI 4) (ak_iadd (ak_sld L xs (ak_aload 0 (ak_iload 3 (ak_push (vI 5) (ak_iadd (ak_sld L xs (ak_aload 0 (ak_iload 3 (ak_push (vI 6) (ak_iadd (ak_sld L xs (ak_aload 0 (ak_iload 3 (ak_push (vI 7) (ak_iadd (ak_sld L xs (ak_aload 0 (ak_iload 3 (ak_push (vI 8) (ak_iadd (ak_sld L xs (ak_aload 0 (ak_iload 3 (ak_push (vI 9) (ak_iadd (ak_sld L xs (ak_ifeq (ak_push (vI 0) ((k_L_law_1045 F L xs h18))) (ak_push (vI 1) ((k_L_law_1045 F L xs h18))))))))))))))))))))))))))))))))))))))))))))))))))
set_option maxRecDepth 20000 in
theorem sk_L_law_984 (F : Nat) (L : Nat) (xs : Nat → Int) {h18 : AK} (hh18 : Snd (XS L xs) RL cL_law 4 21 18 h18) : Snd (XS L xs) RL cL_law 4 21 984 (k_L_law_984 F L xs h18) := by
  unfold k_L_law_984
  exact snd_callV (pc := 984) (n := 9) cls8 (s_X8_cost F) (by decide) (by decide) wd_1060 wd_1057 wd_1058 wd_1059 wd_120 hy_X8_cost dL_law_984 (snd_aload_n (pc := 987) (i := 2) dL_law_987 (snd_aload_n (pc := 988) (i := 0) dL_law_988 (snd_iload_n (pc := 989) (i := 3) dL_law_989 (snd_iconst (pc := 990) dL_law_990 (snd_iadd (pc := 991) dL_law_991 (snd_sld (pc := 992) dL_law_992 (snd_aload_n (pc := 993) (i := 0) dL_law_993 (snd_iload_n (pc := 994) (i := 3) dL_law_994 (snd_iconst (pc := 995) dL_law_995 (snd_iadd (pc := 996) dL_law_996 (snd_sld (pc := 997) dL_law_997 (snd_aload_n (pc := 998) (i := 0) dL_law_998 (snd_iload_n (pc := 999) (i := 3) dL_law_999 (snd_iconst (pc := 1000) dL_law_1000 (snd_iadd (pc := 1001) dL_law_1001 (snd_sld (pc := 1002) dL_law_1002 (snd_aload_n (pc := 1003) (i := 0) dL_law_1003 (snd_iload_n (pc := 1004) (i := 3) dL_law_1004 (snd_iconst (pc := 1005) dL_law_1005 (snd_iadd (pc := 1006) dL_law_1006 (snd_sld (pc := 1007) dL_law_1007 (snd_aload_n (pc := 1008) (i := 0) dL_law_1008 (snd_iload_n (pc := 1009) (i := 3) dL_law_1009 (snd_iconst (pc := 1010) dL_law_1010 (snd_iadd (pc := 1011) dL_law_1011 (snd_sld (pc := 1012) dL_law_1012 (snd_aload_n (pc := 1013) (i := 0) dL_law_1013 (snd_iload_n (pc := 1014) (i := 3) dL_law_1014 (snd_bipush (pc := 1015) (by decide) dL_law_1015 (snd_iadd (pc := 1017) dL_law_1017 (snd_sld (pc := 1018) dL_law_1018 (snd_aload_n (pc := 1019) (i := 0) dL_law_1019 (snd_iload_n (pc := 1020) (i := 3) dL_law_1020 (snd_bipush (pc := 1021) (by decide) dL_law_1021 (snd_iadd (pc := 1023) dL_law_1023 (snd_sld (pc := 1024) dL_law_1024 (snd_aload_n (pc := 1025) (i := 0) dL_law_1025 (snd_iload_n (pc := 1026) (i := 3) dL_law_1026 (snd_bipush (pc := 1027) (by decide) dL_law_1027 (snd_iadd (pc := 1029) dL_law_1029 (snd_sld (pc := 1030) dL_law_1030 (snd_aload_n (pc := 1031) (i := 0) dL_law_1031 (snd_iload_n (pc := 1032) (i := 3) dL_law_1032 (snd_bipush (pc := 1033) (by decide) dL_law_1033 (snd_iadd (pc := 1035) dL_law_1035 (snd_sld (pc := 1036) dL_law_1036 (snd_ifeq (pc := 1037) (off := 7) (tgt := 1044) (by decide) dL_law_1037 (snd_iconst (pc := 1044) dL_law_1044 ((sk_L_law_1045 F L xs hh18))) (snd_iconst (pc := 1040) dL_law_1040 (snd_goto (pc := 1041) (off := 4) (tgt := 1045) (by decide) dL_law_1041 ((sk_L_law_1045 F L xs hh18)))))))))))))))))))))))))))))))))))))))))))))))))))
noncomputable def k_L_law_926 (F : Nat) (L : Nat) (xs : Nat → Int) (h18 : AK) : AK := ak_aload 1 (ak_aload 0 (ak_iload 3 (ak_push (vI 1) (ak_iadd (ak_sld L xs (ak_aload 0 (ak_iload 3 (ak_push (vI 2) (ak_iadd (ak_sld L xs (ak_aload 0 (ak_iload 3 (ak_push (vI 3) (ak_iadd (ak_sld L xs (ak_aload 0 (ak_iload 3 (ak_push (vI 4) (ak_iadd (ak_sld L xs (ak_aload 0 (ak_iload 3 (ak_push (vI 5) (ak_iadd (ak_sld L xs (ak_aload 0 (ak_iload 3 (ak_push (vI 6) (ak_iadd (ak_sld L xs (ak_aload 0 (ak_iload 3 (ak_push (vI 7) (ak_iadd (ak_sld L xs (ak_aload 0 (ak_iload 3 (ak_push (vI 8) (ak_iadd (ak_sld L xs (ak_aload 0 (ak_iload 3 (ak_push (vI 9) (ak_iadd (ak_sld L xs (ak_ifeq (ak_push (vI 0) ((k_L_law_984 F L xs h18))) (ak_push (vI 1) ((k_L_law_984 F L xs h18)))))))))))))))))))))))))))))))))))))))))))))))))
set_option maxRecDepth 20000 in
theorem sk_L_law_926 (F : Nat) (L : Nat) (xs : Nat → Int) {h18 : AK} (hh18 : Snd (XS L xs) RL cL_law 4 21 18 h18) : Snd (XS L xs) RL cL_law 4 21 926 (k_L_law_926 F L xs h18) := by
  unfold k_L_law_926
  exact snd_aload_n (pc := 926) (i := 1) dL_law_926 (snd_aload_n (pc := 927) (i := 0) dL_law_927 (snd_iload_n (pc := 928) (i := 3) dL_law_928 (snd_iconst (pc := 929) dL_law_929 (snd_iadd (pc := 930) dL_law_930 (snd_sld (pc := 931) dL_law_931 (snd_aload_n (pc := 932) (i := 0) dL_law_932 (snd_iload_n (pc := 933) (i := 3) dL_law_933 (snd_iconst (pc := 934) dL_law_934 (snd_iadd (pc := 935) dL_law_935 (snd_sld (pc := 936) dL_law_936 (snd_aload_n (pc := 937) (i := 0) dL_law_937 (snd_iload_n (pc := 938) (i := 3) dL_law_938 (snd_iconst (pc := 939) dL_law_939 (snd_iadd (pc := 940) dL_law_940 (snd_sld (pc := 941) dL_law_941 (snd_aload_n (pc := 942) (i := 0) dL_law_942 (snd_iload_n (pc := 943) (i := 3) dL_law_943 (snd_iconst (pc := 944) dL_law_944 (snd_iadd (pc := 945) dL_law_945 (snd_sld (pc := 946) dL_law_946 (snd_aload_n (pc := 947) (i := 0) dL_law_947 (snd_iload_n (pc := 948) (i := 3) dL_law_948 (snd_iconst (pc := 949) dL_law_949 (snd_iadd (pc := 950) dL_law_950 (snd_sld (pc := 951) dL_law_951 (snd_aload_n (pc := 952) (i := 0) dL_law_952 (snd_iload_n (pc := 953) (i := 3) dL_law_953 (snd_bipush (pc := 954) (by decide) dL_law_954 (snd_iadd (pc := 956) dL_law_956 (snd_sld (pc := 957) dL_law_957 (snd_aload_n (pc := 958) (i := 0) dL_law_958 (snd_iload_n (pc := 959) (i := 3) dL_law_959 (snd_bipush (pc := 960) (by decide) dL_law_960 (snd_iadd (pc := 962) dL_law_962 (snd_sld (pc := 963) dL_law_963 (snd_aload_n (pc := 964) (i := 0) dL_law_964 (snd_iload_n (pc := 965) (i := 3) dL_law_965 (snd_bipush (pc := 966) (by decide) dL_law_966 (snd_iadd (pc := 968) dL_law_968 (snd_sld (pc := 969) dL_law_969 (snd_aload_n (pc := 970) (i := 0) dL_law_970 (snd_iload_n (pc := 971) (i := 3) dL_law_971 (snd_bipush (pc := 972) (by decide) dL_law_972 (snd_iadd (pc := 974) dL_law_974 (snd_sld (pc := 975) dL_law_975 (snd_ifeq (pc := 976) (off := 7) (tgt := 983) (by decide) dL_law_976 (snd_iconst (pc := 983) dL_law_983 ((sk_L_law_984 F L xs hh18))) (snd_iconst (pc := 979) dL_law_979 (snd_goto (pc := 980) (off := 4) (tgt := 984) (by decide) dL_law_980 ((sk_L_law_984 F L xs hh18))))))))))))))))))))))))))))))))))))))))))))))))))
noncomputable def k_L_law_1054 (F : Nat) (L : Nat) (xs : Nat → Int) (h18 : AK) : AK := ak_aload 1 (ak_aload 0 (ak_iload 3 (ak_push (vI 1) (ak_iadd (ak_sld L xs (ak_aload 0 (ak_iload 3 (ak_push (vI 2) (ak_iadd (ak_sld L xs (ak_aload 0 (ak_iload 3 (ak_push (vI 3) (ak_iadd (ak_sld L xs (ak_aload 0 (ak_iload 3 (ak_push (vI 4) (ak_iadd (ak_sld L xs (ak_aload 0 (ak_iload 3 (ak_push (vI 5) (ak_iadd (ak_sld L xs (ak_aload 0 (ak_iload 3 (ak_push (vI 6) (ak_iadd (ak_sld L xs (ak_aload 0 (ak_iload 3 (ak_push (vI 7) (ak_iadd (ak_sld L xs (ak_callv 8 7 (m_X8_round F) (ak_aload 2 (ak_aload 0 (ak_iload 3 (ak_push (vI 1) (ak_iadd (ak_sld L xs (ak_aload 0 (ak_iload 3 (ak_push (vI 2) (ak_iadd (ak_sld L xs (ak_aload 0 (ak_iload 3 (ak_push (vI 3) (ak_iadd (ak_sld L xs (ak_aload 0 (ak_iload 3 (ak_push (vI 4) (ak_iadd (ak_sld L xs (ak_aload 0 (ak_iload 3 (ak_push (vI 5) (ak_iadd (ak_sld L xs (ak_aload 0 (ak_iload 3 (ak_push (vI 6) (ak_iadd (ak_sld L xs (ak_aload 0 (ak_iload 3 (ak_push (vI 7) (ak_iadd (ak_sld L xs (ak_callv 9 7 (m_X9_round F) (ak_cmpeq ((k_L_law_2282 F L xs h18)) (ak_push (vI 0) ak_ireturn)))))))))))))))))))))))))))))))))))))))))))))))))))))))))))))))))))))))))))
set_option maxRecDepth 20000 in
theorem sk_L_law_1054 (F : Nat) (L : Nat) (xs : Nat → Int) {h18 : AK} (hh18 : Snd (XS L xs) RL cL_law 4 21 18 h18) : Snd (XS L xs) RL cL_law 4 21 1054 (k_L_law_1054 F L xs h18) := by
  unfold k_L_law_1054
  exact snd_aload_n (pc := 1054) (i := 1) dL_law_1054 (snd_aload_n (pc := 1055) (i := 0) dL_law_1055 (snd_iload_n (pc := 1056) (i := 3) dL_law_1056 (snd_iconst (pc := 1057) dL_law_1057 (snd_iadd (pc := 1058) dL_law_1058 (snd_sld (pc := 1059) dL_law_1059 (snd_aload_n (pc := 1060) (i := 0) dL_law_1060 (snd_iload_n (pc := 1061) (i := 3) dL_law_1061 (snd_iconst (pc := 1062) dL_law_1062 (snd_iadd (pc := 1063) dL_law_1063 (snd_sld (pc := 1064) dL_law_1064 (snd_aload_n (pc := 1065) (i := 0) dL_law_1065 (snd_iload_n (pc := 1066) (i := 3) dL_law_1066 (snd_iconst (pc := 1067) dL_law_1067 (snd_iadd (pc := 1068) dL_law_1068 (snd_sld (pc := 1069) dL_law_1069 (snd_aload_n (pc := 1070) (i := 0) dL_law_1070 (snd_iload_n (pc := 1071) (i := 3) dL_law_1071 (snd_iconst (pc := 1072) dL_law_1072 (snd_iadd (pc := 1073) dL_law_1073 (snd_sld (pc := 1074) dL_law_1074 (snd_aload_n (pc := 1075) (i := 0) dL_law_1075 (snd_iload_n (pc := 1076) (i := 3) dL_law_1076 (snd_iconst (pc := 1077) dL_law_1077 (snd_iadd (pc := 1078) dL_law_1078 (snd_sld (pc := 1079) dL_law_1079 (snd_aload_n (pc := 1080) (i := 0) dL_law_1080 (snd_iload_n (pc := 1081) (i := 3) dL_law_1081 (snd_bipush (pc := 1082) (by decide) dL_law_1082 (snd_iadd (pc := 1084) dL_law_1084 (snd_sld (pc := 1085) dL_law_1085 (snd_aload_n (pc := 1086) (i := 0) dL_law_1086 (snd_iload_n (pc := 1087) (i := 3) dL_law_1087 (snd_bipush (pc := 1088) (by decide) dL_law_1088 (snd_iadd (pc := 1090) dL_law_1090 (snd_sld (pc := 1091) dL_law_1091 (snd_callV (pc := 1092) (n := 7) cls8 (s_X8_round F) (by decide) (by decide) wd_1070 wd_1067 wd_1068 wd_1069 wd_120 hy_X8_round dL_law_1092 (snd_aload_n (pc := 1095) (i := 2) dL_law_1095 (snd_aload_n (pc := 1096) (i := 0) dL_law_1096 (snd_iload_n (pc := 1097) (i := 3) dL_law_1097 (snd_iconst (pc := 1098) dL_law_1098 (snd_iadd (pc := 1099) dL_law_1099 (snd_sld (pc := 1100) dL_law_1100 (snd_aload_n (pc := 1101) (i := 0) dL_law_1101 (snd_iload_n (pc := 1102) (i := 3) dL_law_1102 (snd_iconst (pc := 1103) dL_law_1103 (snd_iadd (pc := 1104) dL_law_1104 (snd_sld (pc := 1105) dL_law_1105 (snd_aload_n (pc := 1106) (i := 0) dL_law_1106 (snd_iload_n (pc := 1107) (i := 3) dL_law_1107 (snd_iconst (pc := 1108) dL_law_1108 (snd_iadd (pc := 1109) dL_law_1109 (snd_sld (pc := 1110) dL_law_1110 (snd_aload_n (pc := 1111) (i := 0) dL_law_1111 (snd_iload_n (pc := 1112) (i := 3) dL_law_1112 (snd_iconst (pc := 1113) dL_law_1113 (snd_iadd (pc := 1114) dL_law_1114 (snd_sld (pc := 1115) dL_law_1115 (snd_aload_n (pc := 1116) (i := 0) dL_law_1116 (snd_iload_n (pc := 1117) (i := 3) dL_law_1117 (snd_iconst (pc := 1118) dL_law_1118 (snd_iadd (pc := 1119) dL_law_1119 (snd_sld (pc := 1120) dL_law_1120 (snd_aload_n (pc := 1121) (i := 0) dL_law_1121 (snd_iload_n (pc := 1122) (i := 3) dL_law_1122 (snd_bipush (pc := 1123) (by decide) dL_law_1123 (snd_iadd (pc := 1125) dL_law_1125 (snd_sld (pc := 1126) dL_law_1126 (snd_aload_n (pc := 1127) (i := 0) dL_law_1127 (snd_iload_n (pc := 1128) (i := 3) dL_law_1128 (snd_bipush (pc := 1129) (by decide) dL_law_1129 (snd_iadd (pc := 1131) dL_law_1131 (snd_sld (pc := 1132) dL_law_1132 (snd_callV (pc := 1133) (n := 7) cls9 (s_X9_round F) (by decide) (by decide) wd_1761 wd_1758 wd_1759 wd_1760 wd_129 hy_X9_round dL_law_1133 (snd_icmpeq (pc := 1136) (off := 1146) (tgt := 2282) (by decide) dL_law_1136 ((sk_L_law_2282 F L xs hh18)) (snd_iconst (pc := 1139) dL_law_1139 (snd_ireturn dL_law_1140))))))))))))))))))))))))))))))))))))))))))))))))))))))))))))))))))))))))))))
noncomputable def k_L_law_1141 (F : Nat) (L : Nat) (xs : Nat → Int) (h18 : AK) : AK := ak_aload 1 (ak_aload 0 (ak_iload 3 (ak_push (vI 1) (ak_iadd (ak_sld L xs (ak_aload 0 (ak_iload 3 (ak_push (vI 2) (ak_iadd (ak_sld L xs (ak_aload 0 (ak_iload 3 (ak_push (vI 3) (ak_iadd (ak_sld L xs (ak_aload 0 (ak_iload 3 (ak_push (vI 4) (ak_iadd (ak_sld L xs (ak_aload 0 (ak_iload 3 (ak_push (vI 5) (ak_iadd (ak_sld L xs (ak_aload 0 (ak_iload 3 (ak_push (vI 6) (ak_iadd (ak_sld L xs (ak_callv 8 6 (m_X8_gain F) (ak_aload 2 (ak_aload 0 (ak_iload 3 (ak_push (vI 1) (ak_iadd (ak_sld L xs (ak_aload 0 (ak_iload 3 (ak_push (vI 2) (ak_iadd (ak_sld L xs (ak_aload 0 (ak_iload 3 (ak_push (vI 3) (ak_iadd (ak_sld L xs (ak_aload 0 (ak_iload 3 (ak_push (vI 4) (ak_iadd (ak_sld L xs (ak_aload 0 (ak_iload 3 (ak_push (vI 5) (ak_iadd (ak_sld L xs (ak_aload 0 (ak_iload 3 (ak_push (vI 6) (ak_iadd (ak_sld L xs (ak_callv 9 6 (m_X9_gain F) (ak_lcmp (ak_ifeq ((k_L_law_2282 F L xs h18)) (ak_push (vI 0) ak_ireturn))))))))))))))))))))))))))))))))))))))))))))))))))))))))))))))))))
set_option maxRecDepth 20000 in
theorem sk_L_law_1141 (F : Nat) (L : Nat) (xs : Nat → Int) {h18 : AK} (hh18 : Snd (XS L xs) RL cL_law 4 21 18 h18) : Snd (XS L xs) RL cL_law 4 21 1141 (k_L_law_1141 F L xs h18) := by
  unfold k_L_law_1141
  exact snd_aload_n (pc := 1141) (i := 1) dL_law_1141 (snd_aload_n (pc := 1142) (i := 0) dL_law_1142 (snd_iload_n (pc := 1143) (i := 3) dL_law_1143 (snd_iconst (pc := 1144) dL_law_1144 (snd_iadd (pc := 1145) dL_law_1145 (snd_sld (pc := 1146) dL_law_1146 (snd_aload_n (pc := 1147) (i := 0) dL_law_1147 (snd_iload_n (pc := 1148) (i := 3) dL_law_1148 (snd_iconst (pc := 1149) dL_law_1149 (snd_iadd (pc := 1150) dL_law_1150 (snd_sld (pc := 1151) dL_law_1151 (snd_aload_n (pc := 1152) (i := 0) dL_law_1152 (snd_iload_n (pc := 1153) (i := 3) dL_law_1153 (snd_iconst (pc := 1154) dL_law_1154 (snd_iadd (pc := 1155) dL_law_1155 (snd_sld (pc := 1156) dL_law_1156 (snd_aload_n (pc := 1157) (i := 0) dL_law_1157 (snd_iload_n (pc := 1158) (i := 3) dL_law_1158 (snd_iconst (pc := 1159) dL_law_1159 (snd_iadd (pc := 1160) dL_law_1160 (snd_sld (pc := 1161) dL_law_1161 (snd_aload_n (pc := 1162) (i := 0) dL_law_1162 (snd_iload_n (pc := 1163) (i := 3) dL_law_1163 (snd_iconst (pc := 1164) dL_law_1164 (snd_iadd (pc := 1165) dL_law_1165 (snd_sld (pc := 1166) dL_law_1166 (snd_aload_n (pc := 1167) (i := 0) dL_law_1167 (snd_iload_n (pc := 1168) (i := 3) dL_law_1168 (snd_bipush (pc := 1169) (by decide) dL_law_1169 (snd_iadd (pc := 1171) dL_law_1171 (snd_sld (pc := 1172) dL_law_1172 (snd_callV (pc := 1173) (n := 6) cls8 (s_X8_gain F) (by decide) (by decide) wd_1090 wd_1087 wd_1088 wd_1089 wd_120 hy_X8_gain dL_law_1173 (snd_aload_n (pc := 1176) (i := 2) dL_law_1176 (snd_aload_n (pc := 1177) (i := 0) dL_law_1177 (snd_iload_n (pc := 1178) (i := 3) dL_law_1178 (snd_iconst (pc := 1179) dL_law_1179 (snd_iadd (pc := 1180) dL_law_1180 (snd_sld (pc := 1181) dL_law_1181 (snd_aload_n (pc := 1182) (i := 0) dL_law_1182 (snd_iload_n (pc := 1183) (i := 3) dL_law_1183 (snd_iconst (pc := 1184) dL_law_1184 (snd_iadd (pc := 1185) dL_law_1185 (snd_sld (pc := 1186) dL_law_1186 (snd_aload_n (pc := 1187) (i := 0) dL_law_1187 (snd_iload_n (pc := 1188) (i := 3) dL_law_1188 (snd_iconst (pc := 1189) dL_law_1189 (snd_iadd (pc := 1190) dL_law_1190 (snd_sld (pc := 1191) dL_law_1191 (snd_aload_n (pc := 1192) (i := 0) dL_law_1192 (snd_iload_n (pc := 1193) (i := 3) dL_law_1193 (snd_iconst (pc := 1194) dL_law_1194 (snd_iadd (pc := 1195) dL_law_1195 (snd_sld (pc := 1196) dL_law_1196 (snd_aload_n (pc := 1197) (i := 0) dL_law_1197 (snd_iload_n (pc := 1198) (i := 3) dL_law_1198 (snd_iconst (pc := 1199) dL_law_1199 (snd_iadd (pc := 1200) dL_law_1200 (snd_sld (pc := 1201) dL_law_1201 (snd_aload_n (pc := 1202) (i := 0) dL_law_1202 (snd_iload_n (pc := 1203) (i := 3) dL_law_1203 (snd_bipush (pc := 1204) (by decide) dL_law_1204 (snd_iadd (pc := 1206) dL_law_1206 (snd_sld (pc := 1207) dL_law_1207 (snd_callV (pc := 1208) (n := 6) cls9 (s_X9_gain F) (by decide) (by decide) wd_1769 wd_1766 wd_1767 wd_1768 wd_129 hy_X9_gain dL_law_1208 (snd_lcmp (pc := 1211) dL_law_1211 (snd_ifeq (pc := 1212) (off := 1070) (tgt := 2282) (by decide) dL_law_1212 ((sk_L_law_2282 F L xs hh18)) (snd_iconst (pc := 1215) dL_law_1215 (snd_ireturn dL_law_1216)))))))))))))))))))))))))))))))))))))))))))))))))))))))))))))))))))
noncomputable def k_L_law_1217 (F : Nat) (L : Nat) (xs : Nat → Int) (h18 : AK) : AK := ak_aload 1 (ak_aload 0 (ak_iload 3 (ak_push (vI 1) (ak_iadd (ak_sld L xs (ak_aload 0 (ak_iload 3 (ak_push (vI 2) (ak_iadd (ak_sld L xs (ak_aload 0 (ak_iload 3 (ak_push (vI 3) (ak_iadd (ak_sld L xs (ak_aload 0 (ak_iload 3 (ak_push (vI 4) (ak_iadd (ak_sld L xs (ak_callv 8 4 (m_X8_all F) (ak_aload 2 (ak_aload 0 (ak_iload 3 (ak_push (vI 1) (ak_iadd (ak_sld L xs (ak_aload 0 (ak_iload 3 (ak_push (vI 2) (ak_iadd (ak_sld L xs (ak_aload 0 (ak_iload 3 (ak_push (vI 3) (ak_iadd (ak_sld L xs (ak_aload 0 (ak_iload 3 (ak_push (vI 4) (ak_iadd (ak_sld L xs (ak_callv 9 4 (m_X9_all F) (ak_cmpeq ((k_L_law_2282 F L xs h18)) (ak_push (vI 0) ak_ireturn)))))))))))))))))))))))))))))))))))))))))))))
set_option maxRecDepth 20000 in
theorem sk_L_law_1217 (F : Nat) (L : Nat) (xs : Nat → Int) {h18 : AK} (hh18 : Snd (XS L xs) RL cL_law 4 21 18 h18) : Snd (XS L xs) RL cL_law 4 21 1217 (k_L_law_1217 F L xs h18) := by
  unfold k_L_law_1217
  exact snd_aload_n (pc := 1217) (i := 1) dL_law_1217 (snd_aload_n (pc := 1218) (i := 0) dL_law_1218 (snd_iload_n (pc := 1219) (i := 3) dL_law_1219 (snd_iconst (pc := 1220) dL_law_1220 (snd_iadd (pc := 1221) dL_law_1221 (snd_sld (pc := 1222) dL_law_1222 (snd_aload_n (pc := 1223) (i := 0) dL_law_1223 (snd_iload_n (pc := 1224) (i := 3) dL_law_1224 (snd_iconst (pc := 1225) dL_law_1225 (snd_iadd (pc := 1226) dL_law_1226 (snd_sld (pc := 1227) dL_law_1227 (snd_aload_n (pc := 1228) (i := 0) dL_law_1228 (snd_iload_n (pc := 1229) (i := 3) dL_law_1229 (snd_iconst (pc := 1230) dL_law_1230 (snd_iadd (pc := 1231) dL_law_1231 (snd_sld (pc := 1232) dL_law_1232 (snd_aload_n (pc := 1233) (i := 0) dL_law_1233 (snd_iload_n (pc := 1234) (i := 3) dL_law_1234 (snd_iconst (pc := 1235) dL_law_1235 (snd_iadd (pc := 1236) dL_law_1236 (snd_sld (pc := 1237) dL_law_1237 (snd_callV (pc := 1238) (n := 4) cls8 (s_X8_all F) (by decide) (by decide) wd_1098 wd_1095 wd_1096 wd_1097 wd_120 hy_X8_all dL_law_1238 (snd_aload_n (pc := 1241) (i := 2) dL_law_1241 (snd_aload_n (pc := 1242) (i := 0) dL_law_1242 (snd_iload_n (pc := 1243) (i := 3) dL_law_1243 (snd_iconst (pc := 1244) dL_law_1244 (snd_iadd (pc := 1245) dL_law_1245 (snd_sld (pc := 1246) dL_law_1246 (snd_aload_n (pc := 1247) (i := 0) dL_law_1247 (snd_iload_n (pc := 1248) (i := 3) dL_law_1248 (snd_iconst (pc := 1249) dL_law_1249 (snd_iadd (pc := 1250) dL_law_1250 (snd_sld (pc := 1251) dL_law_1251 (snd_aload_n (pc := 1252) (i := 0) dL_law_1252 (snd_iload_n (pc := 1253) (i := 3) dL_law_1253 (snd_iconst (pc := 1254) dL_law_1254 (snd_iadd (pc := 1255) dL_law_1255 (snd_sld (pc := 1256) dL_law_1256 (snd_aload_n (pc := 1257) (i := 0) dL_law_1257 (snd_iload_n (pc := 1258) (i := 3) dL_law_1258 (snd_iconst (pc := 1259) dL_law_1259 (snd_iadd (pc := 1260) dL_law_1260 (snd_sld (pc := 1261) dL_law_1261 (snd_callV (pc := 1262) (n := 4) cls9 (s_X9_all F) (by decide) (by decide) wd_1773 wd_1770 wd_1771 wd_1772 wd_129 hy_X9_all dL_law_1262 (snd_icmpeq (pc := 1265) (off := 1017) (tgt := 2282) (by decide) dL_law_1265 ((sk_L_law_2282 F L xs hh18)) (snd_iconst (pc := 1268) dL_law_1268 (snd_ireturn dL_law_1269))))))))))))))))))))))))))))))))))))))))))))))
noncomputable def k_L_law_1270 (F : Nat) (L : Nat) (xs : Nat → Int) (h18 : AK) : AK := ak_aload 1 (ak_aload 0 (ak_iload 3 (ak_push (vI 1) (ak_iadd (ak_sld L xs (ak_aload 0 (ak_iload 3 (ak_push (vI 2) (ak_iadd (ak_sld L xs (ak_aload 0 (ak_iload 3 (ak_push (vI 3) (ak_iadd (ak_sld L xs (ak_aload 0 (ak_iload 3 (ak_push (vI 4) (ak_iadd (ak_sld L xs (ak_callv 8 4 (m_X8_night F) (ak_aload 2 (ak_aload 0 (ak_iload 3 (ak_push (vI 1) (ak_iadd (ak_sld L xs (ak_aload 0 (ak_iload 3 (ak_push (vI 2) (ak_iadd (ak_sld L xs (ak_aload 0 (ak_iload 3 (ak_push (vI 3) (ak_iadd (ak_sld L xs (ak_aload 0 (ak_iload 3 (ak_push (vI 4) (ak_iadd (ak_sld L xs (ak_callv 9 4 (m_X9_night F) (ak_cmpeq ((k_L_law_2282 F L xs h18)) (ak_push (vI 0) ak_ireturn)))))))))))))))))))))))))))))))))))))))))))))
set_option maxRecDepth 20000 in
theorem sk_L_law_1270 (F : Nat) (L : Nat) (xs : Nat → Int) {h18 : AK} (hh18 : Snd (XS L xs) RL cL_law 4 21 18 h18) : Snd (XS L xs) RL cL_law 4 21 1270 (k_L_law_1270 F L xs h18) := by
  unfold k_L_law_1270
  exact snd_aload_n (pc := 1270) (i := 1) dL_law_1270 (snd_aload_n (pc := 1271) (i := 0) dL_law_1271 (snd_iload_n (pc := 1272) (i := 3) dL_law_1272 (snd_iconst (pc := 1273) dL_law_1273 (snd_iadd (pc := 1274) dL_law_1274 (snd_sld (pc := 1275) dL_law_1275 (snd_aload_n (pc := 1276) (i := 0) dL_law_1276 (snd_iload_n (pc := 1277) (i := 3) dL_law_1277 (snd_iconst (pc := 1278) dL_law_1278 (snd_iadd (pc := 1279) dL_law_1279 (snd_sld (pc := 1280) dL_law_1280 (snd_aload_n (pc := 1281) (i := 0) dL_law_1281 (snd_iload_n (pc := 1282) (i := 3) dL_law_1282 (snd_iconst (pc := 1283) dL_law_1283 (snd_iadd (pc := 1284) dL_law_1284 (snd_sld (pc := 1285) dL_law_1285 (snd_aload_n (pc := 1286) (i := 0) dL_law_1286 (snd_iload_n (pc := 1287) (i := 3) dL_law_1287 (snd_iconst (pc := 1288) dL_law_1288 (snd_iadd (pc := 1289) dL_law_1289 (snd_sld (pc := 1290) dL_law_1290 (snd_callV (pc := 1291) (n := 4) cls8 (s_X8_night F) (by decide) (by decide) wd_1149 wd_1146 wd_1147 wd_1148 wd_120 hy_X8_night dL_law_1291 (snd_aload_n (pc := 1294) (i := 2) dL_law_1294 (snd_aload_n (pc := 1295) (i := 0) dL_law_1295 (snd_iload_n (pc := 1296) (i := 3) dL_law_1296 (snd_iconst (pc := 1297) dL_law_1297 (snd_iadd (pc := 1298) dL_law_1298 (snd_sld (pc := 1299) dL_law_1299 (snd_aload_n (pc := 1300) (i := 0) dL_law_1300 (snd_iload_n (pc := 1301) (i := 3) dL_law_1301 (snd_iconst (pc := 1302) dL_law_1302 (snd_iadd (pc := 1303) dL_law_1303 (snd_sld (pc := 1304) dL_law_1304 (snd_aload_n (pc := 1305) (i := 0) dL_law_1305 (snd_iload_n (pc := 1306) (i := 3) dL_law_1306 (snd_iconst (pc := 1307) dL_law_1307 (snd_iadd (pc := 1308) dL_law_1308 (snd_sld (pc := 1309) dL_law_1309 (snd_aload_n (pc := 1310) (i := 0) dL_law_1310 (snd_iload_n (pc := 1311) (i := 3) dL_law_1311 (snd_iconst (pc := 1312) dL_law_1312 (snd_iadd (pc := 1313) dL_law_1313 (snd_sld (pc := 1314) dL_law_1314 (snd_callV (pc := 1315) (n := 4) cls9 (s_X9_night F) (by decide) (by decide) wd_1826 wd_1823 wd_1824 wd_1825 wd_129 hy_X9_night dL_law_1315 (snd_icmpeq (pc := 1318) (off := 964) (tgt := 2282) (by decide) dL_law_1318 ((sk_L_law_2282 F L xs hh18)) (snd_iconst (pc := 1321) dL_law_1321 (snd_ireturn dL_law_1322))))))))))))))))))))))))))))))))))))))))))))))
noncomputable def k_L_law_1323 (F : Nat) (L : Nat) (xs : Nat → Int) (h18 : AK) : AK := ak_aload 1 (ak_aload 0 (ak_iload 3 (ak_push (vI 1) (ak_iadd (ak_sld L xs (ak_aload 0 (ak_iload 3 (ak_push (vI 2) (ak_iadd (ak_sld L xs (ak_aload 0 (ak_iload 3 (ak_push (vI 3) (ak_iadd (ak_sld L xs (ak_aload 0 (ak_iload 3 (ak_push (vI 4) (ak_iadd (ak_sld L xs (ak_callv 8 4 (m_X8_other F) (ak_aload 2 (ak_aload 0 (ak_iload 3 (ak_push (vI 1) (ak_iadd (ak_sld L xs (ak_aload 0 (ak_iload 3 (ak_push (vI 2) (ak_iadd (ak_sld L xs (ak_aload 0 (ak_iload 3 (ak_push (vI 3) (ak_iadd (ak_sld L xs (ak_aload 0 (ak_iload 3 (ak_push (vI 4) (ak_iadd (ak_sld L xs (ak_callv 9 4 (m_X9_other F) (ak_cmpeq ((k_L_law_2282 F L xs h18)) (ak_push (vI 0) ak_ireturn)))))))))))))))))))))))))))))))))))))))))))))
set_option maxRecDepth 20000 in
theorem sk_L_law_1323 (F : Nat) (L : Nat) (xs : Nat → Int) {h18 : AK} (hh18 : Snd (XS L xs) RL cL_law 4 21 18 h18) : Snd (XS L xs) RL cL_law 4 21 1323 (k_L_law_1323 F L xs h18) := by
  unfold k_L_law_1323
  exact snd_aload_n (pc := 1323) (i := 1) dL_law_1323 (snd_aload_n (pc := 1324) (i := 0) dL_law_1324 (snd_iload_n (pc := 1325) (i := 3) dL_law_1325 (snd_iconst (pc := 1326) dL_law_1326 (snd_iadd (pc := 1327) dL_law_1327 (snd_sld (pc := 1328) dL_law_1328 (snd_aload_n (pc := 1329) (i := 0) dL_law_1329 (snd_iload_n (pc := 1330) (i := 3) dL_law_1330 (snd_iconst (pc := 1331) dL_law_1331 (snd_iadd (pc := 1332) dL_law_1332 (snd_sld (pc := 1333) dL_law_1333 (snd_aload_n (pc := 1334) (i := 0) dL_law_1334 (snd_iload_n (pc := 1335) (i := 3) dL_law_1335 (snd_iconst (pc := 1336) dL_law_1336 (snd_iadd (pc := 1337) dL_law_1337 (snd_sld (pc := 1338) dL_law_1338 (snd_aload_n (pc := 1339) (i := 0) dL_law_1339 (snd_iload_n (pc := 1340) (i := 3) dL_law_1340 (snd_iconst (pc := 1341) dL_law_1341 (snd_iadd (pc := 1342) dL_law_1342 (snd_sld (pc := 1343) dL_law_1343 (snd_callV (pc := 1344) (n := 4) cls8 (s_X8_other F) (by decide) (by decide) wd_1157 wd_1154 wd_1155 wd_1156 wd_120 hy_X8_other dL_law_1344 (snd_aload_n (pc := 1347) (i := 2) dL_law_1347 (snd_aload_n (pc := 1348) (i := 0) dL_law_1348 (snd_iload_n (pc := 1349) (i := 3) dL_law_1349 (snd_iconst (pc := 1350) dL_law_1350 (snd_iadd (pc := 1351) dL_law_1351 (snd_sld (pc := 1352) dL_law_1352 (snd_aload_n (pc := 1353) (i := 0) dL_law_1353 (snd_iload_n (pc := 1354) (i := 3) dL_law_1354 (snd_iconst (pc := 1355) dL_law_1355 (snd_iadd (pc := 1356) dL_law_1356 (snd_sld (pc := 1357) dL_law_1357 (snd_aload_n (pc := 1358) (i := 0) dL_law_1358 (snd_iload_n (pc := 1359) (i := 3) dL_law_1359 (snd_iconst (pc := 1360) dL_law_1360 (snd_iadd (pc := 1361) dL_law_1361 (snd_sld (pc := 1362) dL_law_1362 (snd_aload_n (pc := 1363) (i := 0) dL_law_1363 (snd_iload_n (pc := 1364) (i := 3) dL_law_1364 (snd_iconst (pc := 1365) dL_law_1365 (snd_iadd (pc := 1366) dL_law_1366 (snd_sld (pc := 1367) dL_law_1367 (snd_callV (pc := 1368) (n := 4) cls9 (s_X9_other F) (by decide) (by decide) wd_1830 wd_1827 wd_1828 wd_1829 wd_129 hy_X9_other dL_law_1368 (snd_icmpeq (pc := 1371) (off := 911) (tgt := 2282) (by decide) dL_law_1371 ((sk_L_law_2282 F L xs hh18)) (snd_iconst (pc := 1374) dL_law_1374 (snd_ireturn dL_law_1375))))))))))))))))))))))))))))))))))))))))))))))
noncomputable def k_L_law_1376 (F : Nat) (L : Nat) (xs : Nat → Int) (h18 : AK) : AK := ak_aload 1 (ak_aload 0 (ak_iload 3 (ak_push (vI 1) (ak_iadd (ak_sld L xs (ak_aload 0 (ak_iload 3 (ak_push (vI 2) (ak_iadd (ak_sld L xs (ak_aload 0 (ak_iload 3 (ak_push (vI 3) (ak_iadd (ak_sld L xs (ak_aload 0 (ak_iload 3 (ak_push (vI 4) (ak_iadd (ak_sld L xs (ak_callv 8 4 (m_X8_turned F) (ak_aload 2 (ak_aload 0 (ak_iload 3 (ak_push (vI 1) (ak_iadd (ak_sld L xs (ak_aload 0 (ak_iload 3 (ak_push (vI 2) (ak_iadd (ak_sld L xs (ak_aload 0 (ak_iload 3 (ak_push (vI 3) (ak_iadd (ak_sld L xs (ak_aload 0 (ak_iload 3 (ak_push (vI 4) (ak_iadd (ak_sld L xs (ak_callv 9 4 (m_X9_turned F) (ak_cmpeq ((k_L_law_2282 F L xs h18)) (ak_push (vI 0) ak_ireturn)))))))))))))))))))))))))))))))))))))))))))))
set_option maxRecDepth 20000 in
theorem sk_L_law_1376 (F : Nat) (L : Nat) (xs : Nat → Int) {h18 : AK} (hh18 : Snd (XS L xs) RL cL_law 4 21 18 h18) : Snd (XS L xs) RL cL_law 4 21 1376 (k_L_law_1376 F L xs h18) := by
  unfold k_L_law_1376
  exact snd_aload_n (pc := 1376) (i := 1) dL_law_1376 (snd_aload_n (pc := 1377) (i := 0) dL_law_1377 (snd_iload_n (pc := 1378) (i := 3) dL_law_1378 (snd_iconst (pc := 1379) dL_law_1379 (snd_iadd (pc := 1380) dL_law_1380 (snd_sld (pc := 1381) dL_law_1381 (snd_aload_n (pc := 1382) (i := 0) dL_law_1382 (snd_iload_n (pc := 1383) (i := 3) dL_law_1383 (snd_iconst (pc := 1384) dL_law_1384 (snd_iadd (pc := 1385) dL_law_1385 (snd_sld (pc := 1386) dL_law_1386 (snd_aload_n (pc := 1387) (i := 0) dL_law_1387 (snd_iload_n (pc := 1388) (i := 3) dL_law_1388 (snd_iconst (pc := 1389) dL_law_1389 (snd_iadd (pc := 1390) dL_law_1390 (snd_sld (pc := 1391) dL_law_1391 (snd_aload_n (pc := 1392) (i := 0) dL_law_1392 (snd_iload_n (pc := 1393) (i := 3) dL_law_1393 (snd_iconst (pc := 1394) dL_law_1394 (snd_iadd (pc := 1395) dL_law_1395 (snd_sld (pc := 1396) dL_law_1396 (snd_callV (pc := 1397) (n := 4) cls8 (s_X8_turned F) (by decide) (by decide) wd_1166 wd_1163 wd_1164 wd_1165 wd_120 hy_X8_turned dL_law_1397 (snd_aload_n (pc := 1400) (i := 2) dL_law_1400 (snd_aload_n (pc := 1401) (i := 0) dL_law_1401 (snd_iload_n (pc := 1402) (i := 3) dL_law_1402 (snd_iconst (pc := 1403) dL_law_1403 (snd_iadd (pc := 1404) dL_law_1404 (snd_sld (pc := 1405) dL_law_1405 (snd_aload_n (pc := 1406) (i := 0) dL_law_1406 (snd_iload_n (pc := 1407) (i := 3) dL_law_1407 (snd_iconst (pc := 1408) dL_law_1408 (snd_iadd (pc := 1409) dL_law_1409 (snd_sld (pc := 1410) dL_law_1410 (snd_aload_n (pc := 1411) (i := 0) dL_law_1411 (snd_iload_n (pc := 1412) (i := 3) dL_law_1412 (snd_iconst (pc := 1413) dL_law_1413 (snd_iadd (pc := 1414) dL_law_1414 (snd_sld (pc := 1415) dL_law_1415 (snd_aload_n (pc := 1416) (i := 0) dL_law_1416 (snd_iload_n (pc := 1417) (i := 3) dL_law_1417 (snd_iconst (pc := 1418) dL_law_1418 (snd_iadd (pc := 1419) dL_law_1419 (snd_sld (pc := 1420) dL_law_1420 (snd_callV (pc := 1421) (n := 4) cls9 (s_X9_turned F) (by decide) (by decide) wd_1834 wd_1831 wd_1832 wd_1833 wd_129 hy_X9_turned dL_law_1421 (snd_icmpeq (pc := 1424) (off := 858) (tgt := 2282) (by decide) dL_law_1424 ((sk_L_law_2282 F L xs hh18)) (snd_iconst (pc := 1427) dL_law_1427 (snd_ireturn dL_law_1428))))))))))))))))))))))))))))))))))))))))))))))
noncomputable def k_L_law_1429 (F : Nat) (L : Nat) (xs : Nat → Int) (h18 : AK) : AK := ak_aload 1 (ak_aload 0 (ak_iload 3 (ak_push (vI 1) (ak_iadd (ak_sld L xs (ak_aload 0 (ak_iload 3 (ak_push (vI 2) (ak_iadd (ak_sld L xs (ak_aload 0 (ak_iload 3 (ak_push (vI 3) (ak_iadd (ak_sld L xs (ak_callv 8 3 (m_X8_regret F) (ak_aload 2 (ak_aload 0 (ak_iload 3 (ak_push (vI 1) (ak_iadd (ak_sld L xs (ak_aload 0 (ak_iload 3 (ak_push (vI 2) (ak_iadd (ak_sld L xs (ak_aload 0 (ak_iload 3 (ak_push (vI 3) (ak_iadd (ak_sld L xs (ak_callv 9 3 (m_X9_regret F) (ak_cmpeq ((k_L_law_2282 F L xs h18)) (ak_push (vI 0) ak_ireturn)))))))))))))))))))))))))))))))))))
set_option maxRecDepth 20000 in
theorem sk_L_law_1429 (F : Nat) (L : Nat) (xs : Nat → Int) {h18 : AK} (hh18 : Snd (XS L xs) RL cL_law 4 21 18 h18) : Snd (XS L xs) RL cL_law 4 21 1429 (k_L_law_1429 F L xs h18) := by
  unfold k_L_law_1429
  exact snd_aload_n (pc := 1429) (i := 1) dL_law_1429 (snd_aload_n (pc := 1430) (i := 0) dL_law_1430 (snd_iload_n (pc := 1431) (i := 3) dL_law_1431 (snd_iconst (pc := 1432) dL_law_1432 (snd_iadd (pc := 1433) dL_law_1433 (snd_sld (pc := 1434) dL_law_1434 (snd_aload_n (pc := 1435) (i := 0) dL_law_1435 (snd_iload_n (pc := 1436) (i := 3) dL_law_1436 (snd_iconst (pc := 1437) dL_law_1437 (snd_iadd (pc := 1438) dL_law_1438 (snd_sld (pc := 1439) dL_law_1439 (snd_aload_n (pc := 1440) (i := 0) dL_law_1440 (snd_iload_n (pc := 1441) (i := 3) dL_law_1441 (snd_iconst (pc := 1442) dL_law_1442 (snd_iadd (pc := 1443) dL_law_1443 (snd_sld (pc := 1444) dL_law_1444 (snd_callV (pc := 1445) (n := 3) cls8 (s_X8_regret F) (by decide) (by decide) wd_1174 wd_1171 wd_1172 wd_1173 wd_120 hy_X8_regret dL_law_1445 (snd_aload_n (pc := 1448) (i := 2) dL_law_1448 (snd_aload_n (pc := 1449) (i := 0) dL_law_1449 (snd_iload_n (pc := 1450) (i := 3) dL_law_1450 (snd_iconst (pc := 1451) dL_law_1451 (snd_iadd (pc := 1452) dL_law_1452 (snd_sld (pc := 1453) dL_law_1453 (snd_aload_n (pc := 1454) (i := 0) dL_law_1454 (snd_iload_n (pc := 1455) (i := 3) dL_law_1455 (snd_iconst (pc := 1456) dL_law_1456 (snd_iadd (pc := 1457) dL_law_1457 (snd_sld (pc := 1458) dL_law_1458 (snd_aload_n (pc := 1459) (i := 0) dL_law_1459 (snd_iload_n (pc := 1460) (i := 3) dL_law_1460 (snd_iconst (pc := 1461) dL_law_1461 (snd_iadd (pc := 1462) dL_law_1462 (snd_sld (pc := 1463) dL_law_1463 (snd_callV (pc := 1464) (n := 3) cls9 (s_X9_regret F) (by decide) (by decide) wd_1842 wd_1839 wd_1840 wd_1841 wd_129 hy_X9_regret dL_law_1464 (snd_icmpeq (pc := 1467) (off := 815) (tgt := 2282) (by decide) dL_law_1467 ((sk_L_law_2282 F L xs hh18)) (snd_iconst (pc := 1470) dL_law_1470 (snd_ireturn dL_law_1471))))))))))))))))))))))))))))))))))))
noncomputable def k_L_law_1472 (F : Nat) (L : Nat) (xs : Nat → Int) (h18 : AK) : AK := ak_aload 1 (ak_aload 0 (ak_iload 3 (ak_push (vI 1) (ak_iadd (ak_sld L xs (ak_aload 0 (ak_iload 3 (ak_push (vI 2) (ak_iadd (ak_sld L xs (ak_callv 8 2 (m_X8_sooner F) (ak_aload 2 (ak_aload 0 (ak_iload 3 (ak_push (vI 1) (ak_iadd (ak_sld L xs (ak_aload 0 (ak_iload 3 (ak_push (vI 2) (ak_iadd (ak_sld L xs (ak_callv 9 2 (m_X9_sooner F) (ak_cmpeq ((k_L_law_2282 F L xs h18)) (ak_push (vI 0) ak_ireturn)))))))))))))))))))))))))
set_option maxRecDepth 20000 in
theorem sk_L_law_1472 (F : Nat) (L : Nat) (xs : Nat → Int) {h18 : AK} (hh18 : Snd (XS L xs) RL cL_law 4 21 18 h18) : Snd (XS L xs) RL cL_law 4 21 1472 (k_L_law_1472 F L xs h18) := by
  unfold k_L_law_1472
  exact snd_aload_n (pc := 1472) (i := 1) dL_law_1472 (snd_aload_n (pc := 1473) (i := 0) dL_law_1473 (snd_iload_n (pc := 1474) (i := 3) dL_law_1474 (snd_iconst (pc := 1475) dL_law_1475 (snd_iadd (pc := 1476) dL_law_1476 (snd_sld (pc := 1477) dL_law_1477 (snd_aload_n (pc := 1478) (i := 0) dL_law_1478 (snd_iload_n (pc := 1479) (i := 3) dL_law_1479 (snd_iconst (pc := 1480) dL_law_1480 (snd_iadd (pc := 1481) dL_law_1481 (snd_sld (pc := 1482) dL_law_1482 (snd_callV (pc := 1483) (n := 2) cls8 (s_X8_sooner F) (by decide) (by decide) wd_1182 wd_1179 wd_1180 wd_1181 wd_120 hy_X8_sooner dL_law_1483 (snd_aload_n (pc := 1486) (i := 2) dL_law_1486 (snd_aload_n (pc := 1487) (i := 0) dL_law_1487 (snd_iload_n (pc := 1488) (i := 3) dL_law_1488 (snd_iconst (pc := 1489) dL_law_1489 (snd_iadd (pc := 1490) dL_law_1490 (snd_sld (pc := 1491) dL_law_1491 (snd_aload_n (pc := 1492) (i := 0) dL_law_1492 (snd_iload_n (pc := 1493) (i := 3) dL_law_1493 (snd_iconst (pc := 1494) dL_law_1494 (snd_iadd (pc := 1495) dL_law_1495 (snd_sld (pc := 1496) dL_law_1496 (snd_callV (pc := 1497) (n := 2) cls9 (s_X9_sooner F) (by decide) (by decide) wd_1850 wd_1847 wd_1848 wd_1849 wd_129 hy_X9_sooner dL_law_1497 (snd_icmpeq (pc := 1500) (off := 782) (tgt := 2282) (by decide) dL_law_1500 ((sk_L_law_2282 F L xs hh18)) (snd_iconst (pc := 1503) dL_law_1503 (snd_ireturn dL_law_1504))))))))))))))))))))))))))
noncomputable def k_L_law_1556 (F : Nat) (L : Nat) (xs : Nat → Int) (h18 : AK) : AK := ak_callv 9 3 (m_X9_rests F) (ak_cmpeq ((k_L_law_2282 F L xs h18)) (ak_push (vI 0) ak_ireturn))
set_option maxRecDepth 20000 in
theorem sk_L_law_1556 (F : Nat) (L : Nat) (xs : Nat → Int) {h18 : AK} (hh18 : Snd (XS L xs) RL cL_law 4 21 18 h18) : Snd (XS L xs) RL cL_law 4 21 1556 (k_L_law_1556 F L xs h18) := by
  unfold k_L_law_1556
  exact snd_callV (pc := 1556) (n := 3) cls9 (s_X9_rests F) (by decide) (by decide) wd_1858 wd_1855 wd_1856 wd_1857 wd_129 hy_X9_rests dL_law_1556 (snd_icmpeq (pc := 1559) (off := 723) (tgt := 2282) (by decide) dL_law_1559 ((sk_L_law_2282 F L xs hh18)) (snd_iconst (pc := 1562) dL_law_1562 (snd_ireturn dL_law_1563)))
noncomputable def k_L_law_1529 (F : Nat) (L : Nat) (xs : Nat → Int) (h18 : AK) : AK := ak_callv 8 3 (m_X8_rests F) (ak_aload 2 (ak_aload 0 (ak_iload 3 (ak_push (vI 1) (ak_iadd (ak_sld L xs (ak_aload 0 (ak_iload 3 (ak_push (vI 2) (ak_iadd (ak_sld L xs (ak_aload 0 (ak_iload 3 (ak_push (vI 3) (ak_iadd (ak_sld L xs (ak_ifeq (ak_push (vI 0) ((k_L_law_1556 F L xs h18))) (ak_push (vI 1) ((k_L_law_1556 F L xs h18))))))))))))))))))))
set_option maxRecDepth 20000 in
theorem sk_L_law_1529 (F : Nat) (L : Nat) (xs : Nat → Int) {h18 : AK} (hh18 : Snd (XS L xs) RL cL_law 4 21 18 h18) : Snd (XS L xs) RL cL_law 4 21 1529 (k_L_law_1529 F L xs h18) := by
  unfold k_L_law_1529
  exact snd_callV (pc := 1529) (n := 3) cls8 (s_X8_rests F) (by decide) (by decide) wd_1194 wd_1191 wd_1192 wd_1193 wd_120 hy_X8_rests dL_law_1529 (snd_aload_n (pc := 1532) (i := 2) dL_law_1532 (snd_aload_n (pc := 1533) (i := 0) dL_law_1533 (snd_iload_n (pc := 1534) (i := 3) dL_law_1534 (snd_iconst (pc := 1535) dL_law_1535 (snd_iadd (pc := 1536) dL_law_1536 (snd_sld (pc := 1537) dL_law_1537 (snd_aload_n (pc := 1538) (i := 0) dL_law_1538 (snd_iload_n (pc := 1539) (i := 3) dL_law_1539 (snd_iconst (pc := 1540) dL_law_1540 (snd_iadd (pc := 1541) dL_law_1541 (snd_sld (pc := 1542) dL_law_1542 (snd_aload_n (pc := 1543) (i := 0) dL_law_1543 (snd_iload_n (pc := 1544) (i := 3) dL_law_1544 (snd_iconst (pc := 1545) dL_law_1545 (snd_iadd (pc := 1546) dL_law_1546 (snd_sld (pc := 1547) dL_law_1547 (snd_ifeq (pc := 1548) (off := 7) (tgt := 1555) (by decide) dL_law_1548 (snd_iconst (pc := 1555) dL_law_1555 ((sk_L_law_1556 F L xs hh18))) (snd_iconst (pc := 1551) dL_law_1551 (snd_goto (pc := 1552) (off := 4) (tgt := 1556) (by decide) dL_law_1552 ((sk_L_law_1556 F L xs hh18)))))))))))))))))))))
noncomputable def k_L_law_1505 (F : Nat) (L : Nat) (xs : Nat → Int) (h18 : AK) : AK := ak_aload 1 (ak_aload 0 (ak_iload 3 (ak_push (vI 1) (ak_iadd (ak_sld L xs (ak_aload 0 (ak_iload 3 (ak_push (vI 2) (ak_iadd (ak_sld L xs (ak_aload 0 (ak_iload 3 (ak_push (vI 3) (ak_iadd (ak_sld L xs (ak_ifeq (ak_push (vI 0) ((k_L_law_1529 F L xs h18))) (ak_push (vI 1) ((k_L_law_1529 F L xs h18)))))))))))))))))))
set_option maxRecDepth 20000 in
theorem sk_L_law_1505 (F : Nat) (L : Nat) (xs : Nat → Int) {h18 : AK} (hh18 : Snd (XS L xs) RL cL_law 4 21 18 h18) : Snd (XS L xs) RL cL_law 4 21 1505 (k_L_law_1505 F L xs h18) := by
  unfold k_L_law_1505
  exact snd_aload_n (pc := 1505) (i := 1) dL_law_1505 (snd_aload_n (pc := 1506) (i := 0) dL_law_1506 (snd_iload_n (pc := 1507) (i := 3) dL_law_1507 (snd_iconst (pc := 1508) dL_law_1508 (snd_iadd (pc := 1509) dL_law_1509 (snd_sld (pc := 1510) dL_law_1510 (snd_aload_n (pc := 1511) (i := 0) dL_law_1511 (snd_iload_n (pc := 1512) (i := 3) dL_law_1512 (snd_iconst (pc := 1513) dL_law_1513 (snd_iadd (pc := 1514) dL_law_1514 (snd_sld (pc := 1515) dL_law_1515 (snd_aload_n (pc := 1516) (i := 0) dL_law_1516 (snd_iload_n (pc := 1517) (i := 3) dL_law_1517 (snd_iconst (pc := 1518) dL_law_1518 (snd_iadd (pc := 1519) dL_law_1519 (snd_sld (pc := 1520) dL_law_1520 (snd_ifeq (pc := 1521) (off := 7) (tgt := 1528) (by decide) dL_law_1521 (snd_iconst (pc := 1528) dL_law_1528 ((sk_L_law_1529 F L xs hh18))) (snd_iconst (pc := 1524) dL_law_1524 (snd_goto (pc := 1525) (off := 4) (tgt := 1529) (by decide) dL_law_1525 ((sk_L_law_1529 F L xs hh18))))))))))))))))))))
noncomputable def k_L_law_1564 (F : Nat) (L : Nat) (xs : Nat → Int) (h18 : AK) : AK := ak_aload 1 (ak_aload 0 (ak_iload 3 (ak_push (vI 1) (ak_iadd (ak_sld L xs (ak_aload 0 (ak_iload 3 (ak_push (vI 2) (ak_iadd (ak_sld L xs (ak_callv 8 2 (m_X8_free F) (ak_aload 2 (ak_aload 0 (ak_iload 3 (ak_push (vI 1) (ak_iadd (ak_sld L xs (ak_aload 0 (ak_iload 3 (ak_push (vI 2) (ak_iadd (ak_sld L xs (ak_callv 9 2 (m_X9_free F) (ak_cmpeq ((k_L_law_2282 F L xs h18)) (ak_push (vI 0) ak_ireturn)))))))))))))))))))))))))
set_option maxRecDepth 20000 in
theorem sk_L_law_1564 (F : Nat) (L : Nat) (xs : Nat → Int) {h18 : AK} (hh18 : Snd (XS L xs) RL cL_law 4 21 18 h18) : Snd (XS L xs) RL cL_law 4 21 1564 (k_L_law_1564 F L xs h18) := by
  unfold k_L_law_1564
  exact snd_aload_n (pc := 1564) (i := 1) dL_law_1564 (snd_aload_n (pc := 1565) (i := 0) dL_law_1565 (snd_iload_n (pc := 1566) (i := 3) dL_law_1566 (snd_iconst (pc := 1567) dL_law_1567 (snd_iadd (pc := 1568) dL_law_1568 (snd_sld (pc := 1569) dL_law_1569 (snd_aload_n (pc := 1570) (i := 0) dL_law_1570 (snd_iload_n (pc := 1571) (i := 3) dL_law_1571 (snd_iconst (pc := 1572) dL_law_1572 (snd_iadd (pc := 1573) dL_law_1573 (snd_sld (pc := 1574) dL_law_1574 (snd_callV (pc := 1575) (n := 2) cls8 (s_X8_free F) (by decide) (by decide) wd_1202 wd_1199 wd_1200 wd_1201 wd_120 hy_X8_free dL_law_1575 (snd_aload_n (pc := 1578) (i := 2) dL_law_1578 (snd_aload_n (pc := 1579) (i := 0) dL_law_1579 (snd_iload_n (pc := 1580) (i := 3) dL_law_1580 (snd_iconst (pc := 1581) dL_law_1581 (snd_iadd (pc := 1582) dL_law_1582 (snd_sld (pc := 1583) dL_law_1583 (snd_aload_n (pc := 1584) (i := 0) dL_law_1584 (snd_iload_n (pc := 1585) (i := 3) dL_law_1585 (snd_iconst (pc := 1586) dL_law_1586 (snd_iadd (pc := 1587) dL_law_1587 (snd_sld (pc := 1588) dL_law_1588 (snd_callV (pc := 1589) (n := 2) cls9 (s_X9_free F) (by decide) (by decide) wd_1866 wd_1863 wd_1864 wd_1865 wd_129 hy_X9_free dL_law_1589 (snd_icmpeq (pc := 1592) (off := 690) (tgt := 2282) (by decide) dL_law_1592 ((sk_L_law_2282 F L xs hh18)) (snd_iconst (pc := 1595) dL_law_1595 (snd_ireturn dL_law_1596))))))))))))))))))))))))))
noncomputable def k_L_law_1597 (F : Nat) (L : Nat) (xs : Nat → Int) (h18 : AK) : AK := ak_aload 1 (ak_aload 0 (ak_iload 3 (ak_push (vI 1) (ak_iadd (ak_sld L xs (ak_aload 0 (ak_iload 3 (ak_push (vI 2) (ak_iadd (ak_sld L xs (ak_callv 8 2 (m_X8_needs F) (ak_aload 2 (ak_aload 0 (ak_iload 3 (ak_push (vI 1) (ak_iadd (ak_sld L xs (ak_aload 0 (ak_iload 3 (ak_push (vI 2) (ak_iadd (ak_sld L xs (ak_callv 9 2 (m_X9_needs F) (ak_cmpeq ((k_L_law_2282 F L xs h18)) (ak_push (vI 0) ak_ireturn)))))))))))))))))))))))))
set_option maxRecDepth 20000 in
theorem sk_L_law_1597 (F : Nat) (L : Nat) (xs : Nat → Int) {h18 : AK} (hh18 : Snd (XS L xs) RL cL_law 4 21 18 h18) : Snd (XS L xs) RL cL_law 4 21 1597 (k_L_law_1597 F L xs h18) := by
  unfold k_L_law_1597
  exact snd_aload_n (pc := 1597) (i := 1) dL_law_1597 (snd_aload_n (pc := 1598) (i := 0) dL_law_1598 (snd_iload_n (pc := 1599) (i := 3) dL_law_1599 (snd_iconst (pc := 1600) dL_law_1600 (snd_iadd (pc := 1601) dL_law_1601 (snd_sld (pc := 1602) dL_law_1602 (snd_aload_n (pc := 1603) (i := 0) dL_law_1603 (snd_iload_n (pc := 1604) (i := 3) dL_law_1604 (snd_iconst (pc := 1605) dL_law_1605 (snd_iadd (pc := 1606) dL_law_1606 (snd_sld (pc := 1607) dL_law_1607 (snd_callV (pc := 1608) (n := 2) cls8 (s_X8_needs F) (by decide) (by decide) wd_1267 wd_1264 wd_1265 wd_1266 wd_120 hy_X8_needs dL_law_1608 (snd_aload_n (pc := 1611) (i := 2) dL_law_1611 (snd_aload_n (pc := 1612) (i := 0) dL_law_1612 (snd_iload_n (pc := 1613) (i := 3) dL_law_1613 (snd_iconst (pc := 1614) dL_law_1614 (snd_iadd (pc := 1615) dL_law_1615 (snd_sld (pc := 1616) dL_law_1616 (snd_aload_n (pc := 1617) (i := 0) dL_law_1617 (snd_iload_n (pc := 1618) (i := 3) dL_law_1618 (snd_iconst (pc := 1619) dL_law_1619 (snd_iadd (pc := 1620) dL_law_1620 (snd_sld (pc := 1621) dL_law_1621 (snd_callV (pc := 1622) (n := 2) cls9 (s_X9_needs F) (by decide) (by decide) wd_1870 wd_1867 wd_1868 wd_1869 wd_129 hy_X9_needs dL_law_1622 (snd_icmpeq (pc := 1625) (off := 657) (tgt := 2282) (by decide) dL_law_1625 ((sk_L_law_2282 F L xs hh18)) (snd_iconst (pc := 1628) dL_law_1628 (snd_ireturn dL_law_1629))))))))))))))))))))))))))
noncomputable def k_L_law_1681 (F : Nat) (L : Nat) (xs : Nat → Int) (h18 : AK) : AK := ak_callv 9 3 (m_X9_live F) (ak_cmpeq ((k_L_law_2282 F L xs h18)) (ak_push (vI 0) ak_ireturn))
set_option maxRecDepth 20000 in
theorem sk_L_law_1681 (F : Nat) (L : Nat) (xs : Nat → Int) {h18 : AK} (hh18 : Snd (XS L xs) RL cL_law 4 21 18 h18) : Snd (XS L xs) RL cL_law 4 21 1681 (k_L_law_1681 F L xs h18) := by
  unfold k_L_law_1681
  exact snd_callV (pc := 1681) (n := 3) cls9 (s_X9_live F) (by decide) (by decide) wd_1878 wd_1875 wd_1876 wd_1877 wd_129 hy_X9_live dL_law_1681 (snd_icmpeq (pc := 1684) (off := 598) (tgt := 2282) (by decide) dL_law_1684 ((sk_L_law_2282 F L xs hh18)) (snd_iconst (pc := 1687) dL_law_1687 (snd_ireturn dL_law_1688)))
noncomputable def k_L_law_1654 (F : Nat) (L : Nat) (xs : Nat → Int) (h18 : AK) : AK := ak_callv 8 3 (m_X8_live F) (ak_aload 2 (ak_aload 0 (ak_iload 3 (ak_push (vI 1) (ak_iadd (ak_sld L xs (ak_aload 0 (ak_iload 3 (ak_push (vI 2) (ak_iadd (ak_sld L xs (ak_aload 0 (ak_iload 3 (ak_push (vI 3) (ak_iadd (ak_sld L xs (ak_ifeq (ak_push (vI 0) ((k_L_law_1681 F L xs h18))) (ak_push (vI 1) ((k_L_law_1681 F L xs h18))))))))))))))))))))
set_option maxRecDepth 20000 in
theorem sk_L_law_1654 (F : Nat) (L : Nat) (xs : Nat → Int) {h18 : AK} (hh18 : Snd (XS L xs) RL cL_law 4 21 18 h18) : Snd (XS L xs) RL cL_law 4 21 1654 (k_L_law_1654 F L xs h18) := by
  unfold k_L_law_1654
  exact snd_callV (pc := 1654) (n := 3) cls8 (s_X8_live F) (by decide) (by decide) wd_1278 wd_1275 wd_1276 wd_1277 wd_120 hy_X8_live dL_law_1654 (snd_aload_n (pc := 1657) (i := 2) dL_law_1657 (snd_aload_n (pc := 1658) (i := 0) dL_law_1658 (snd_iload_n (pc := 1659) (i := 3) dL_law_1659 (snd_iconst (pc := 1660) dL_law_1660 (snd_iadd (pc := 1661) dL_law_1661 (snd_sld (pc := 1662) dL_law_1662 (snd_aload_n (pc := 1663) (i := 0) dL_law_1663 (snd_iload_n (pc := 1664) (i := 3) dL_law_1664 (snd_iconst (pc := 1665) dL_law_1665 (snd_iadd (pc := 1666) dL_law_1666 (snd_sld (pc := 1667) dL_law_1667 (snd_aload_n (pc := 1668) (i := 0) dL_law_1668 (snd_iload_n (pc := 1669) (i := 3) dL_law_1669 (snd_iconst (pc := 1670) dL_law_1670 (snd_iadd (pc := 1671) dL_law_1671 (snd_sld (pc := 1672) dL_law_1672 (snd_ifeq (pc := 1673) (off := 7) (tgt := 1680) (by decide) dL_law_1673 (snd_iconst (pc := 1680) dL_law_1680 ((sk_L_law_1681 F L xs hh18))) (snd_iconst (pc := 1676) dL_law_1676 (snd_goto (pc := 1677) (off := 4) (tgt := 1681) (by decide) dL_law_1677 ((sk_L_law_1681 F L xs hh18)))))))))))))))))))))
noncomputable def k_L_law_1630 (F : Nat) (L : Nat) (xs : Nat → Int) (h18 : AK) : AK := ak_aload 1 (ak_aload 0 (ak_iload 3 (ak_push (vI 1) (ak_iadd (ak_sld L xs (ak_aload 0 (ak_iload 3 (ak_push (vI 2) (ak_iadd (ak_sld L xs (ak_aload 0 (ak_iload 3 (ak_push (vI 3) (ak_iadd (ak_sld L xs (ak_ifeq (ak_push (vI 0) ((k_L_law_1654 F L xs h18))) (ak_push (vI 1) ((k_L_law_1654 F L xs h18)))))))))))))))))))
set_option maxRecDepth 20000 in
theorem sk_L_law_1630 (F : Nat) (L : Nat) (xs : Nat → Int) {h18 : AK} (hh18 : Snd (XS L xs) RL cL_law 4 21 18 h18) : Snd (XS L xs) RL cL_law 4 21 1630 (k_L_law_1630 F L xs h18) := by
  unfold k_L_law_1630
  exact snd_aload_n (pc := 1630) (i := 1) dL_law_1630 (snd_aload_n (pc := 1631) (i := 0) dL_law_1631 (snd_iload_n (pc := 1632) (i := 3) dL_law_1632 (snd_iconst (pc := 1633) dL_law_1633 (snd_iadd (pc := 1634) dL_law_1634 (snd_sld (pc := 1635) dL_law_1635 (snd_aload_n (pc := 1636) (i := 0) dL_law_1636 (snd_iload_n (pc := 1637) (i := 3) dL_law_1637 (snd_iconst (pc := 1638) dL_law_1638 (snd_iadd (pc := 1639) dL_law_1639 (snd_sld (pc := 1640) dL_law_1640 (snd_aload_n (pc := 1641) (i := 0) dL_law_1641 (snd_iload_n (pc := 1642) (i := 3) dL_law_1642 (snd_iconst (pc := 1643) dL_law_1643 (snd_iadd (pc := 1644) dL_law_1644 (snd_sld (pc := 1645) dL_law_1645 (snd_ifeq (pc := 1646) (off := 7) (tgt := 1653) (by decide) dL_law_1646 (snd_iconst (pc := 1653) dL_law_1653 ((sk_L_law_1654 F L xs hh18))) (snd_iconst (pc := 1649) dL_law_1649 (snd_goto (pc := 1650) (off := 4) (tgt := 1654) (by decide) dL_law_1650 ((sk_L_law_1654 F L xs hh18))))))))))))))))))))
noncomputable def k_L_law_1689 (F : Nat) (L : Nat) (xs : Nat → Int) (h18 : AK) : AK := ak_aload 1 (ak_aload 0 (ak_iload 3 (ak_push (vI 1) (ak_iadd (ak_sld L xs (ak_aload 0 (ak_iload 3 (ak_push (vI 2) (ak_iadd (ak_sld L xs (ak_callv 8 2 (m_X8_left F) (ak_aload 2 (ak_aload 0 (ak_iload 3 (ak_push (vI 1) (ak_iadd (ak_sld L xs (ak_aload 0 (ak_iload 3 (ak_push (vI 2) (ak_iadd (ak_sld L xs (ak_callv 9 2 (m_X9_left F) (ak_cmpeq ((k_L_law_2282 F L xs h18)) (ak_push (vI 0) ak_ireturn)))))))))))))))))))))))))
set_option maxRecDepth 20000 in
theorem sk_L_law_1689 (F : Nat) (L : Nat) (xs : Nat → Int) {h18 : AK} (hh18 : Snd (XS L xs) RL cL_law 4 21 18 h18) : Snd (XS L xs) RL cL_law 4 21 1689 (k_L_law_1689 F L xs h18) := by
  unfold k_L_law_1689
  exact snd_aload_n (pc := 1689) (i := 1) dL_law_1689 (snd_aload_n (pc := 1690) (i := 0) dL_law_1690 (snd_iload_n (pc := 1691) (i := 3) dL_law_1691 (snd_iconst (pc := 1692) dL_law_1692 (snd_iadd (pc := 1693) dL_law_1693 (snd_sld (pc := 1694) dL_law_1694 (snd_aload_n (pc := 1695) (i := 0) dL_law_1695 (snd_iload_n (pc := 1696) (i := 3) dL_law_1696 (snd_iconst (pc := 1697) dL_law_1697 (snd_iadd (pc := 1698) dL_law_1698 (snd_sld (pc := 1699) dL_law_1699 (snd_callV (pc := 1700) (n := 2) cls8 (s_X8_left F) (by decide) (by decide) wd_1286 wd_1283 wd_1284 wd_1285 wd_120 hy_X8_left dL_law_1700 (snd_aload_n (pc := 1703) (i := 2) dL_law_1703 (snd_aload_n (pc := 1704) (i := 0) dL_law_1704 (snd_iload_n (pc := 1705) (i := 3) dL_law_1705 (snd_iconst (pc := 1706) dL_law_1706 (snd_iadd (pc := 1707) dL_law_1707 (snd_sld (pc := 1708) dL_law_1708 (snd_aload_n (pc := 1709) (i := 0) dL_law_1709 (snd_iload_n (pc := 1710) (i := 3) dL_law_1710 (snd_iconst (pc := 1711) dL_law_1711 (snd_iadd (pc := 1712) dL_law_1712 (snd_sld (pc := 1713) dL_law_1713 (snd_callV (pc := 1714) (n := 2) cls9 (s_X9_left F) (by decide) (by decide) wd_1882 wd_1879 wd_1880 wd_1881 wd_129 hy_X9_left dL_law_1714 (snd_icmpeq (pc := 1717) (off := 565) (tgt := 2282) (by decide) dL_law_1717 ((sk_L_law_2282 F L xs hh18)) (snd_iconst (pc := 1720) dL_law_1720 (snd_ireturn dL_law_1721))))))))))))))))))))))))))
noncomputable def k_L_law_1722 (F : Nat) (L : Nat) (xs : Nat → Int) (h18 : AK) : AK := ak_aload 1 (ak_aload 0 (ak_iload 3 (ak_push (vI 1) (ak_iadd (ak_sld L xs (ak_aload 0 (ak_iload 3 (ak_push (vI 2) (ak_iadd (ak_sld L xs (ak_aload 0 (ak_iload 3 (ak_push (vI 3) (ak_iadd (ak_sld L xs (ak_callv 8 3 (m_X8_minutes F) (ak_aload 2 (ak_aload 0 (ak_iload 3 (ak_push (vI 1) (ak_iadd (ak_sld L xs (ak_aload 0 (ak_iload 3 (ak_push (vI 2) (ak_iadd (ak_sld L xs (ak_aload 0 (ak_iload 3 (ak_push (vI 3) (ak_iadd (ak_sld L xs (ak_callv 9 3 (m_X9_minutes F) (ak_cmpeq ((k_L_law_2282 F L xs h18)) (ak_push (vI 0) ak_ireturn)))))))))))))))))))))))))))))))))))
set_option maxRecDepth 20000 in
theorem sk_L_law_1722 (F : Nat) (L : Nat) (xs : Nat → Int) {h18 : AK} (hh18 : Snd (XS L xs) RL cL_law 4 21 18 h18) : Snd (XS L xs) RL cL_law 4 21 1722 (k_L_law_1722 F L xs h18) := by
  unfold k_L_law_1722
  exact snd_aload_n (pc := 1722) (i := 1) dL_law_1722 (snd_aload_n (pc := 1723) (i := 0) dL_law_1723 (snd_iload_n (pc := 1724) (i := 3) dL_law_1724 (snd_iconst (pc := 1725) dL_law_1725 (snd_iadd (pc := 1726) dL_law_1726 (snd_sld (pc := 1727) dL_law_1727 (snd_aload_n (pc := 1728) (i := 0) dL_law_1728 (snd_iload_n (pc := 1729) (i := 3) dL_law_1729 (snd_iconst (pc := 1730) dL_law_1730 (snd_iadd (pc := 1731) dL_law_1731 (snd_sld (pc := 1732) dL_law_1732 (snd_aload_n (pc := 1733) (i := 0) dL_law_1733 (snd_iload_n (pc := 1734) (i := 3) dL_law_1734 (snd_iconst (pc := 1735) dL_law_1735 (snd_iadd (pc := 1736) dL_law_1736 (snd_sld (pc := 1737) dL_law_1737 (snd_callV (pc := 1738) (n := 3) cls8 (s_X8_minutes F) (by decide) (by decide) wd_1296 wd_1293 wd_1294 wd_1295 wd_120 hy_X8_minutes dL_law_1738 (snd_aload_n (pc := 1741) (i := 2) dL_law_1741 (snd_aload_n (pc := 1742) (i := 0) dL_law_1742 (snd_iload_n (pc := 1743) (i := 3) dL_law_1743 (snd_iconst (pc := 1744) dL_law_1744 (snd_iadd (pc := 1745) dL_law_1745 (snd_sld (pc := 1746) dL_law_1746 (snd_aload_n (pc := 1747) (i := 0) dL_law_1747 (snd_iload_n (pc := 1748) (i := 3) dL_law_1748 (snd_iconst (pc := 1749) dL_law_1749 (snd_iadd (pc := 1750) dL_law_1750 (snd_sld (pc := 1751) dL_law_1751 (snd_aload_n (pc := 1752) (i := 0) dL_law_1752 (snd_iload_n (pc := 1753) (i := 3) dL_law_1753 (snd_iconst (pc := 1754) dL_law_1754 (snd_iadd (pc := 1755) dL_law_1755 (snd_sld (pc := 1756) dL_law_1756 (snd_callV (pc := 1757) (n := 3) cls9 (s_X9_minutes F) (by decide) (by decide) wd_1886 wd_1883 wd_1884 wd_1885 wd_129 hy_X9_minutes dL_law_1757 (snd_icmpeq (pc := 1760) (off := 522) (tgt := 2282) (by decide) dL_law_1760 ((sk_L_law_2282 F L xs hh18)) (snd_iconst (pc := 1763) dL_law_1763 (snd_ireturn dL_law_1764))))))))))))))))))))))))))))))))))))
noncomputable def k_L_law_1765 (F : Nat) (L : Nat) (xs : Nat → Int) (h18 : AK) : AK := ak_aload 1 (ak_aload 0 (ak_iload 3 (ak_push (vI 1) (ak_iadd (ak_sld L xs (ak_aload 0 (ak_iload 3 (ak_push (vI 2) (ak_iadd (ak_sld L xs (ak_aload 0 (ak_iload 3 (ak_push (vI 3) (ak_iadd (ak_sld L xs (ak_aload 0 (ak_iload 3 (ak_push (vI 4) (ak_iadd (ak_sld L xs (ak_callv 8 4 (m_X8_days F) (ak_aload 2 (ak_aload 0 (ak_iload 3 (ak_push (vI 1) (ak_iadd (ak_sld L xs (ak_aload 0 (ak_iload 3 (ak_push (vI 2) (ak_iadd (ak_sld L xs (ak_aload 0 (ak_iload 3 (ak_push (vI 3) (ak_iadd (ak_sld L xs (ak_aload 0 (ak_iload 3 (ak_push (vI 4) (ak_iadd (ak_sld L xs (ak_callv 9 4 (m_X9_days F) (ak_cmpeq ((k_L_law_2282 F L xs h18)) (ak_push (vI 0) ak_ireturn)))))))))))))))))))))))))))))))))))))))))))))
set_option maxRecDepth 20000 in
theorem sk_L_law_1765 (F : Nat) (L : Nat) (xs : Nat → Int) {h18 : AK} (hh18 : Snd (XS L xs) RL cL_law 4 21 18 h18) : Snd (XS L xs) RL cL_law 4 21 1765 (k_L_law_1765 F L xs h18) := by
  unfold k_L_law_1765
  exact snd_aload_n (pc := 1765) (i := 1) dL_law_1765 (snd_aload_n (pc := 1766) (i := 0) dL_law_1766 (snd_iload_n (pc := 1767) (i := 3) dL_law_1767 (snd_iconst (pc := 1768) dL_law_1768 (snd_iadd (pc := 1769) dL_law_1769 (snd_sld (pc := 1770) dL_law_1770 (snd_aload_n (pc := 1771) (i := 0) dL_law_1771 (snd_iload_n (pc := 1772) (i := 3) dL_law_1772 (snd_iconst (pc := 1773) dL_law_1773 (snd_iadd (pc := 1774) dL_law_1774 (snd_sld (pc := 1775) dL_law_1775 (snd_aload_n (pc := 1776) (i := 0) dL_law_1776 (snd_iload_n (pc := 1777) (i := 3) dL_law_1777 (snd_iconst (pc := 1778) dL_law_1778 (snd_iadd (pc := 1779) dL_law_1779 (snd_sld (pc := 1780) dL_law_1780 (snd_aload_n (pc := 1781) (i := 0) dL_law_1781 (snd_iload_n (pc := 1782) (i := 3) dL_law_1782 (snd_iconst (pc := 1783) dL_law_1783 (snd_iadd (pc := 1784) dL_law_1784 (snd_sld (pc := 1785) dL_law_1785 (snd_callV (pc := 1786) (n := 4) cls8 (s_X8_days F) (by decide) (by decide) wd_1258 wd_1255 wd_1256 wd_1257 wd_120 hy_X8_days dL_law_1786 (snd_aload_n (pc := 1789) (i := 2) dL_law_1789 (snd_aload_n (pc := 1790) (i := 0) dL_law_1790 (snd_iload_n (pc := 1791) (i := 3) dL_law_1791 (snd_iconst (pc := 1792) dL_law_1792 (snd_iadd (pc := 1793) dL_law_1793 (snd_sld (pc := 1794) dL_law_1794 (snd_aload_n (pc := 1795) (i := 0) dL_law_1795 (snd_iload_n (pc := 1796) (i := 3) dL_law_1796 (snd_iconst (pc := 1797) dL_law_1797 (snd_iadd (pc := 1798) dL_law_1798 (snd_sld (pc := 1799) dL_law_1799 (snd_aload_n (pc := 1800) (i := 0) dL_law_1800 (snd_iload_n (pc := 1801) (i := 3) dL_law_1801 (snd_iconst (pc := 1802) dL_law_1802 (snd_iadd (pc := 1803) dL_law_1803 (snd_sld (pc := 1804) dL_law_1804 (snd_aload_n (pc := 1805) (i := 0) dL_law_1805 (snd_iload_n (pc := 1806) (i := 3) dL_law_1806 (snd_iconst (pc := 1807) dL_law_1807 (snd_iadd (pc := 1808) dL_law_1808 (snd_sld (pc := 1809) dL_law_1809 (snd_callV (pc := 1810) (n := 4) cls9 (s_X9_days F) (by decide) (by decide) wd_1890 wd_1887 wd_1888 wd_1889 wd_129 hy_X9_days dL_law_1810 (snd_icmpeq (pc := 1813) (off := 469) (tgt := 2282) (by decide) dL_law_1813 ((sk_L_law_2282 F L xs hh18)) (snd_iconst (pc := 1816) dL_law_1816 (snd_ireturn dL_law_1817))))))))))))))))))))))))))))))))))))))))))))))
noncomputable def k_L_law_1879 (F : Nat) (L : Nat) (xs : Nat → Int) (h18 : AK) : AK := ak_callv 9 4 (m_X9_visits F) (ak_cmpeq ((k_L_law_2282 F L xs h18)) (ak_push (vI 0) ak_ireturn))
set_option maxRecDepth 20000 in
theorem sk_L_law_1879 (F : Nat) (L : Nat) (xs : Nat → Int) {h18 : AK} (hh18 : Snd (XS L xs) RL cL_law 4 21 18 h18) : Snd (XS L xs) RL cL_law 4 21 1879 (k_L_law_1879 F L xs h18) := by
  unfold k_L_law_1879
  exact snd_callV (pc := 1879) (n := 4) cls9 (s_X9_visits F) (by decide) (by decide) wd_1899 wd_1896 wd_1897 wd_1898 wd_129 hy_X9_visits dL_law_1879 (snd_icmpeq (pc := 1882) (off := 400) (tgt := 2282) (by decide) dL_law_1882 ((sk_L_law_2282 F L xs hh18)) (snd_iconst (pc := 1885) dL_law_1885 (snd_ireturn dL_law_1886)))
noncomputable def k_L_law_1847 (F : Nat) (L : Nat) (xs : Nat → Int) (h18 : AK) : AK := ak_callv 8 4 (m_X8_visits F) (ak_aload 2 (ak_aload 0 (ak_iload 3 (ak_push (vI 1) (ak_iadd (ak_sld L xs (ak_aload 0 (ak_iload 3 (ak_push (vI 2) (ak_iadd (ak_sld L xs (ak_aload 0 (ak_iload 3 (ak_push (vI 3) (ak_iadd (ak_sld L xs (ak_aload 0 (ak_iload 3 (ak_push (vI 4) (ak_iadd (ak_sld L xs (ak_ifeq (ak_push (vI 0) ((k_L_law_1879 F L xs h18))) (ak_push (vI 1) ((k_L_law_1879 F L xs h18)))))))))))))))))))))))))
set_option maxRecDepth 20000 in
theorem sk_L_law_1847 (F : Nat) (L : Nat) (xs : Nat → Int) {h18 : AK} (hh18 : Snd (XS L xs) RL cL_law 4 21 18 h18) : Snd (XS L xs) RL cL_law 4 21 1847 (k_L_law_1847 F L xs h18) := by
  unfold k_L_law_1847
  exact snd_callV (pc := 1847) (n := 4) cls8 (s_X8_visits F) (by decide) (by decide) wd_1210 wd_1207 wd_1208 wd_1209 wd_120 hy_X8_visits dL_law_1847 (snd_aload_n (pc := 1850) (i := 2) dL_law_1850 (snd_aload_n (pc := 1851) (i := 0) dL_law_1851 (snd_iload_n (pc := 1852) (i := 3) dL_law_1852 (snd_iconst (pc := 1853) dL_law_1853 (snd_iadd (pc := 1854) dL_law_1854 (snd_sld (pc := 1855) dL_law_1855 (snd_aload_n (pc := 1856) (i := 0) dL_law_1856 (snd_iload_n (pc := 1857) (i := 3) dL_law_1857 (snd_iconst (pc := 1858) dL_law_1858 (snd_iadd (pc := 1859) dL_law_1859 (snd_sld (pc := 1860) dL_law_1860 (snd_aload_n (pc := 1861) (i := 0) dL_law_1861 (snd_iload_n (pc := 1862) (i := 3) dL_law_1862 (snd_iconst (pc := 1863) dL_law_1863 (snd_iadd (pc := 1864) dL_law_1864 (snd_sld (pc := 1865) dL_law_1865 (snd_aload_n (pc := 1866) (i := 0) dL_law_1866 (snd_iload_n (pc := 1867) (i := 3) dL_law_1867 (snd_iconst (pc := 1868) dL_law_1868 (snd_iadd (pc := 1869) dL_law_1869 (snd_sld (pc := 1870) dL_law_1870 (snd_ifeq (pc := 1871) (off := 7) (tgt := 1878) (by decide) dL_law_1871 (snd_iconst (pc := 1878) dL_law_1878 ((sk_L_law_1879 F L xs hh18))) (snd_iconst (pc := 1874) dL_law_1874 (snd_goto (pc := 1875) (off := 4) (tgt := 1879) (by decide) dL_law_1875 ((sk_L_law_1879 F L xs hh18))))))))))))))))))))))))))
noncomputable def k_L_law_1818 (F : Nat) (L : Nat) (xs : Nat → Int) (h18 : AK) : AK := ak_aload 1 (ak_aload 0 (ak_iload 3 (ak_push (vI 1) (ak_iadd (ak_sld L xs (ak_aload 0 (ak_iload 3 (ak_push (vI 2) (ak_iadd (ak_sld L xs (ak_aload 0 (ak_iload 3 (ak_push (vI 3) (ak_iadd (ak_sld L xs (ak_aload 0 (ak_iload 3 (ak_push (vI 4) (ak_iadd (ak_sld L xs (ak_ifeq (ak_push (vI 0) ((k_L_law_1847 F L xs h18))) (ak_push (vI 1) ((k_L_law_1847 F L xs h18))))))))))))))))))))))))
set_option maxRecDepth 20000 in
theorem sk_L_law_1818 (F : Nat) (L : Nat) (xs : Nat → Int) {h18 : AK} (hh18 : Snd (XS L xs) RL cL_law 4 21 18 h18) : Snd (XS L xs) RL cL_law 4 21 1818 (k_L_law_1818 F L xs h18) := by
  unfold k_L_law_1818
  exact snd_aload_n (pc := 1818) (i := 1) dL_law_1818 (snd_aload_n (pc := 1819) (i := 0) dL_law_1819 (snd_iload_n (pc := 1820) (i := 3) dL_law_1820 (snd_iconst (pc := 1821) dL_law_1821 (snd_iadd (pc := 1822) dL_law_1822 (snd_sld (pc := 1823) dL_law_1823 (snd_aload_n (pc := 1824) (i := 0) dL_law_1824 (snd_iload_n (pc := 1825) (i := 3) dL_law_1825 (snd_iconst (pc := 1826) dL_law_1826 (snd_iadd (pc := 1827) dL_law_1827 (snd_sld (pc := 1828) dL_law_1828 (snd_aload_n (pc := 1829) (i := 0) dL_law_1829 (snd_iload_n (pc := 1830) (i := 3) dL_law_1830 (snd_iconst (pc := 1831) dL_law_1831 (snd_iadd (pc := 1832) dL_law_1832 (snd_sld (pc := 1833) dL_law_1833 (snd_aload_n (pc := 1834) (i := 0) dL_law_1834 (snd_iload_n (pc := 1835) (i := 3) dL_law_1835 (snd_iconst (pc := 1836) dL_law_1836 (snd_iadd (pc := 1837) dL_law_1837 (snd_sld (pc := 1838) dL_law_1838 (snd_ifeq (pc := 1839) (off := 7) (tgt := 1846) (by decide) dL_law_1839 (snd_iconst (pc := 1846) dL_law_1846 ((sk_L_law_1847 F L xs hh18))) (snd_iconst (pc := 1842) dL_law_1842 (snd_goto (pc := 1843) (off := 4) (tgt := 1847) (by decide) dL_law_1843 ((sk_L_law_1847 F L xs hh18)))))))))))))))))))))))))
noncomputable def k_L_law_1887 (F : Nat) (L : Nat) (xs : Nat → Int) (h18 : AK) : AK := ak_aload 1 (ak_aload 0 (ak_iload 3 (ak_push (vI 1) (ak_iadd (ak_sld L xs (ak_aload 0 (ak_iload 3 (ak_push (vI 2) (ak_iadd (ak_sld L xs (ak_aload 0 (ak_iload 3 (ak_push (vI 3) (ak_iadd (ak_sld L xs (ak_callv 8 3 (m_X8_whole F) (ak_aload 2 (ak_aload 0 (ak_iload 3 (ak_push (vI 1) (ak_iadd (ak_sld L xs (ak_aload 0 (ak_iload 3 (ak_push (vI 2) (ak_iadd (ak_sld L xs (ak_aload 0 (ak_iload 3 (ak_push (vI 3) (ak_iadd (ak_sld L xs (ak_callv 9 3 (m_X9_whole F) (ak_cmpeq ((k_L_law_2282 F L xs h18)) (ak_push (vI 0) ak_ireturn)))))))))))))))))))))))))))))))))))
set_option maxRecDepth 20000 in
theorem sk_L_law_1887 (F : Nat) (L : Nat) (xs : Nat → Int) {h18 : AK} (hh18 : Snd (XS L xs) RL cL_law 4 21 18 h18) : Snd (XS L xs) RL cL_law 4 21 1887 (k_L_law_1887 F L xs h18) := by
  unfold k_L_law_1887
  exact snd_aload_n (pc := 1887) (i := 1) dL_law_1887 (snd_aload_n (pc := 1888) (i := 0) dL_law_1888 (snd_iload_n (pc := 1889) (i := 3) dL_law_1889 (snd_iconst (pc := 1890) dL_law_1890 (snd_iadd (pc := 1891) dL_law_1891 (snd_sld (pc := 1892) dL_law_1892 (snd_aload_n (pc := 1893) (i := 0) dL_law_1893 (snd_iload_n (pc := 1894) (i := 3) dL_law_1894 (snd_iconst (pc := 1895) dL_law_1895 (snd_iadd (pc := 1896) dL_law_1896 (snd_sld (pc := 1897) dL_law_1897 (snd_aload_n (pc := 1898) (i := 0) dL_law_1898 (snd_iload_n (pc := 1899) (i := 3) dL_law_1899 (snd_iconst (pc := 1900) dL_law_1900 (snd_iadd (pc := 1901) dL_law_1901 (snd_sld (pc := 1902) dL_law_1902 (snd_callV (pc := 1903) (n := 3) cls8 (s_X8_whole F) (by decide) (by decide) wd_1214 wd_1211 wd_1212 wd_1213 wd_120 hy_X8_whole dL_law_1903 (snd_aload_n (pc := 1906) (i := 2) dL_law_1906 (snd_aload_n (pc := 1907) (i := 0) dL_law_1907 (snd_iload_n (pc := 1908) (i := 3) dL_law_1908 (snd_iconst (pc := 1909) dL_law_1909 (snd_iadd (pc := 1910) dL_law_1910 (snd_sld (pc := 1911) dL_law_1911 (snd_aload_n (pc := 1912) (i := 0) dL_law_1912 (snd_iload_n (pc := 1913) (i := 3) dL_law_1913 (snd_iconst (pc := 1914) dL_law_1914 (snd_iadd (pc := 1915) dL_law_1915 (snd_sld (pc := 1916) dL_law_1916 (snd_aload_n (pc := 1917) (i := 0) dL_law_1917 (snd_iload_n (pc := 1918) (i := 3) dL_law_1918 (snd_iconst (pc := 1919) dL_law_1919 (snd_iadd (pc := 1920) dL_law_1920 (snd_sld (pc := 1921) dL_law_1921 (snd_callV (pc := 1922) (n := 3) cls9 (s_X9_whole F) (by decide) (by decide) wd_1903 wd_1900 wd_1901 wd_1902 wd_129 hy_X9_whole dL_law_1922 (snd_icmpeq (pc := 1925) (off := 357) (tgt := 2282) (by decide) dL_law_1925 ((sk_L_law_2282 F L xs hh18)) (snd_iconst (pc := 1928) dL_law_1928 (snd_ireturn dL_law_1929))))))))))))))))))))))))))))))))))))
noncomputable def k_L_law_1930 (F : Nat) (L : Nat) (xs : Nat → Int) (h18 : AK) : AK := ak_aload 1 (ak_aload 0 (ak_iload 3 (ak_push (vI 1) (ak_iadd (ak_sld L xs (ak_aload 0 (ak_iload 3 (ak_push (vI 2) (ak_iadd (ak_sld L xs (ak_aload 0 (ak_iload 3 (ak_push (vI 3) (ak_iadd (ak_sld L xs (ak_callv 8 3 (m_X8_still F) (ak_aload 2 (ak_aload 0 (ak_iload 3 (ak_push (vI 1) (ak_iadd (ak_sld L xs (ak_aload 0 (ak_iload 3 (ak_push (vI 2) (ak_iadd (ak_sld L xs (ak_aload 0 (ak_iload 3 (ak_push (vI 3) (ak_iadd (ak_sld L xs (ak_callv 9 3 (m_X9_still F) (ak_cmpeq ((k_L_law_2282 F L xs h18)) (ak_push (vI 0) ak_ireturn)))))))))))))))))))))))))))))))))))
set_option maxRecDepth 20000 in
theorem sk_L_law_1930 (F : Nat) (L : Nat) (xs : Nat → Int) {h18 : AK} (hh18 : Snd (XS L xs) RL cL_law 4 21 18 h18) : Snd (XS L xs) RL cL_law 4 21 1930 (k_L_law_1930 F L xs h18) := by
  unfold k_L_law_1930
  exact snd_aload_n (pc := 1930) (i := 1) dL_law_1930 (snd_aload_n (pc := 1931) (i := 0) dL_law_1931 (snd_iload_n (pc := 1932) (i := 3) dL_law_1932 (snd_iconst (pc := 1933) dL_law_1933 (snd_iadd (pc := 1934) dL_law_1934 (snd_sld (pc := 1935) dL_law_1935 (snd_aload_n (pc := 1936) (i := 0) dL_law_1936 (snd_iload_n (pc := 1937) (i := 3) dL_law_1937 (snd_iconst (pc := 1938) dL_law_1938 (snd_iadd (pc := 1939) dL_law_1939 (snd_sld (pc := 1940) dL_law_1940 (snd_aload_n (pc := 1941) (i := 0) dL_law_1941 (snd_iload_n (pc := 1942) (i := 3) dL_law_1942 (snd_iconst (pc := 1943) dL_law_1943 (snd_iadd (pc := 1944) dL_law_1944 (snd_sld (pc := 1945) dL_law_1945 (snd_callV (pc := 1946) (n := 3) cls8 (s_X8_still F) (by decide) (by decide) wd_1226 wd_1223 wd_1224 wd_1225 wd_120 hy_X8_still dL_law_1946 (snd_aload_n (pc := 1949) (i := 2) dL_law_1949 (snd_aload_n (pc := 1950) (i := 0) dL_law_1950 (snd_iload_n (pc := 1951) (i := 3) dL_law_1951 (snd_iconst (pc := 1952) dL_law_1952 (snd_iadd (pc := 1953) dL_law_1953 (snd_sld (pc := 1954) dL_law_1954 (snd_aload_n (pc := 1955) (i := 0) dL_law_1955 (snd_iload_n (pc := 1956) (i := 3) dL_law_1956 (snd_iconst (pc := 1957) dL_law_1957 (snd_iadd (pc := 1958) dL_law_1958 (snd_sld (pc := 1959) dL_law_1959 (snd_aload_n (pc := 1960) (i := 0) dL_law_1960 (snd_iload_n (pc := 1961) (i := 3) dL_law_1961 (snd_iconst (pc := 1962) dL_law_1962 (snd_iadd (pc := 1963) dL_law_1963 (snd_sld (pc := 1964) dL_law_1964 (snd_callV (pc := 1965) (n := 3) cls9 (s_X9_still F) (by decide) (by decide) wd_1911 wd_1908 wd_1909 wd_1910 wd_129 hy_X9_still dL_law_1965 (snd_icmpeq (pc := 1968) (off := 314) (tgt := 2282) (by decide) dL_law_1968 ((sk_L_law_2282 F L xs hh18)) (snd_iconst (pc := 1971) dL_law_1971 (snd_ireturn dL_law_1972))))))))))))))))))))))))))))))))))))
noncomputable def k_L_law_2034 (F : Nat) (L : Nat) (xs : Nat → Int) (h18 : AK) : AK := ak_callv 9 4 (m_X9_house F) (ak_cmpeq ((k_L_law_2282 F L xs h18)) (ak_push (vI 0) ak_ireturn))
set_option maxRecDepth 20000 in
theorem sk_L_law_2034 (F : Nat) (L : Nat) (xs : Nat → Int) {h18 : AK} (hh18 : Snd (XS L xs) RL cL_law 4 21 18 h18) : Snd (XS L xs) RL cL_law 4 21 2034 (k_L_law_2034 F L xs h18) := by
  unfold k_L_law_2034
  exact snd_callV (pc := 2034) (n := 4) cls9 (s_X9_house F) (by decide) (by decide) wd_1919 wd_1916 wd_1917 wd_1918 wd_129 hy_X9_house dL_law_2034 (snd_icmpeq (pc := 2037) (off := 245) (tgt := 2282) (by decide) dL_law_2037 ((sk_L_law_2282 F L xs hh18)) (snd_iconst (pc := 2040) dL_law_2040 (snd_ireturn dL_law_2041)))
noncomputable def k_L_law_2002 (F : Nat) (L : Nat) (xs : Nat → Int) (h18 : AK) : AK := ak_callv 8 4 (m_X8_house F) (ak_aload 2 (ak_aload 0 (ak_iload 3 (ak_push (vI 1) (ak_iadd (ak_sld L xs (ak_aload 0 (ak_iload 3 (ak_push (vI 2) (ak_iadd (ak_sld L xs (ak_aload 0 (ak_iload 3 (ak_push (vI 3) (ak_iadd (ak_sld L xs (ak_aload 0 (ak_iload 3 (ak_push (vI 4) (ak_iadd (ak_sld L xs (ak_ifeq (ak_push (vI 0) ((k_L_law_2034 F L xs h18))) (ak_push (vI 1) ((k_L_law_2034 F L xs h18)))))))))))))))))))))))))
set_option maxRecDepth 20000 in
theorem sk_L_law_2002 (F : Nat) (L : Nat) (xs : Nat → Int) {h18 : AK} (hh18 : Snd (XS L xs) RL cL_law 4 21 18 h18) : Snd (XS L xs) RL cL_law 4 21 2002 (k_L_law_2002 F L xs h18) := by
  unfold k_L_law_2002
  exact snd_callV (pc := 2002) (n := 4) cls8 (s_X8_house F) (by decide) (by decide) wd_1234 wd_1231 wd_1232 wd_1233 wd_120 hy_X8_house dL_law_2002 (snd_aload_n (pc := 2005) (i := 2) dL_law_2005 (snd_aload_n (pc := 2006) (i := 0) dL_law_2006 (snd_iload_n (pc := 2007) (i := 3) dL_law_2007 (snd_iconst (pc := 2008) dL_law_2008 (snd_iadd (pc := 2009) dL_law_2009 (snd_sld (pc := 2010) dL_law_2010 (snd_aload_n (pc := 2011) (i := 0) dL_law_2011 (snd_iload_n (pc := 2012) (i := 3) dL_law_2012 (snd_iconst (pc := 2013) dL_law_2013 (snd_iadd (pc := 2014) dL_law_2014 (snd_sld (pc := 2015) dL_law_2015 (snd_aload_n (pc := 2016) (i := 0) dL_law_2016 (snd_iload_n (pc := 2017) (i := 3) dL_law_2017 (snd_iconst (pc := 2018) dL_law_2018 (snd_iadd (pc := 2019) dL_law_2019 (snd_sld (pc := 2020) dL_law_2020 (snd_aload_n (pc := 2021) (i := 0) dL_law_2021 (snd_iload_n (pc := 2022) (i := 3) dL_law_2022 (snd_iconst (pc := 2023) dL_law_2023 (snd_iadd (pc := 2024) dL_law_2024 (snd_sld (pc := 2025) dL_law_2025 (snd_ifeq (pc := 2026) (off := 7) (tgt := 2033) (by decide) dL_law_2026 (snd_iconst (pc := 2033) dL_law_2033 ((sk_L_law_2034 F L xs hh18))) (snd_iconst (pc := 2029) dL_law_2029 (snd_goto (pc := 2030) (off := 4) (tgt := 2034) (by decide) dL_law_2030 ((sk_L_law_2034 F L xs hh18))))))))))))))))))))))))))
noncomputable def k_L_law_1973 (F : Nat) (L : Nat) (xs : Nat → Int) (h18 : AK) : AK := ak_aload 1 (ak_aload 0 (ak_iload 3 (ak_push (vI 1) (ak_iadd (ak_sld L xs (ak_aload 0 (ak_iload 3 (ak_push (vI 2) (ak_iadd (ak_sld L xs (ak_aload 0 (ak_iload 3 (ak_push (vI 3) (ak_iadd (ak_sld L xs (ak_aload 0 (ak_iload 3 (ak_push (vI 4) (ak_iadd (ak_sld L xs (ak_ifeq (ak_push (vI 0) ((k_L_law_2002 F L xs h18))) (ak_push (vI 1) ((k_L_law_2002 F L xs h18))))))))))))))))))))))))
set_option maxRecDepth 20000 in
theorem sk_L_law_1973 (F : Nat) (L : Nat) (xs : Nat → Int) {h18 : AK} (hh18 : Snd (XS L xs) RL cL_law 4 21 18 h18) : Snd (XS L xs) RL cL_law 4 21 1973 (k_L_law_1973 F L xs h18) := by
  unfold k_L_law_1973
  exact snd_aload_n (pc := 1973) (i := 1) dL_law_1973 (snd_aload_n (pc := 1974) (i := 0) dL_law_1974 (snd_iload_n (pc := 1975) (i := 3) dL_law_1975 (snd_iconst (pc := 1976) dL_law_1976 (snd_iadd (pc := 1977) dL_law_1977 (snd_sld (pc := 1978) dL_law_1978 (snd_aload_n (pc := 1979) (i := 0) dL_law_1979 (snd_iload_n (pc := 1980) (i := 3) dL_law_1980 (snd_iconst (pc := 1981) dL_law_1981 (snd_iadd (pc := 1982) dL_law_1982 (snd_sld (pc := 1983) dL_law_1983 (snd_aload_n (pc := 1984) (i := 0) dL_law_1984 (snd_iload_n (pc := 1985) (i := 3) dL_law_1985 (snd_iconst (pc := 1986) dL_law_1986 (snd_iadd (pc := 1987) dL_law_1987 (snd_sld (pc := 1988) dL_law_1988 (snd_aload_n (pc := 1989) (i := 0) dL_law_1989 (snd_iload_n (pc := 1990) (i := 3) dL_law_1990 (snd_iconst (pc := 1991) dL_law_1991 (snd_iadd (pc := 1992) dL_law_1992 (snd_sld (pc := 1993) dL_law_1993 (snd_ifeq (pc := 1994) (off := 7) (tgt := 2001) (by decide) dL_law_1994 (snd_iconst (pc := 2001) dL_law_2001 ((sk_L_law_2002 F L xs hh18))) (snd_iconst (pc := 1997) dL_law_1997 (snd_goto (pc := 1998) (off := 4) (tgt := 2002) (by decide) dL_law_1998 ((sk_L_law_2002 F L xs hh18)))))))))))))))))))))))))
noncomputable def k_L_law_2042 (F : Nat) (L : Nat) (xs : Nat → Int) (h18 : AK) : AK := ak_aload 1 (ak_aload 0 (ak_iload 3 (ak_push (vI 1) (ak_iadd (ak_sld L xs (ak_aload 0 (ak_iload 3 (ak_push (vI 2) (ak_iadd (ak_sld L xs (ak_aload 0 (ak_iload 3 (ak_push (vI 3) (ak_iadd (ak_sld L xs (ak_aload 0 (ak_iload 3 (ak_push (vI 4) (ak_iadd (ak_sld L xs (ak_callv 8 4 (m_X8_moved F) (ak_aload 2 (ak_aload 0 (ak_iload 3 (ak_push (vI 1) (ak_iadd (ak_sld L xs (ak_aload 0 (ak_iload 3 (ak_push (vI 2) (ak_iadd (ak_sld L xs (ak_aload 0 (ak_iload 3 (ak_push (vI 3) (ak_iadd (ak_sld L xs (ak_aload 0 (ak_iload 3 (ak_push (vI 4) (ak_iadd (ak_sld L xs (ak_callv 9 4 (m_X9_moved F) (ak_cmpeq ((k_L_law_2282 F L xs h18)) (ak_push (vI 0) ak_ireturn)))))))))))))))))))))))))))))))))))))))))))))
set_option maxRecDepth 20000 in
theorem sk_L_law_2042 (F : Nat) (L : Nat) (xs : Nat → Int) {h18 : AK} (hh18 : Snd (XS L xs) RL cL_law 4 21 18 h18) : Snd (XS L xs) RL cL_law 4 21 2042 (k_L_law_2042 F L xs h18) := by
  unfold k_L_law_2042
  exact snd_aload_n (pc := 2042) (i := 1) dL_law_2042 (snd_aload_n (pc := 2043) (i := 0) dL_law_2043 (snd_iload_n (pc := 2044) (i := 3) dL_law_2044 (snd_iconst (pc := 2045) dL_law_2045 (snd_iadd (pc := 2046) dL_law_2046 (snd_sld (pc := 2047) dL_law_2047 (snd_aload_n (pc := 2048) (i := 0) dL_law_2048 (snd_iload_n (pc := 2049) (i := 3) dL_law_2049 (snd_iconst (pc := 2050) dL_law_2050 (snd_iadd (pc := 2051) dL_law_2051 (snd_sld (pc := 2052) dL_law_2052 (snd_aload_n (pc := 2053) (i := 0) dL_law_2053 (snd_iload_n (pc := 2054) (i := 3) dL_law_2054 (snd_iconst (pc := 2055) dL_law_2055 (snd_iadd (pc := 2056) dL_law_2056 (snd_sld (pc := 2057) dL_law_2057 (snd_aload_n (pc := 2058) (i := 0) dL_law_2058 (snd_iload_n (pc := 2059) (i := 3) dL_law_2059 (snd_iconst (pc := 2060) dL_law_2060 (snd_iadd (pc := 2061) dL_law_2061 (snd_sld (pc := 2062) dL_law_2062 (snd_callV (pc := 2063) (n := 4) cls8 (s_X8_moved F) (by decide) (by decide) wd_1246 wd_1243 wd_1244 wd_1245 wd_120 hy_X8_moved dL_law_2063 (snd_aload_n (pc := 2066) (i := 2) dL_law_2066 (snd_aload_n (pc := 2067) (i := 0) dL_law_2067 (snd_iload_n (pc := 2068) (i := 3) dL_law_2068 (snd_iconst (pc := 2069) dL_law_2069 (snd_iadd (pc := 2070) dL_law_2070 (snd_sld (pc := 2071) dL_law_2071 (snd_aload_n (pc := 2072) (i := 0) dL_law_2072 (snd_iload_n (pc := 2073) (i := 3) dL_law_2073 (snd_iconst (pc := 2074) dL_law_2074 (snd_iadd (pc := 2075) dL_law_2075 (snd_sld (pc := 2076) dL_law_2076 (snd_aload_n (pc := 2077) (i := 0) dL_law_2077 (snd_iload_n (pc := 2078) (i := 3) dL_law_2078 (snd_iconst (pc := 2079) dL_law_2079 (snd_iadd (pc := 2080) dL_law_2080 (snd_sld (pc := 2081) dL_law_2081 (snd_aload_n (pc := 2082) (i := 0) dL_law_2082 (snd_iload_n (pc := 2083) (i := 3) dL_law_2083 (snd_iconst (pc := 2084) dL_law_2084 (snd_iadd (pc := 2085) dL_law_2085 (snd_sld (pc := 2086) dL_law_2086 (snd_callV (pc := 2087) (n := 4) cls9 (s_X9_moved F) (by decide) (by decide) wd_1931 wd_1928 wd_1929 wd_1930 wd_129 hy_X9_moved dL_law_2087 (snd_icmpeq (pc := 2090) (off := 192) (tgt := 2282) (by decide) dL_law_2090 ((sk_L_law_2282 F L xs hh18)) (snd_iconst (pc := 2093) dL_law_2093 (snd_ireturn dL_law_2094))))))))))))))))))))))))))))))))))))))))))))))
noncomputable def k_L_law_2095 (F : Nat) (L : Nat) (xs : Nat → Int) (h18 : AK) : AK := ak_aload 1 (ak_aload 0 (ak_iload 3 (ak_push (vI 1) (ak_iadd (ak_sld L xs (ak_aload 0 (ak_iload 3 (ak_push (vI 2) (ak_iadd (ak_sld L xs (ak_aload 0 (ak_iload 3 (ak_push (vI 3) (ak_iadd (ak_sld L xs (ak_callv 8 3 (m_X8_without F) (ak_aload 2 (ak_aload 0 (ak_iload 3 (ak_push (vI 1) (ak_iadd (ak_sld L xs (ak_aload 0 (ak_iload 3 (ak_push (vI 2) (ak_iadd (ak_sld L xs (ak_aload 0 (ak_iload 3 (ak_push (vI 3) (ak_iadd (ak_sld L xs (ak_callv 9 3 (m_X9_without F) (ak_cmpeq ((k_L_law_2282 F L xs h18)) (ak_push (vI 0) ak_ireturn)))))))))))))))))))))))))))))))))))
set_option maxRecDepth 20000 in
theorem sk_L_law_2095 (F : Nat) (L : Nat) (xs : Nat → Int) {h18 : AK} (hh18 : Snd (XS L xs) RL cL_law 4 21 18 h18) : Snd (XS L xs) RL cL_law 4 21 2095 (k_L_law_2095 F L xs h18) := by
  unfold k_L_law_2095
  exact snd_aload_n (pc := 2095) (i := 1) dL_law_2095 (snd_aload_n (pc := 2096) (i := 0) dL_law_2096 (snd_iload_n (pc := 2097) (i := 3) dL_law_2097 (snd_iconst (pc := 2098) dL_law_2098 (snd_iadd (pc := 2099) dL_law_2099 (snd_sld (pc := 2100) dL_law_2100 (snd_aload_n (pc := 2101) (i := 0) dL_law_2101 (snd_iload_n (pc := 2102) (i := 3) dL_law_2102 (snd_iconst (pc := 2103) dL_law_2103 (snd_iadd (pc := 2104) dL_law_2104 (snd_sld (pc := 2105) dL_law_2105 (snd_aload_n (pc := 2106) (i := 0) dL_law_2106 (snd_iload_n (pc := 2107) (i := 3) dL_law_2107 (snd_iconst (pc := 2108) dL_law_2108 (snd_iadd (pc := 2109) dL_law_2109 (snd_sld (pc := 2110) dL_law_2110 (snd_callV (pc := 2111) (n := 3) cls8 (s_X8_without F) (by decide) (by decide) wd_1250 wd_1247 wd_1248 wd_1249 wd_120 hy_X8_without dL_law_2111 (snd_aload_n (pc := 2114) (i := 2) dL_law_2114 (snd_aload_n (pc := 2115) (i := 0) dL_law_2115 (snd_iload_n (pc := 2116) (i := 3) dL_law_2116 (snd_iconst (pc := 2117) dL_law_2117 (snd_iadd (pc := 2118) dL_law_2118 (snd_sld (pc := 2119) dL_law_2119 (snd_aload_n (pc := 2120) (i := 0) dL_law_2120 (snd_iload_n (pc := 2121) (i := 3) dL_law_2121 (snd_iconst (pc := 2122) dL_law_2122 (snd_iadd (pc := 2123) dL_law_2123 (snd_sld (pc := 2124) dL_law_2124 (snd_aload_n (pc := 2125) (i := 0) dL_law_2125 (snd_iload_n (pc := 2126) (i := 3) dL_law_2126 (snd_iconst (pc := 2127) dL_law_2127 (snd_iadd (pc := 2128) dL_law_2128 (snd_sld (pc := 2129) dL_law_2129 (snd_callV (pc := 2130) (n := 3) cls9 (s_X9_without F) (by decide) (by decide) wd_1935 wd_1932 wd_1933 wd_1934 wd_129 hy_X9_without dL_law_2130 (snd_icmpeq (pc := 2133) (off := 149) (tgt := 2282) (by decide) dL_law_2133 ((sk_L_law_2282 F L xs hh18)) (snd_iconst (pc := 2136) dL_law_2136 (snd_ireturn dL_law_2137))))))))))))))))))))))))))))))))))))
noncomputable def k_L_law_2138 (F : Nat) (L : Nat) (xs : Nat → Int) (h18 : AK) : AK := ak_aload 1 (ak_aload 0 (ak_iload 3 (ak_push (vI 1) (ak_iadd (ak_sld L xs (ak_aload 0 (ak_iload 3 (ak_push (vI 2) (ak_iadd (ak_sld L xs (ak_aload 0 (ak_iload 3 (ak_push (vI 3) (ak_iadd (ak_sld L xs (ak_aload 0 (ak_iload 3 (ak_push (vI 4) (ak_iadd (ak_sld L xs (ak_aload 0 (ak_iload 3 (ak_push (vI 5) (ak_iadd (ak_sld L xs (ak_aload 0 (ak_iload 3 (ak_push (vI 6) (ak_iadd (ak_sld L xs (ak_callv 8 6 (m_X8_rounds F) (ak_aload 2 (ak_aload 0 (ak_iload 3 (ak_push (vI 1) (ak_iadd (ak_sld L xs (ak_aload 0 (ak_iload 3 (ak_push (vI 2) (ak_iadd (ak_sld L xs (ak_aload 0 (ak_iload 3 (ak_push (vI 3) (ak_iadd (ak_sld L xs (ak_aload 0 (ak_iload 3 (ak_push (vI 4) (ak_iadd (ak_sld L xs (ak_aload 0 (ak_iload 3 (ak_push (vI 5) (ak_iadd (ak_sld L xs (ak_aload 0 (ak_iload 3 (ak_push (vI 6) (ak_iadd (ak_sld L xs (ak_callv 9 6 (m_X9_rounds F) (ak_cmpeq ((k_L_law_2282 F L xs h18)) (ak_push (vI 0) ak_ireturn)))))))))))))))))))))))))))))))))))))))))))))))))))))))))))))))))
set_option maxRecDepth 20000 in
theorem sk_L_law_2138 (F : Nat) (L : Nat) (xs : Nat → Int) {h18 : AK} (hh18 : Snd (XS L xs) RL cL_law 4 21 18 h18) : Snd (XS L xs) RL cL_law 4 21 2138 (k_L_law_2138 F L xs h18) := by
  unfold k_L_law_2138
  exact snd_aload_n (pc := 2138) (i := 1) dL_law_2138 (snd_aload_n (pc := 2139) (i := 0) dL_law_2139 (snd_iload_n (pc := 2140) (i := 3) dL_law_2140 (snd_iconst (pc := 2141) dL_law_2141 (snd_iadd (pc := 2142) dL_law_2142 (snd_sld (pc := 2143) dL_law_2143 (snd_aload_n (pc := 2144) (i := 0) dL_law_2144 (snd_iload_n (pc := 2145) (i := 3) dL_law_2145 (snd_iconst (pc := 2146) dL_law_2146 (snd_iadd (pc := 2147) dL_law_2147 (snd_sld (pc := 2148) dL_law_2148 (snd_aload_n (pc := 2149) (i := 0) dL_law_2149 (snd_iload_n (pc := 2150) (i := 3) dL_law_2150 (snd_iconst (pc := 2151) dL_law_2151 (snd_iadd (pc := 2152) dL_law_2152 (snd_sld (pc := 2153) dL_law_2153 (snd_aload_n (pc := 2154) (i := 0) dL_law_2154 (snd_iload_n (pc := 2155) (i := 3) dL_law_2155 (snd_iconst (pc := 2156) dL_law_2156 (snd_iadd (pc := 2157) dL_law_2157 (snd_sld (pc := 2158) dL_law_2158 (snd_aload_n (pc := 2159) (i := 0) dL_law_2159 (snd_iload_n (pc := 2160) (i := 3) dL_law_2160 (snd_iconst (pc := 2161) dL_law_2161 (snd_iadd (pc := 2162) dL_law_2162 (snd_sld (pc := 2163) dL_law_2163 (snd_aload_n (pc := 2164) (i := 0) dL_law_2164 (snd_iload_n (pc := 2165) (i := 3) dL_law_2165 (snd_bipush (pc := 2166) (by decide) dL_law_2166 (snd_iadd (pc := 2168) dL_law_2168 (snd_sld (pc := 2169) dL_law_2169 (snd_callV (pc := 2170) (n := 6) cls8 (s_X8_rounds F) (by decide) (by decide) wd_1094 wd_1091 wd_1092 wd_1093 wd_120 hy_X8_rounds dL_law_2170 (snd_aload_n (pc := 2173) (i := 2) dL_law_2173 (snd_aload_n (pc := 2174) (i := 0) dL_law_2174 (snd_iload_n (pc := 2175) (i := 3) dL_law_2175 (snd_iconst (pc := 2176) dL_law_2176 (snd_iadd (pc := 2177) dL_law_2177 (snd_sld (pc := 2178) dL_law_2178 (snd_aload_n (pc := 2179) (i := 0) dL_law_2179 (snd_iload_n (pc := 2180) (i := 3) dL_law_2180 (snd_iconst (pc := 2181) dL_law_2181 (snd_iadd (pc := 2182) dL_law_2182 (snd_sld (pc := 2183) dL_law_2183 (snd_aload_n (pc := 2184) (i := 0) dL_law_2184 (snd_iload_n (pc := 2185) (i := 3) dL_law_2185 (snd_iconst (pc := 2186) dL_law_2186 (snd_iadd (pc := 2187) dL_law_2187 (snd_sld (pc := 2188) dL_law_2188 (snd_aload_n (pc := 2189) (i := 0) dL_law_2189 (snd_iload_n (pc := 2190) (i := 3) dL_law_2190 (snd_iconst (pc := 2191) dL_law_2191 (snd_iadd (pc := 2192) dL_law_2192 (snd_sld (pc := 2193) dL_law_2193 (snd_aload_n (pc := 2194) (i := 0) dL_law_2194 (snd_iload_n (pc := 2195) (i := 3) dL_law_2195 (snd_iconst (pc := 2196) dL_law_2196 (snd_iadd (pc := 2197) dL_law_2197 (snd_sld (pc := 2198) dL_law_2198 (snd_aload_n (pc := 2199) (i := 0) dL_law_2199 (snd_iload_n (pc := 2200) (i := 3) dL_law_2200 (snd_bipush (pc := 2201) (by decide) dL_law_2201 (snd_iadd (pc := 2203) dL_law_2203 (snd_sld (pc := 2204) dL_law_2204 (snd_callV (pc := 2205) (n := 6) cls9 (s_X9_rounds F) (by decide) (by decide) wd_1939 wd_1936 wd_1937 wd_1938 wd_129 hy_X9_rounds dL_law_2205 (snd_icmpeq (pc := 2208) (off := 74) (tgt := 2282) (by decide) dL_law_2208 ((sk_L_law_2282 F L xs hh18)) (snd_iconst (pc := 2211) dL_law_2211 (snd_ireturn dL_law_2212))))))))))))))))))))))))))))))))))))))))))))))))))))))))))))))))))
noncomputable def k_L_law_2213 (F : Nat) (L : Nat) (xs : Nat → Int) (h18 : AK) : AK := ak_aload 1 (ak_aload 0 (ak_iload 3 (ak_push (vI 1) (ak_iadd (ak_sld L xs (ak_callv 8 1 (m_X8_count F) (ak_aload 2 (ak_aload 0 (ak_iload 3 (ak_push (vI 1) (ak_iadd (ak_sld L xs (ak_callv 9 1 (m_X9_count F) (ak_cmpeq ((k_L_law_2282 F L xs h18)) (ak_push (vI 0) ak_ireturn)))))))))))))))
set_option maxRecDepth 20000 in
theorem sk_L_law_2213 (F : Nat) (L : Nat) (xs : Nat → Int) {h18 : AK} (hh18 : Snd (XS L xs) RL cL_law 4 21 18 h18) : Snd (XS L xs) RL cL_law 4 21 2213 (k_L_law_2213 F L xs h18) := by
  unfold k_L_law_2213
  exact snd_aload_n (pc := 2213) (i := 1) dL_law_2213 (snd_aload_n (pc := 2214) (i := 0) dL_law_2214 (snd_iload_n (pc := 2215) (i := 3) dL_law_2215 (snd_iconst (pc := 2216) dL_law_2216 (snd_iadd (pc := 2217) dL_law_2217 (snd_sld (pc := 2218) dL_law_2218 (snd_callV (pc := 2219) (n := 1) cls8 (s_X8_count F) (by decide) (by decide) wd_874 wd_871 wd_872 wd_873 wd_120 hy_X8_count dL_law_2219 (snd_aload_n (pc := 2222) (i := 2) dL_law_2222 (snd_aload_n (pc := 2223) (i := 0) dL_law_2223 (snd_iload_n (pc := 2224) (i := 3) dL_law_2224 (snd_iconst (pc := 2225) dL_law_2225 (snd_iadd (pc := 2226) dL_law_2226 (snd_sld (pc := 2227) dL_law_2227 (snd_callV (pc := 2228) (n := 1) cls9 (s_X9_count F) (by decide) (by decide) wd_1943 wd_1940 wd_1941 wd_1942 wd_129 hy_X9_count dL_law_2228 (snd_icmpeq (pc := 2231) (off := 51) (tgt := 2282) (by decide) dL_law_2231 ((sk_L_law_2282 F L xs hh18)) (snd_iconst (pc := 2234) dL_law_2234 (snd_ireturn dL_law_2235))))))))))))))))
noncomputable def k_L_law_2236 (F : Nat) (L : Nat) (xs : Nat → Int) (h18 : AK) : AK := ak_aload 1 (ak_aload 0 (ak_iload 3 (ak_push (vI 1) (ak_iadd (ak_sld L xs (ak_callv 8 1 (m_X8_image F) (ak_aload 2 (ak_aload 0 (ak_iload 3 (ak_push (vI 1) (ak_iadd (ak_sld L xs (ak_callv 9 1 (m_X9_image F) (ak_cmpeq ((k_L_law_2282 F L xs h18)) (ak_push (vI 0) ak_ireturn)))))))))))))))
set_option maxRecDepth 20000 in
theorem sk_L_law_2236 (F : Nat) (L : Nat) (xs : Nat → Int) {h18 : AK} (hh18 : Snd (XS L xs) RL cL_law 4 21 18 h18) : Snd (XS L xs) RL cL_law 4 21 2236 (k_L_law_2236 F L xs h18) := by
  unfold k_L_law_2236
  exact snd_aload_n (pc := 2236) (i := 1) dL_law_2236 (snd_aload_n (pc := 2237) (i := 0) dL_law_2237 (snd_iload_n (pc := 2238) (i := 3) dL_law_2238 (snd_iconst (pc := 2239) dL_law_2239 (snd_iadd (pc := 2240) dL_law_2240 (snd_sld (pc := 2241) dL_law_2241 (snd_callV (pc := 2242) (n := 1) cls8 (s_X8_image F) (by decide) (by decide) wd_878 wd_875 wd_876 wd_877 wd_120 hy_X8_image dL_law_2242 (snd_aload_n (pc := 2245) (i := 2) dL_law_2245 (snd_aload_n (pc := 2246) (i := 0) dL_law_2246 (snd_iload_n (pc := 2247) (i := 3) dL_law_2247 (snd_iconst (pc := 2248) dL_law_2248 (snd_iadd (pc := 2249) dL_law_2249 (snd_sld (pc := 2250) dL_law_2250 (snd_callV (pc := 2251) (n := 1) cls9 (s_X9_image F) (by decide) (by decide) wd_1947 wd_1944 wd_1945 wd_1946 wd_129 hy_X9_image dL_law_2251 (snd_icmpeq (pc := 2254) (off := 28) (tgt := 2282) (by decide) dL_law_2254 ((sk_L_law_2282 F L xs hh18)) (snd_iconst (pc := 2257) dL_law_2257 (snd_ireturn dL_law_2258))))))))))))))))
noncomputable def k_L_law_2259 (F : Nat) (L : Nat) (xs : Nat → Int) (h18 : AK) : AK := ak_aload 1 (ak_aload 0 (ak_iload 3 (ak_push (vI 1) (ak_iadd (ak_sld L xs (ak_callv 8 1 (m_X8_again F) (ak_aload 2 (ak_aload 0 (ak_iload 3 (ak_push (vI 1) (ak_iadd (ak_sld L xs (ak_callv 9 1 (m_X9_again F) (ak_cmpeq ((k_L_law_2282 F L xs h18)) (ak_push (vI 0) ak_ireturn)))))))))))))))
set_option maxRecDepth 20000 in
theorem sk_L_law_2259 (F : Nat) (L : Nat) (xs : Nat → Int) {h18 : AK} (hh18 : Snd (XS L xs) RL cL_law 4 21 18 h18) : Snd (XS L xs) RL cL_law 4 21 2259 (k_L_law_2259 F L xs h18) := by
  unfold k_L_law_2259
  exact snd_aload_n (pc := 2259) (i := 1) dL_law_2259 (snd_aload_n (pc := 2260) (i := 0) dL_law_2260 (snd_iload_n (pc := 2261) (i := 3) dL_law_2261 (snd_iconst (pc := 2262) dL_law_2262 (snd_iadd (pc := 2263) dL_law_2263 (snd_sld (pc := 2264) dL_law_2264 (snd_callV (pc := 2265) (n := 1) cls8 (s_X8_again F) (by decide) (by decide) wd_889 wd_886 wd_887 wd_888 wd_120 hy_X8_again dL_law_2265 (snd_aload_n (pc := 2268) (i := 2) dL_law_2268 (snd_aload_n (pc := 2269) (i := 0) dL_law_2269 (snd_iload_n (pc := 2270) (i := 3) dL_law_2270 (snd_iconst (pc := 2271) dL_law_2271 (snd_iadd (pc := 2272) dL_law_2272 (snd_sld (pc := 2273) dL_law_2273 (snd_callV (pc := 2274) (n := 1) cls9 (s_X9_again F) (by decide) (by decide) wd_1958 wd_1955 wd_1956 wd_1957 wd_129 hy_X9_again dL_law_2274 (snd_icmpeq (pc := 2277) (off := 5) (tgt := 2282) (by decide) dL_law_2277 ((sk_L_law_2282 F L xs hh18)) (snd_iconst (pc := 2280) dL_law_2280 (snd_ireturn dL_law_2281))))))))))))))))
noncomputable def kb_L_law_18 (F : Nat) (L : Nat) (xs : Nat → Int) (self : AK) : AK := ak_iload 3 (ak_aload 0 (ak_slen L (ak_push (vI 10) (ak_isub (ak_cmpgt (ak_push (vI 1) ak_ireturn) (ak_aload 0 (ak_iload 3 (ak_sld L xs (ak_push (vI 63) (ak_iand (ak_switch 0 [(k_L_law_212 F L xs self), (k_L_law_275 F L xs self), (k_L_law_298 F L xs self), (k_L_law_331 F L xs self), (k_L_law_354 F L xs self), (k_L_law_387 F L xs self), (k_L_law_430 F L xs self), (k_L_law_473 F L xs self), (k_L_law_516 F L xs self), (k_L_law_559 F L xs self), (k_L_law_602 F L xs self), (k_L_law_655 F L xs self), (k_L_law_718 F L xs self), (k_L_law_771 F L xs self), (k_L_law_815 F L xs self), (k_L_law_926 F L xs self), (k_L_law_1054 F L xs self), (k_L_law_1141 F L xs self), (k_L_law_1217 F L xs self), (k_L_law_1270 F L xs self), (k_L_law_1323 F L xs self), (k_L_law_1376 F L xs self), (k_L_law_1429 F L xs self), (k_L_law_1472 F L xs self), (k_L_law_1505 F L xs self), (k_L_law_1564 F L xs self), (k_L_law_1597 F L xs self), (k_L_law_1630 F L xs self), (k_L_law_1689 F L xs self), (k_L_law_1722 F L xs self), (k_L_law_1765 F L xs self), (k_L_law_1818 F L xs self), (k_L_law_1887 F L xs self), (k_L_law_1930 F L xs self), (k_L_law_1973 F L xs self), (k_L_law_2042 F L xs self), (k_L_law_2095 F L xs self), (k_L_law_2138 F L xs self), (k_L_law_2213 F L xs self), (k_L_law_2236 F L xs self), (k_L_law_2259 F L xs self)] ((k_L_law_2282 F L xs self)))))))))))))
noncomputable def k_L_law_18 (F : Nat) (L : Nat) (xs : Nat → Int) (n : Nat) : AK := Nat.rec (motive := fun _ => AK) ak_none (fun _ self => kb_L_law_18 F L xs self) n
set_option maxRecDepth 20000 in
theorem sk_L_law_18 (F : Nat) (L : Nat) (xs : Nat → Int) : ∀ n, Snd (XS L xs) RL cL_law 4 21 18 (k_L_law_18 F L xs n) := by
  intro n
  induction n with
  | zero => exact snd_none
  | succ n ih =>
    show Snd (XS L xs) RL cL_law 4 21 18 (kb_L_law_18 F L xs (k_L_law_18 F L xs n))
    unfold kb_L_law_18
    exact snd_iload_n (pc := 18) (i := 3) dL_law_18 (snd_aload_n (pc := 19) (i := 0) dL_law_19 (snd_slen (pc := 20) dL_law_20 (snd_bipush (pc := 21) (by decide) dL_law_21 (snd_isub (pc := 23) dL_law_23 (snd_icmpgt (pc := 24) (off := 2264) (tgt := 2288) (by decide) dL_law_24 (snd_iconst (pc := 2288) dL_law_2288 (snd_ireturn dL_law_2289)) (snd_aload_n (pc := 27) (i := 0) dL_law_27 (snd_iload_n (pc := 28) (i := 3) dL_law_28 (snd_sld (pc := 29) dL_law_29 (snd_bipush (pc := 30) (by decide) dL_law_30 (snd_iand (pc := 32) dL_law_32 (snd_switchL (pc := 33) (ol := [179, 242, 265, 298, 321, 354, 397, 440, 483, 526, 569, 622, 685, 738, 782, 893, 1021, 1108, 1184, 1237, 1290, 1343, 1396, 1439, 1472, 1531, 1564, 1597, 1656, 1689, 1732, 1785, 1854, 1897, 1940, 2009, 2062, 2105, 2180, 2203, 2226]) (tgd := 2282) dL_law_33 rfl (by decide) ((sk_L_law_2282 F L xs ih)) (sw_cons (o := 179) (tgt := 212) (by decide) ((sk_L_law_212 F L xs ih)) (sw_cons (o := 242) (tgt := 275) (by decide) ((sk_L_law_275 F L xs ih)) (sw_cons (o := 265) (tgt := 298) (by decide) ((sk_L_law_298 F L xs ih)) (sw_cons (o := 298) (tgt := 331) (by decide) ((sk_L_law_331 F L xs ih)) (sw_cons (o := 321) (tgt := 354) (by decide) ((sk_L_law_354 F L xs ih)) (sw_cons (o := 354) (tgt := 387) (by decide) ((sk_L_law_387 F L xs ih)) (sw_cons (o := 397) (tgt := 430) (by decide) ((sk_L_law_430 F L xs ih)) (sw_cons (o := 440) (tgt := 473) (by decide) ((sk_L_law_473 F L xs ih)) (sw_cons (o := 483) (tgt := 516) (by decide) ((sk_L_law_516 F L xs ih)) (sw_cons (o := 526) (tgt := 559) (by decide) ((sk_L_law_559 F L xs ih)) (sw_cons (o := 569) (tgt := 602) (by decide) ((sk_L_law_602 F L xs ih)) (sw_cons (o := 622) (tgt := 655) (by decide) ((sk_L_law_655 F L xs ih)) (sw_cons (o := 685) (tgt := 718) (by decide) ((sk_L_law_718 F L xs ih)) (sw_cons (o := 738) (tgt := 771) (by decide) ((sk_L_law_771 F L xs ih)) (sw_cons (o := 782) (tgt := 815) (by decide) ((sk_L_law_815 F L xs ih)) (sw_cons (o := 893) (tgt := 926) (by decide) ((sk_L_law_926 F L xs ih)) (sw_cons (o := 1021) (tgt := 1054) (by decide) ((sk_L_law_1054 F L xs ih)) (sw_cons (o := 1108) (tgt := 1141) (by decide) ((sk_L_law_1141 F L xs ih)) (sw_cons (o := 1184) (tgt := 1217) (by decide) ((sk_L_law_1217 F L xs ih)) (sw_cons (o := 1237) (tgt := 1270) (by decide) ((sk_L_law_1270 F L xs ih)) (sw_cons (o := 1290) (tgt := 1323) (by decide) ((sk_L_law_1323 F L xs ih)) (sw_cons (o := 1343) (tgt := 1376) (by decide) ((sk_L_law_1376 F L xs ih)) (sw_cons (o := 1396) (tgt := 1429) (by decide) ((sk_L_law_1429 F L xs ih)) (sw_cons (o := 1439) (tgt := 1472) (by decide) ((sk_L_law_1472 F L xs ih)) (sw_cons (o := 1472) (tgt := 1505) (by decide) ((sk_L_law_1505 F L xs ih)) (sw_cons (o := 1531) (tgt := 1564) (by decide) ((sk_L_law_1564 F L xs ih)) (sw_cons (o := 1564) (tgt := 1597) (by decide) ((sk_L_law_1597 F L xs ih)) (sw_cons (o := 1597) (tgt := 1630) (by decide) ((sk_L_law_1630 F L xs ih)) (sw_cons (o := 1656) (tgt := 1689) (by decide) ((sk_L_law_1689 F L xs ih)) (sw_cons (o := 1689) (tgt := 1722) (by decide) ((sk_L_law_1722 F L xs ih)) (sw_cons (o := 1732) (tgt := 1765) (by decide) ((sk_L_law_1765 F L xs ih)) (sw_cons (o := 1785) (tgt := 1818) (by decide) ((sk_L_law_1818 F L xs ih)) (sw_cons (o := 1854) (tgt := 1887) (by decide) ((sk_L_law_1887 F L xs ih)) (sw_cons (o := 1897) (tgt := 1930) (by decide) ((sk_L_law_1930 F L xs ih)) (sw_cons (o := 1940) (tgt := 1973) (by decide) ((sk_L_law_1973 F L xs ih)) (sw_cons (o := 2009) (tgt := 2042) (by decide) ((sk_L_law_2042 F L xs ih)) (sw_cons (o := 2062) (tgt := 2095) (by decide) ((sk_L_law_2095 F L xs ih)) (sw_cons (o := 2105) (tgt := 2138) (by decide) ((sk_L_law_2138 F L xs ih)) (sw_cons (o := 2180) (tgt := 2213) (by decide) ((sk_L_law_2213 F L xs ih)) (sw_cons (o := 2203) (tgt := 2236) (by decide) ((sk_L_law_2236 F L xs ih)) (sw_cons (o := 2226) (tgt := 2259) (by decide) ((sk_L_law_2259 F L xs ih)) (sw_nil)))))))))))))))))))))))))))))))))))))))))))))))))))))
