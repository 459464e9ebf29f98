/-! THE LAW: its cases -/
theorem dL_law_0 : decode code 0 = .ok (.new 7, 3) := by decide +kernel
theorem dL_law_3 : decode code 3 = .ok (.dup, 1) := by decide +kernel
theorem dL_law_4 : decode code 4 = .ok (.invokespecial 9, 3) := by decide +kernel
theorem dL_law_7 : decode code 7 = .ok (.astore_n 1, 1) := by decide +kernel
theorem dL_law_8 : decode code 8 = .ok (.new 10, 3) := by decide +kernel
theorem dL_law_11 : decode code 11 = .ok (.dup, 1) := by decide +kernel
theorem dL_law_12 : decode code 12 = .ok (.invokespecial 12, 3) := by decide +kernel
theorem dL_law_15 : decode code 15 = .ok (.astore_n 2, 1) := by decide +kernel
theorem dL_law_16 : decode code 16 = .ok (.iconst 0, 1) := by decide +kernel
theorem dL_law_17 : decode code 17 = .ok (.istore_n 3, 1) := by decide +kernel
theorem dL_law_18 : decode code 18 = .ok (.iload_n 3, 1) := by decide +kernel
theorem dL_law_19 : decode code 19 = .ok (.aload_n 0, 1) := by decide +kernel
theorem dL_law_20 : decode code 20 = .ok (.arraylength, 1) := by decide +kernel
theorem dL_law_21 : decode code 21 = .ok (.bipush 6, 2) := by decide +kernel
theorem dL_law_23 : decode code 23 = .ok (.isub, 1) := by decide +kernel
theorem dL_law_24 : decode code 24 = .ok (.if_icmp .gt 1234, 3) := by decide +kernel
theorem dL_law_27 : decode code 27 = .ok (.aload_n 0, 1) := by decide +kernel
theorem dL_law_28 : decode code 28 = .ok (.iload_n 3, 1) := by decide +kernel
theorem dL_law_29 : decode code 29 = .ok (.iaload, 1) := by decide +kernel
theorem dL_law_30 : decode code 30 = .ok (.bipush 63, 2) := by decide +kernel
theorem dL_law_32 : decode code 32 = .ok (.iand, 1) := by decide +kernel
theorem dL_law_33 : decode code 33 = .ok (.tableswitch 1219 0 35 #[159, 182, 205, 228, 271, 314, 337, 400, 423, 446, 469, 502, 535, 568, 601, 614, 647, 670, 703, 736, 769, 792, 851, 874, 907, 930, 963, 986, 1029, 1062, 1085, 1108, 1131, 1144, 1157, 1196], 159) := by decide +kernel
theorem dL_law_192 : decode code 192 = .ok (.aload_n 1, 1) := by decide +kernel
theorem dL_law_193 : decode code 193 = .ok (.aload_n 0, 1) := by decide +kernel
theorem dL_law_194 : decode code 194 = .ok (.iload_n 3, 1) := by decide +kernel
theorem dL_law_195 : decode code 195 = .ok (.iconst 1, 1) := by decide +kernel
theorem dL_law_196 : decode code 196 = .ok (.iadd, 1) := by decide +kernel
theorem dL_law_197 : decode code 197 = .ok (.iaload, 1) := by decide +kernel
theorem dL_law_198 : decode code 198 = .ok (.invokevirtual 13, 3) := by decide +kernel
theorem dL_law_201 : decode code 201 = .ok (.aload_n 2, 1) := by decide +kernel
theorem dL_law_202 : decode code 202 = .ok (.aload_n 0, 1) := by decide +kernel
theorem dL_law_203 : decode code 203 = .ok (.iload_n 3, 1) := by decide +kernel
theorem dL_law_204 : decode code 204 = .ok (.iconst 1, 1) := by decide +kernel
theorem dL_law_205 : decode code 205 = .ok (.iadd, 1) := by decide +kernel
theorem dL_law_206 : decode code 206 = .ok (.iaload, 1) := by decide +kernel
theorem dL_law_207 : decode code 207 = .ok (.invokevirtual 17, 3) := by decide +kernel
theorem dL_law_210 : decode code 210 = .ok (.if_icmp .eq 1042, 3) := by decide +kernel
theorem dL_law_213 : decode code 213 = .ok (.iconst 0, 1) := by decide +kernel
theorem dL_law_214 : decode code 214 = .ok (.ireturn, 1) := by decide +kernel
theorem dL_law_215 : decode code 215 = .ok (.aload_n 1, 1) := by decide +kernel
theorem dL_law_216 : decode code 216 = .ok (.aload_n 0, 1) := by decide +kernel
theorem dL_law_217 : decode code 217 = .ok (.iload_n 3, 1) := by decide +kernel
theorem dL_law_218 : decode code 218 = .ok (.iconst 1, 1) := by decide +kernel
theorem dL_law_219 : decode code 219 = .ok (.iadd, 1) := by decide +kernel
theorem dL_law_220 : decode code 220 = .ok (.iaload, 1) := by decide +kernel
theorem dL_law_221 : decode code 221 = .ok (.invokevirtual 18, 3) := by decide +kernel
theorem dL_law_224 : decode code 224 = .ok (.aload_n 2, 1) := by decide +kernel
theorem dL_law_225 : decode code 225 = .ok (.aload_n 0, 1) := by decide +kernel
theorem dL_law_226 : decode code 226 = .ok (.iload_n 3, 1) := by decide +kernel
theorem dL_law_227 : decode code 227 = .ok (.iconst 1, 1) := by decide +kernel
theorem dL_law_228 : decode code 228 = .ok (.iadd, 1) := by decide +kernel
theorem dL_law_229 : decode code 229 = .ok (.iaload, 1) := by decide +kernel
theorem dL_law_230 : decode code 230 = .ok (.invokevirtual 21, 3) := by decide +kernel
theorem dL_law_233 : decode code 233 = .ok (.if_icmp .eq 1019, 3) := by decide +kernel
theorem dL_law_236 : decode code 236 = .ok (.iconst 0, 1) := by decide +kernel
theorem dL_law_237 : decode code 237 = .ok (.ireturn, 1) := by decide +kernel
theorem dL_law_238 : decode code 238 = .ok (.aload_n 1, 1) := by decide +kernel
theorem dL_law_239 : decode code 239 = .ok (.aload_n 0, 1) := by decide +kernel
theorem dL_law_240 : decode code 240 = .ok (.iload_n 3, 1) := by decide +kernel
theorem dL_law_241 : decode code 241 = .ok (.iconst 1, 1) := by decide +kernel
theorem dL_law_242 : decode code 242 = .ok (.iadd, 1) := by decide +kernel
theorem dL_law_243 : decode code 243 = .ok (.iaload, 1) := by decide +kernel
theorem dL_law_244 : decode code 244 = .ok (.invokevirtual 22, 3) := by decide +kernel
theorem dL_law_247 : decode code 247 = .ok (.aload_n 2, 1) := by decide +kernel
theorem dL_law_248 : decode code 248 = .ok (.aload_n 0, 1) := by decide +kernel
theorem dL_law_249 : decode code 249 = .ok (.iload_n 3, 1) := by decide +kernel
theorem dL_law_250 : decode code 250 = .ok (.iconst 1, 1) := by decide +kernel
theorem dL_law_251 : decode code 251 = .ok (.iadd, 1) := by decide +kernel
theorem dL_law_252 : decode code 252 = .ok (.iaload, 1) := by decide +kernel
theorem dL_law_253 : decode code 253 = .ok (.invokevirtual 25, 3) := by decide +kernel
theorem dL_law_256 : decode code 256 = .ok (.if_icmp .eq 996, 3) := by decide +kernel
theorem dL_law_259 : decode code 259 = .ok (.iconst 0, 1) := by decide +kernel
theorem dL_law_260 : decode code 260 = .ok (.ireturn, 1) := by decide +kernel
theorem dL_law_261 : decode code 261 = .ok (.aload_n 1, 1) := by decide +kernel
theorem dL_law_262 : decode code 262 = .ok (.aload_n 0, 1) := by decide +kernel
theorem dL_law_263 : decode code 263 = .ok (.iload_n 3, 1) := by decide +kernel
theorem dL_law_264 : decode code 264 = .ok (.iconst 1, 1) := by decide +kernel
theorem dL_law_265 : decode code 265 = .ok (.iadd, 1) := by decide +kernel
theorem dL_law_266 : decode code 266 = .ok (.iaload, 1) := by decide +kernel
theorem dL_law_267 : decode code 267 = .ok (.aload_n 0, 1) := by decide +kernel
theorem dL_law_268 : decode code 268 = .ok (.iload_n 3, 1) := by decide +kernel
theorem dL_law_269 : decode code 269 = .ok (.iconst 2, 1) := by decide +kernel
theorem dL_law_270 : decode code 270 = .ok (.iadd, 1) := by decide +kernel
theorem dL_law_271 : decode code 271 = .ok (.iaload, 1) := by decide +kernel
theorem dL_law_272 : decode code 272 = .ok (.aload_n 0, 1) := by decide +kernel
theorem dL_law_273 : decode code 273 = .ok (.iload_n 3, 1) := by decide +kernel
theorem dL_law_274 : decode code 274 = .ok (.iconst 3, 1) := by decide +kernel
theorem dL_law_275 : decode code 275 = .ok (.iadd, 1) := by decide +kernel
theorem dL_law_276 : decode code 276 = .ok (.iaload, 1) := by decide +kernel
theorem dL_law_277 : decode code 277 = .ok (.invokevirtual 26, 3) := by decide +kernel
theorem dL_law_280 : decode code 280 = .ok (.aload_n 2, 1) := by decide +kernel
theorem dL_law_281 : decode code 281 = .ok (.aload_n 0, 1) := by decide +kernel
theorem dL_law_282 : decode code 282 = .ok (.iload_n 3, 1) := by decide +kernel
theorem dL_law_283 : decode code 283 = .ok (.iconst 1, 1) := by decide +kernel
theorem dL_law_284 : decode code 284 = .ok (.iadd, 1) := by decide +kernel
theorem dL_law_285 : decode code 285 = .ok (.iaload, 1) := by decide +kernel
theorem dL_law_286 : decode code 286 = .ok (.aload_n 0, 1) := by decide +kernel
theorem dL_law_287 : decode code 287 = .ok (.iload_n 3, 1) := by decide +kernel
theorem dL_law_288 : decode code 288 = .ok (.iconst 2, 1) := by decide +kernel
theorem dL_law_289 : decode code 289 = .ok (.iadd, 1) := by decide +kernel
theorem dL_law_290 : decode code 290 = .ok (.iaload, 1) := by decide +kernel
theorem dL_law_291 : decode code 291 = .ok (.aload_n 0, 1) := by decide +kernel
theorem dL_law_292 : decode code 292 = .ok (.iload_n 3, 1) := by decide +kernel
theorem dL_law_293 : decode code 293 = .ok (.iconst 3, 1) := by decide +kernel
theorem dL_law_294 : decode code 294 = .ok (.iadd, 1) := by decide +kernel
theorem dL_law_295 : decode code 295 = .ok (.iaload, 1) := by decide +kernel
theorem dL_law_296 : decode code 296 = .ok (.invokevirtual 30, 3) := by decide +kernel
theorem dL_law_299 : decode code 299 = .ok (.if_icmp .eq 953, 3) := by decide +kernel
theorem dL_law_302 : decode code 302 = .ok (.iconst 0, 1) := by decide +kernel
theorem dL_law_303 : decode code 303 = .ok (.ireturn, 1) := by decide +kernel
theorem dL_law_304 : decode code 304 = .ok (.aload_n 1, 1) := by decide +kernel
theorem dL_law_305 : decode code 305 = .ok (.aload_n 0, 1) := by decide +kernel
theorem dL_law_306 : decode code 306 = .ok (.iload_n 3, 1) := by decide +kernel
theorem dL_law_307 : decode code 307 = .ok (.iconst 1, 1) := by decide +kernel
theorem dL_law_308 : decode code 308 = .ok (.iadd, 1) := by decide +kernel
theorem dL_law_309 : decode code 309 = .ok (.iaload, 1) := by decide +kernel
theorem dL_law_310 : decode code 310 = .ok (.aload_n 0, 1) := by decide +kernel
theorem dL_law_311 : decode code 311 = .ok (.iload_n 3, 1) := by decide +kernel
theorem dL_law_312 : decode code 312 = .ok (.iconst 2, 1) := by decide +kernel
theorem dL_law_313 : decode code 313 = .ok (.iadd, 1) := by decide +kernel
theorem dL_law_314 : decode code 314 = .ok (.iaload, 1) := by decide +kernel
theorem dL_law_315 : decode code 315 = .ok (.aload_n 0, 1) := by decide +kernel
theorem dL_law_316 : decode code 316 = .ok (.iload_n 3, 1) := by decide +kernel
theorem dL_law_317 : decode code 317 = .ok (.iconst 3, 1) := by decide +kernel
theorem dL_law_318 : decode code 318 = .ok (.iadd, 1) := by decide +kernel
theorem dL_law_319 : decode code 319 = .ok (.iaload, 1) := by decide +kernel
theorem dL_law_320 : decode code 320 = .ok (.invokevirtual 31, 3) := by decide +kernel
theorem dL_law_323 : decode code 323 = .ok (.aload_n 2, 1) := by decide +kernel
theorem dL_law_324 : decode code 324 = .ok (.aload_n 0, 1) := by decide +kernel
theorem dL_law_325 : decode code 325 = .ok (.iload_n 3, 1) := by decide +kernel
theorem dL_law_326 : decode code 326 = .ok (.iconst 1, 1) := by decide +kernel
theorem dL_law_327 : decode code 327 = .ok (.iadd, 1) := by decide +kernel
theorem dL_law_328 : decode code 328 = .ok (.iaload, 1) := by decide +kernel
theorem dL_law_329 : decode code 329 = .ok (.aload_n 0, 1) := by decide +kernel
theorem dL_law_330 : decode code 330 = .ok (.iload_n 3, 1) := by decide +kernel
theorem dL_law_331 : decode code 331 = .ok (.iconst 2, 1) := by decide +kernel
theorem dL_law_332 : decode code 332 = .ok (.iadd, 1) := by decide +kernel
theorem dL_law_333 : decode code 333 = .ok (.iaload, 1) := by decide +kernel
theorem dL_law_334 : decode code 334 = .ok (.aload_n 0, 1) := by decide +kernel
theorem dL_law_335 : decode code 335 = .ok (.iload_n 3, 1) := by decide +kernel
theorem dL_law_336 : decode code 336 = .ok (.iconst 3, 1) := by decide +kernel
theorem dL_law_337 : decode code 337 = .ok (.iadd, 1) := by decide +kernel
theorem dL_law_338 : decode code 338 = .ok (.iaload, 1) := by decide +kernel
theorem dL_law_339 : decode code 339 = .ok (.invokevirtual 34, 3) := by decide +kernel
theorem dL_law_342 : decode code 342 = .ok (.if_icmp .eq 910, 3) := by decide +kernel
theorem dL_law_345 : decode code 345 = .ok (.iconst 0, 1) := by decide +kernel
theorem dL_law_346 : decode code 346 = .ok (.ireturn, 1) := by decide +kernel
theorem dL_law_347 : decode code 347 = .ok (.aload_n 1, 1) := by decide +kernel
theorem dL_law_348 : decode code 348 = .ok (.aload_n 0, 1) := by decide +kernel
theorem dL_law_349 : decode code 349 = .ok (.iload_n 3, 1) := by decide +kernel
theorem dL_law_350 : decode code 350 = .ok (.iconst 1, 1) := by decide +kernel
theorem dL_law_351 : decode code 351 = .ok (.iadd, 1) := by decide +kernel
theorem dL_law_352 : decode code 352 = .ok (.iaload, 1) := by decide +kernel
theorem dL_law_353 : decode code 353 = .ok (.invokevirtual 35, 3) := by decide +kernel
theorem dL_law_356 : decode code 356 = .ok (.aload_n 2, 1) := by decide +kernel
theorem dL_law_357 : decode code 357 = .ok (.aload_n 0, 1) := by decide +kernel
theorem dL_law_358 : decode code 358 = .ok (.iload_n 3, 1) := by decide +kernel
theorem dL_law_359 : decode code 359 = .ok (.iconst 1, 1) := by decide +kernel
theorem dL_law_360 : decode code 360 = .ok (.iadd, 1) := by decide +kernel
theorem dL_law_361 : decode code 361 = .ok (.iaload, 1) := by decide +kernel
theorem dL_law_362 : decode code 362 = .ok (.invokevirtual 38, 3) := by decide +kernel
theorem dL_law_365 : decode code 365 = .ok (.if_icmp .eq 887, 3) := by decide +kernel
theorem dL_law_368 : decode code 368 = .ok (.iconst 0, 1) := by decide +kernel
theorem dL_law_369 : decode code 369 = .ok (.ireturn, 1) := by decide +kernel
theorem dL_law_370 : decode code 370 = .ok (.aload_n 1, 1) := by decide +kernel
theorem dL_law_371 : decode code 371 = .ok (.aload_n 0, 1) := by decide +kernel
theorem dL_law_372 : decode code 372 = .ok (.iload_n 3, 1) := by decide +kernel
theorem dL_law_373 : decode code 373 = .ok (.iconst 1, 1) := by decide +kernel
theorem dL_law_374 : decode code 374 = .ok (.iadd, 1) := by decide +kernel
theorem dL_law_375 : decode code 375 = .ok (.iaload, 1) := by decide +kernel
theorem dL_law_376 : decode code 376 = .ok (.aload_n 0, 1) := by decide +kernel
theorem dL_law_377 : decode code 377 = .ok (.iload_n 3, 1) := by decide +kernel
theorem dL_law_378 : decode code 378 = .ok (.iconst 2, 1) := by decide +kernel
theorem dL_law_379 : decode code 379 = .ok (.iadd, 1) := by decide +kernel
theorem dL_law_380 : decode code 380 = .ok (.iaload, 1) := by decide +kernel
theorem dL_law_381 : decode code 381 = .ok (.aload_n 0, 1) := by decide +kernel
theorem dL_law_382 : decode code 382 = .ok (.iload_n 3, 1) := by decide +kernel
theorem dL_law_383 : decode code 383 = .ok (.iconst 3, 1) := by decide +kernel
theorem dL_law_384 : decode code 384 = .ok (.iadd, 1) := by decide +kernel
theorem dL_law_385 : decode code 385 = .ok (.iaload, 1) := by decide +kernel
theorem dL_law_386 : decode code 386 = .ok (.aload_n 0, 1) := by decide +kernel
theorem dL_law_387 : decode code 387 = .ok (.iload_n 3, 1) := by decide +kernel
theorem dL_law_388 : decode code 388 = .ok (.iconst 4, 1) := by decide +kernel
theorem dL_law_389 : decode code 389 = .ok (.iadd, 1) := by decide +kernel
theorem dL_law_390 : decode code 390 = .ok (.iaload, 1) := by decide +kernel
theorem dL_law_391 : decode code 391 = .ok (.aload_n 0, 1) := by decide +kernel
theorem dL_law_392 : decode code 392 = .ok (.iload_n 3, 1) := by decide +kernel
theorem dL_law_393 : decode code 393 = .ok (.iconst 5, 1) := by decide +kernel
theorem dL_law_394 : decode code 394 = .ok (.iadd, 1) := by decide +kernel
theorem dL_law_395 : decode code 395 = .ok (.iaload, 1) := by decide +kernel
theorem dL_law_396 : decode code 396 = .ok (.invokevirtual 39, 3) := by decide +kernel
theorem dL_law_399 : decode code 399 = .ok (.aload_n 2, 1) := by decide +kernel
theorem dL_law_400 : decode code 400 = .ok (.aload_n 0, 1) := by decide +kernel
theorem dL_law_401 : decode code 401 = .ok (.iload_n 3, 1) := by decide +kernel
theorem dL_law_402 : decode code 402 = .ok (.iconst 1, 1) := by decide +kernel
theorem dL_law_403 : decode code 403 = .ok (.iadd, 1) := by decide +kernel
theorem dL_law_404 : decode code 404 = .ok (.iaload, 1) := by decide +kernel
theorem dL_law_405 : decode code 405 = .ok (.aload_n 0, 1) := by decide +kernel
theorem dL_law_406 : decode code 406 = .ok (.iload_n 3, 1) := by decide +kernel
theorem dL_law_407 : decode code 407 = .ok (.iconst 2, 1) := by decide +kernel
theorem dL_law_408 : decode code 408 = .ok (.iadd, 1) := by decide +kernel
theorem dL_law_409 : decode code 409 = .ok (.iaload, 1) := by decide +kernel
theorem dL_law_410 : decode code 410 = .ok (.aload_n 0, 1) := by decide +kernel
theorem dL_law_411 : decode code 411 = .ok (.iload_n 3, 1) := by decide +kernel
theorem dL_law_412 : decode code 412 = .ok (.iconst 3, 1) := by decide +kernel
theorem dL_law_413 : decode code 413 = .ok (.iadd, 1) := by decide +kernel
theorem dL_law_414 : decode code 414 = .ok (.iaload, 1) := by decide +kernel
theorem dL_law_415 : decode code 415 = .ok (.aload_n 0, 1) := by decide +kernel
theorem dL_law_416 : decode code 416 = .ok (.iload_n 3, 1) := by decide +kernel
theorem dL_law_417 : decode code 417 = .ok (.iconst 4, 1) := by decide +kernel
theorem dL_law_418 : decode code 418 = .ok (.iadd, 1) := by decide +kernel
theorem dL_law_419 : decode code 419 = .ok (.iaload, 1) := by decide +kernel
theorem dL_law_420 : decode code 420 = .ok (.aload_n 0, 1) := by decide +kernel
theorem dL_law_421 : decode code 421 = .ok (.iload_n 3, 1) := by decide +kernel
theorem dL_law_422 : decode code 422 = .ok (.iconst 5, 1) := by decide +kernel
theorem dL_law_423 : decode code 423 = .ok (.iadd, 1) := by decide +kernel
theorem dL_law_424 : decode code 424 = .ok (.iaload, 1) := by decide +kernel
theorem dL_law_425 : decode code 425 = .ok (.invokevirtual 43, 3) := by decide +kernel
theorem dL_law_428 : decode code 428 = .ok (.if_icmp .eq 824, 3) := by decide +kernel
theorem dL_law_431 : decode code 431 = .ok (.iconst 0, 1) := by decide +kernel
theorem dL_law_432 : decode code 432 = .ok (.ireturn, 1) := by decide +kernel
theorem dL_law_433 : decode code 433 = .ok (.aload_n 1, 1) := by decide +kernel
theorem dL_law_434 : decode code 434 = .ok (.aload_n 0, 1) := by decide +kernel
theorem dL_law_435 : decode code 435 = .ok (.iload_n 3, 1) := by decide +kernel
theorem dL_law_436 : decode code 436 = .ok (.iconst 1, 1) := by decide +kernel
theorem dL_law_437 : decode code 437 = .ok (.iadd, 1) := by decide +kernel
theorem dL_law_438 : decode code 438 = .ok (.iaload, 1) := by decide +kernel
theorem dL_law_439 : decode code 439 = .ok (.invokevirtual 44, 3) := by decide +kernel
theorem dL_law_442 : decode code 442 = .ok (.aload_n 2, 1) := by decide +kernel
theorem dL_law_443 : decode code 443 = .ok (.aload_n 0, 1) := by decide +kernel
theorem dL_law_444 : decode code 444 = .ok (.iload_n 3, 1) := by decide +kernel
theorem dL_law_445 : decode code 445 = .ok (.iconst 1, 1) := by decide +kernel
theorem dL_law_446 : decode code 446 = .ok (.iadd, 1) := by decide +kernel
theorem dL_law_447 : decode code 447 = .ok (.iaload, 1) := by decide +kernel
theorem dL_law_448 : decode code 448 = .ok (.invokevirtual 48, 3) := by decide +kernel
theorem dL_law_451 : decode code 451 = .ok (.if_icmp .eq 801, 3) := by decide +kernel
theorem dL_law_454 : decode code 454 = .ok (.iconst 0, 1) := by decide +kernel
theorem dL_law_455 : decode code 455 = .ok (.ireturn, 1) := by decide +kernel
theorem dL_law_456 : decode code 456 = .ok (.aload_n 1, 1) := by decide +kernel
theorem dL_law_457 : decode code 457 = .ok (.aload_n 0, 1) := by decide +kernel
theorem dL_law_458 : decode code 458 = .ok (.iload_n 3, 1) := by decide +kernel
theorem dL_law_459 : decode code 459 = .ok (.iconst 1, 1) := by decide +kernel
theorem dL_law_460 : decode code 460 = .ok (.iadd, 1) := by decide +kernel
theorem dL_law_461 : decode code 461 = .ok (.iaload, 1) := by decide +kernel
theorem dL_law_462 : decode code 462 = .ok (.invokevirtual 49, 3) := by decide +kernel
theorem dL_law_465 : decode code 465 = .ok (.aload_n 2, 1) := by decide +kernel
theorem dL_law_466 : decode code 466 = .ok (.aload_n 0, 1) := by decide +kernel
theorem dL_law_467 : decode code 467 = .ok (.iload_n 3, 1) := by decide +kernel
theorem dL_law_468 : decode code 468 = .ok (.iconst 1, 1) := by decide +kernel
theorem dL_law_469 : decode code 469 = .ok (.iadd, 1) := by decide +kernel
theorem dL_law_470 : decode code 470 = .ok (.iaload, 1) := by decide +kernel
theorem dL_law_471 : decode code 471 = .ok (.invokevirtual 52, 3) := by decide +kernel
theorem dL_law_474 : decode code 474 = .ok (.if_icmp .eq 778, 3) := by decide +kernel
theorem dL_law_477 : decode code 477 = .ok (.iconst 0, 1) := by decide +kernel
theorem dL_law_478 : decode code 478 = .ok (.ireturn, 1) := by decide +kernel
theorem dL_law_479 : decode code 479 = .ok (.aload_n 1, 1) := by decide +kernel
theorem dL_law_480 : decode code 480 = .ok (.aload_n 0, 1) := by decide +kernel
theorem dL_law_481 : decode code 481 = .ok (.iload_n 3, 1) := by decide +kernel
theorem dL_law_482 : decode code 482 = .ok (.iconst 1, 1) := by decide +kernel
theorem dL_law_483 : decode code 483 = .ok (.iadd, 1) := by decide +kernel
theorem dL_law_484 : decode code 484 = .ok (.iaload, 1) := by decide +kernel
theorem dL_law_485 : decode code 485 = .ok (.invokevirtual 53, 3) := by decide +kernel
theorem dL_law_488 : decode code 488 = .ok (.aload_n 2, 1) := by decide +kernel
theorem dL_law_489 : decode code 489 = .ok (.aload_n 0, 1) := by decide +kernel
theorem dL_law_490 : decode code 490 = .ok (.iload_n 3, 1) := by decide +kernel
theorem dL_law_491 : decode code 491 = .ok (.iconst 1, 1) := by decide +kernel
theorem dL_law_492 : decode code 492 = .ok (.iadd, 1) := by decide +kernel
theorem dL_law_493 : decode code 493 = .ok (.iaload, 1) := by decide +kernel
theorem dL_law_494 : decode code 494 = .ok (.invokevirtual 56, 3) := by decide +kernel
theorem dL_law_497 : decode code 497 = .ok (.if_icmp .eq 755, 3) := by decide +kernel
theorem dL_law_500 : decode code 500 = .ok (.iconst 0, 1) := by decide +kernel
theorem dL_law_501 : decode code 501 = .ok (.ireturn, 1) := by decide +kernel
theorem dL_law_502 : decode code 502 = .ok (.aload_n 1, 1) := by decide +kernel
theorem dL_law_503 : decode code 503 = .ok (.aload_n 0, 1) := by decide +kernel
theorem dL_law_504 : decode code 504 = .ok (.iload_n 3, 1) := by decide +kernel
theorem dL_law_505 : decode code 505 = .ok (.iconst 1, 1) := by decide +kernel
theorem dL_law_506 : decode code 506 = .ok (.iadd, 1) := by decide +kernel
theorem dL_law_507 : decode code 507 = .ok (.iaload, 1) := by decide +kernel
theorem dL_law_508 : decode code 508 = .ok (.aload_n 0, 1) := by decide +kernel
theorem dL_law_509 : decode code 509 = .ok (.iload_n 3, 1) := by decide +kernel
theorem dL_law_510 : decode code 510 = .ok (.iconst 2, 1) := by decide +kernel
theorem dL_law_511 : decode code 511 = .ok (.iadd, 1) := by decide +kernel
theorem dL_law_512 : decode code 512 = .ok (.iaload, 1) := by decide +kernel
theorem dL_law_513 : decode code 513 = .ok (.invokevirtual 57, 3) := by decide +kernel
theorem dL_law_516 : decode code 516 = .ok (.aload_n 2, 1) := by decide +kernel
theorem dL_law_517 : decode code 517 = .ok (.aload_n 0, 1) := by decide +kernel
theorem dL_law_518 : decode code 518 = .ok (.iload_n 3, 1) := by decide +kernel
theorem dL_law_519 : decode code 519 = .ok (.iconst 1, 1) := by decide +kernel
theorem dL_law_520 : decode code 520 = .ok (.iadd, 1) := by decide +kernel
theorem dL_law_521 : decode code 521 = .ok (.iaload, 1) := by decide +kernel
theorem dL_law_522 : decode code 522 = .ok (.aload_n 0, 1) := by decide +kernel
theorem dL_law_523 : decode code 523 = .ok (.iload_n 3, 1) := by decide +kernel
theorem dL_law_524 : decode code 524 = .ok (.iconst 2, 1) := by decide +kernel
theorem dL_law_525 : decode code 525 = .ok (.iadd, 1) := by decide +kernel
theorem dL_law_526 : decode code 526 = .ok (.iaload, 1) := by decide +kernel
theorem dL_law_527 : decode code 527 = .ok (.invokevirtual 61, 3) := by decide +kernel
theorem dL_law_530 : decode code 530 = .ok (.if_icmp .eq 722, 3) := by decide +kernel
theorem dL_law_533 : decode code 533 = .ok (.iconst 0, 1) := by decide +kernel
theorem dL_law_534 : decode code 534 = .ok (.ireturn, 1) := by decide +kernel
theorem dL_law_535 : decode code 535 = .ok (.aload_n 1, 1) := by decide +kernel
theorem dL_law_536 : decode code 536 = .ok (.aload_n 0, 1) := by decide +kernel
theorem dL_law_537 : decode code 537 = .ok (.iload_n 3, 1) := by decide +kernel
theorem dL_law_538 : decode code 538 = .ok (.iconst 1, 1) := by decide +kernel
theorem dL_law_539 : decode code 539 = .ok (.iadd, 1) := by decide +kernel
theorem dL_law_540 : decode code 540 = .ok (.iaload, 1) := by decide +kernel
theorem dL_law_541 : decode code 541 = .ok (.aload_n 0, 1) := by decide +kernel
theorem dL_law_542 : decode code 542 = .ok (.iload_n 3, 1) := by decide +kernel
theorem dL_law_543 : decode code 543 = .ok (.iconst 2, 1) := by decide +kernel
theorem dL_law_544 : decode code 544 = .ok (.iadd, 1) := by decide +kernel
theorem dL_law_545 : decode code 545 = .ok (.iaload, 1) := by decide +kernel
theorem dL_law_546 : decode code 546 = .ok (.invokevirtual 62, 3) := by decide +kernel
theorem dL_law_549 : decode code 549 = .ok (.aload_n 2, 1) := by decide +kernel
theorem dL_law_550 : decode code 550 = .ok (.aload_n 0, 1) := by decide +kernel
theorem dL_law_551 : decode code 551 = .ok (.iload_n 3, 1) := by decide +kernel
theorem dL_law_552 : decode code 552 = .ok (.iconst 1, 1) := by decide +kernel
theorem dL_law_553 : decode code 553 = .ok (.iadd, 1) := by decide +kernel
theorem dL_law_554 : decode code 554 = .ok (.iaload, 1) := by decide +kernel
theorem dL_law_555 : decode code 555 = .ok (.aload_n 0, 1) := by decide +kernel
theorem dL_law_556 : decode code 556 = .ok (.iload_n 3, 1) := by decide +kernel
theorem dL_law_557 : decode code 557 = .ok (.iconst 2, 1) := by decide +kernel
theorem dL_law_558 : decode code 558 = .ok (.iadd, 1) := by decide +kernel
theorem dL_law_559 : decode code 559 = .ok (.iaload, 1) := by decide +kernel
theorem dL_law_560 : decode code 560 = .ok (.invokevirtual 65, 3) := by decide +kernel
theorem dL_law_563 : decode code 563 = .ok (.if_icmp .eq 689, 3) := by decide +kernel
theorem dL_law_566 : decode code 566 = .ok (.iconst 0, 1) := by decide +kernel
theorem dL_law_567 : decode code 567 = .ok (.ireturn, 1) := by decide +kernel
theorem dL_law_568 : decode code 568 = .ok (.aload_n 1, 1) := by decide +kernel
theorem dL_law_569 : decode code 569 = .ok (.aload_n 0, 1) := by decide +kernel
theorem dL_law_570 : decode code 570 = .ok (.iload_n 3, 1) := by decide +kernel
theorem dL_law_571 : decode code 571 = .ok (.iconst 1, 1) := by decide +kernel
theorem dL_law_572 : decode code 572 = .ok (.iadd, 1) := by decide +kernel
theorem dL_law_573 : decode code 573 = .ok (.iaload, 1) := by decide +kernel
theorem dL_law_574 : decode code 574 = .ok (.aload_n 0, 1) := by decide +kernel
theorem dL_law_575 : decode code 575 = .ok (.iload_n 3, 1) := by decide +kernel
theorem dL_law_576 : decode code 576 = .ok (.iconst 2, 1) := by decide +kernel
theorem dL_law_577 : decode code 577 = .ok (.iadd, 1) := by decide +kernel
theorem dL_law_578 : decode code 578 = .ok (.iaload, 1) := by decide +kernel
theorem dL_law_579 : decode code 579 = .ok (.invokevirtual 66, 3) := by decide +kernel
theorem dL_law_582 : decode code 582 = .ok (.aload_n 2, 1) := by decide +kernel
theorem dL_law_583 : decode code 583 = .ok (.aload_n 0, 1) := by decide +kernel
theorem dL_law_584 : decode code 584 = .ok (.iload_n 3, 1) := by decide +kernel
theorem dL_law_585 : decode code 585 = .ok (.iconst 1, 1) := by decide +kernel
theorem dL_law_586 : decode code 586 = .ok (.iadd, 1) := by decide +kernel
theorem dL_law_587 : decode code 587 = .ok (.iaload, 1) := by decide +kernel
theorem dL_law_588 : decode code 588 = .ok (.aload_n 0, 1) := by decide +kernel
theorem dL_law_589 : decode code 589 = .ok (.iload_n 3, 1) := by decide +kernel
theorem dL_law_590 : decode code 590 = .ok (.iconst 2, 1) := by decide +kernel
theorem dL_law_591 : decode code 591 = .ok (.iadd, 1) := by decide +kernel
theorem dL_law_592 : decode code 592 = .ok (.iaload, 1) := by decide +kernel
theorem dL_law_593 : decode code 593 = .ok (.invokevirtual 69, 3) := by decide +kernel
theorem dL_law_596 : decode code 596 = .ok (.if_icmp .eq 656, 3) := by decide +kernel
theorem dL_law_599 : decode code 599 = .ok (.iconst 0, 1) := by decide +kernel
theorem dL_law_600 : decode code 600 = .ok (.ireturn, 1) := by decide +kernel
theorem dL_law_601 : decode code 601 = .ok (.aload_n 1, 1) := by decide +kernel
theorem dL_law_602 : decode code 602 = .ok (.aload_n 0, 1) := by decide +kernel
theorem dL_law_603 : decode code 603 = .ok (.iload_n 3, 1) := by decide +kernel
theorem dL_law_604 : decode code 604 = .ok (.iconst 1, 1) := by decide +kernel
theorem dL_law_605 : decode code 605 = .ok (.iadd, 1) := by decide +kernel
theorem dL_law_606 : decode code 606 = .ok (.iaload, 1) := by decide +kernel
theorem dL_law_607 : decode code 607 = .ok (.aload_n 0, 1) := by decide +kernel
theorem dL_law_608 : decode code 608 = .ok (.iload_n 3, 1) := by decide +kernel
theorem dL_law_609 : decode code 609 = .ok (.iconst 2, 1) := by decide +kernel
theorem dL_law_610 : decode code 610 = .ok (.iadd, 1) := by decide +kernel
theorem dL_law_611 : decode code 611 = .ok (.iaload, 1) := by decide +kernel
theorem dL_law_612 : decode code 612 = .ok (.invokevirtual 70, 3) := by decide +kernel
theorem dL_law_615 : decode code 615 = .ok (.aload_n 2, 1) := by decide +kernel
theorem dL_law_616 : decode code 616 = .ok (.aload_n 0, 1) := by decide +kernel
theorem dL_law_617 : decode code 617 = .ok (.iload_n 3, 1) := by decide +kernel
theorem dL_law_618 : decode code 618 = .ok (.iconst 1, 1) := by decide +kernel
theorem dL_law_619 : decode code 619 = .ok (.iadd, 1) := by decide +kernel
theorem dL_law_620 : decode code 620 = .ok (.iaload, 1) := by decide +kernel
theorem dL_law_621 : decode code 621 = .ok (.aload_n 0, 1) := by decide +kernel
theorem dL_law_622 : decode code 622 = .ok (.iload_n 3, 1) := by decide +kernel
theorem dL_law_623 : decode code 623 = .ok (.iconst 2, 1) := by decide +kernel
theorem dL_law_624 : decode code 624 = .ok (.iadd, 1) := by decide +kernel
theorem dL_law_625 : decode code 625 = .ok (.iaload, 1) := by decide +kernel
theorem dL_law_626 : decode code 626 = .ok (.invokevirtual 73, 3) := by decide +kernel
theorem dL_law_629 : decode code 629 = .ok (.if_icmp .eq 623, 3) := by decide +kernel
theorem dL_law_632 : decode code 632 = .ok (.iconst 0, 1) := by decide +kernel
theorem dL_law_633 : decode code 633 = .ok (.ireturn, 1) := by decide +kernel
theorem dL_law_634 : decode code 634 = .ok (.aload_n 1, 1) := by decide +kernel
theorem dL_law_635 : decode code 635 = .ok (.invokevirtual 74, 3) := by decide +kernel
theorem dL_law_638 : decode code 638 = .ok (.aload_n 2, 1) := by decide +kernel
theorem dL_law_639 : decode code 639 = .ok (.invokevirtual 78, 3) := by decide +kernel
theorem dL_law_642 : decode code 642 = .ok (.if_icmp .eq 610, 3) := by decide +kernel
theorem dL_law_645 : decode code 645 = .ok (.iconst 0, 1) := by decide +kernel
theorem dL_law_646 : decode code 646 = .ok (.ireturn, 1) := by decide +kernel
theorem dL_law_647 : decode code 647 = .ok (.aload_n 1, 1) := by decide +kernel
theorem dL_law_648 : decode code 648 = .ok (.aload_n 0, 1) := by decide +kernel
theorem dL_law_649 : decode code 649 = .ok (.iload_n 3, 1) := by decide +kernel
theorem dL_law_650 : decode code 650 = .ok (.iconst 1, 1) := by decide +kernel
theorem dL_law_651 : decode code 651 = .ok (.iadd, 1) := by decide +kernel
theorem dL_law_652 : decode code 652 = .ok (.iaload, 1) := by decide +kernel
theorem dL_law_653 : decode code 653 = .ok (.aload_n 0, 1) := by decide +kernel
theorem dL_law_654 : decode code 654 = .ok (.iload_n 3, 1) := by decide +kernel
theorem dL_law_655 : decode code 655 = .ok (.iconst 2, 1) := by decide +kernel
theorem dL_law_656 : decode code 656 = .ok (.iadd, 1) := by decide +kernel
theorem dL_law_657 : decode code 657 = .ok (.iaload, 1) := by decide +kernel
theorem dL_law_658 : decode code 658 = .ok (.invokevirtual 79, 3) := by decide +kernel
theorem dL_law_661 : decode code 661 = .ok (.aload_n 2, 1) := by decide +kernel
theorem dL_law_662 : decode code 662 = .ok (.aload_n 0, 1) := by decide +kernel
theorem dL_law_663 : decode code 663 = .ok (.iload_n 3, 1) := by decide +kernel
theorem dL_law_664 : decode code 664 = .ok (.iconst 1, 1) := by decide +kernel
theorem dL_law_665 : decode code 665 = .ok (.iadd, 1) := by decide +kernel
theorem dL_law_666 : decode code 666 = .ok (.iaload, 1) := by decide +kernel
theorem dL_law_667 : decode code 667 = .ok (.aload_n 0, 1) := by decide +kernel
theorem dL_law_668 : decode code 668 = .ok (.iload_n 3, 1) := by decide +kernel
theorem dL_law_669 : decode code 669 = .ok (.iconst 2, 1) := by decide +kernel
theorem dL_law_670 : decode code 670 = .ok (.iadd, 1) := by decide +kernel
theorem dL_law_671 : decode code 671 = .ok (.iaload, 1) := by decide +kernel
theorem dL_law_672 : decode code 672 = .ok (.invokevirtual 82, 3) := by decide +kernel
theorem dL_law_675 : decode code 675 = .ok (.if_icmp .eq 577, 3) := by decide +kernel
theorem dL_law_678 : decode code 678 = .ok (.iconst 0, 1) := by decide +kernel
theorem dL_law_679 : decode code 679 = .ok (.ireturn, 1) := by decide +kernel
theorem dL_law_680 : decode code 680 = .ok (.aload_n 1, 1) := by decide +kernel
theorem dL_law_681 : decode code 681 = .ok (.aload_n 0, 1) := by decide +kernel
theorem dL_law_682 : decode code 682 = .ok (.iload_n 3, 1) := by decide +kernel
theorem dL_law_683 : decode code 683 = .ok (.iconst 1, 1) := by decide +kernel
theorem dL_law_684 : decode code 684 = .ok (.iadd, 1) := by decide +kernel
theorem dL_law_685 : decode code 685 = .ok (.iaload, 1) := by decide +kernel
theorem dL_law_686 : decode code 686 = .ok (.invokevirtual 83, 3) := by decide +kernel
theorem dL_law_689 : decode code 689 = .ok (.aload_n 2, 1) := by decide +kernel
theorem dL_law_690 : decode code 690 = .ok (.aload_n 0, 1) := by decide +kernel
theorem dL_law_691 : decode code 691 = .ok (.iload_n 3, 1) := by decide +kernel
theorem dL_law_692 : decode code 692 = .ok (.iconst 1, 1) := by decide +kernel
theorem dL_law_693 : decode code 693 = .ok (.iadd, 1) := by decide +kernel
theorem dL_law_694 : decode code 694 = .ok (.iaload, 1) := by decide +kernel
theorem dL_law_695 : decode code 695 = .ok (.invokevirtual 86, 3) := by decide +kernel
theorem dL_law_698 : decode code 698 = .ok (.if_icmp .eq 554, 3) := by decide +kernel
theorem dL_law_701 : decode code 701 = .ok (.iconst 0, 1) := by decide +kernel
theorem dL_law_702 : decode code 702 = .ok (.ireturn, 1) := by decide +kernel
theorem dL_law_703 : decode code 703 = .ok (.aload_n 1, 1) := by decide +kernel
theorem dL_law_704 : decode code 704 = .ok (.aload_n 0, 1) := by decide +kernel
theorem dL_law_705 : decode code 705 = .ok (.iload_n 3, 1) := by decide +kernel
theorem dL_law_706 : decode code 706 = .ok (.iconst 1, 1) := by decide +kernel
theorem dL_law_707 : decode code 707 = .ok (.iadd, 1) := by decide +kernel
theorem dL_law_708 : decode code 708 = .ok (.iaload, 1) := by decide +kernel
theorem dL_law_709 : decode code 709 = .ok (.aload_n 0, 1) := by decide +kernel
theorem dL_law_710 : decode code 710 = .ok (.iload_n 3, 1) := by decide +kernel
theorem dL_law_711 : decode code 711 = .ok (.iconst 2, 1) := by decide +kernel
theorem dL_law_712 : decode code 712 = .ok (.iadd, 1) := by decide +kernel
theorem dL_law_713 : decode code 713 = .ok (.iaload, 1) := by decide +kernel
theorem dL_law_714 : decode code 714 = .ok (.invokevirtual 87, 3) := by decide +kernel
theorem dL_law_717 : decode code 717 = .ok (.aload_n 2, 1) := by decide +kernel
theorem dL_law_718 : decode code 718 = .ok (.aload_n 0, 1) := by decide +kernel
theorem dL_law_719 : decode code 719 = .ok (.iload_n 3, 1) := by decide +kernel
theorem dL_law_720 : decode code 720 = .ok (.iconst 1, 1) := by decide +kernel
theorem dL_law_721 : decode code 721 = .ok (.iadd, 1) := by decide +kernel
theorem dL_law_722 : decode code 722 = .ok (.iaload, 1) := by decide +kernel
theorem dL_law_723 : decode code 723 = .ok (.aload_n 0, 1) := by decide +kernel
theorem dL_law_724 : decode code 724 = .ok (.iload_n 3, 1) := by decide +kernel
theorem dL_law_725 : decode code 725 = .ok (.iconst 2, 1) := by decide +kernel
theorem dL_law_726 : decode code 726 = .ok (.iadd, 1) := by decide +kernel
theorem dL_law_727 : decode code 727 = .ok (.iaload, 1) := by decide +kernel
theorem dL_law_728 : decode code 728 = .ok (.invokevirtual 90, 3) := by decide +kernel
theorem dL_law_731 : decode code 731 = .ok (.if_icmp .eq 521, 3) := by decide +kernel
theorem dL_law_734 : decode code 734 = .ok (.iconst 0, 1) := by decide +kernel
theorem dL_law_735 : decode code 735 = .ok (.ireturn, 1) := by decide +kernel
theorem dL_law_736 : decode code 736 = .ok (.aload_n 1, 1) := by decide +kernel
theorem dL_law_737 : decode code 737 = .ok (.aload_n 0, 1) := by decide +kernel
theorem dL_law_738 : decode code 738 = .ok (.iload_n 3, 1) := by decide +kernel
theorem dL_law_739 : decode code 739 = .ok (.iconst 1, 1) := by decide +kernel
theorem dL_law_740 : decode code 740 = .ok (.iadd, 1) := by decide +kernel
theorem dL_law_741 : decode code 741 = .ok (.iaload, 1) := by decide +kernel
theorem dL_law_742 : decode code 742 = .ok (.aload_n 0, 1) := by decide +kernel
theorem dL_law_743 : decode code 743 = .ok (.iload_n 3, 1) := by decide +kernel
theorem dL_law_744 : decode code 744 = .ok (.iconst 2, 1) := by decide +kernel
theorem dL_law_745 : decode code 745 = .ok (.iadd, 1) := by decide +kernel
theorem dL_law_746 : decode code 746 = .ok (.iaload, 1) := by decide +kernel
theorem dL_law_747 : decode code 747 = .ok (.invokevirtual 91, 3) := by decide +kernel
theorem dL_law_750 : decode code 750 = .ok (.aload_n 2, 1) := by decide +kernel
theorem dL_law_751 : decode code 751 = .ok (.aload_n 0, 1) := by decide +kernel
theorem dL_law_752 : decode code 752 = .ok (.iload_n 3, 1) := by decide +kernel
theorem dL_law_753 : decode code 753 = .ok (.iconst 1, 1) := by decide +kernel
theorem dL_law_754 : decode code 754 = .ok (.iadd, 1) := by decide +kernel
theorem dL_law_755 : decode code 755 = .ok (.iaload, 1) := by decide +kernel
theorem dL_law_756 : decode code 756 = .ok (.aload_n 0, 1) := by decide +kernel
theorem dL_law_757 : decode code 757 = .ok (.iload_n 3, 1) := by decide +kernel
theorem dL_law_758 : decode code 758 = .ok (.iconst 2, 1) := by decide +kernel
theorem dL_law_759 : decode code 759 = .ok (.iadd, 1) := by decide +kernel
theorem dL_law_760 : decode code 760 = .ok (.iaload, 1) := by decide +kernel
theorem dL_law_761 : decode code 761 = .ok (.invokevirtual 94, 3) := by decide +kernel
theorem dL_law_764 : decode code 764 = .ok (.if_icmp .eq 488, 3) := by decide +kernel
theorem dL_law_767 : decode code 767 = .ok (.iconst 0, 1) := by decide +kernel
theorem dL_law_768 : decode code 768 = .ok (.ireturn, 1) := by decide +kernel
theorem dL_law_769 : decode code 769 = .ok (.aload_n 1, 1) := by decide +kernel
theorem dL_law_770 : decode code 770 = .ok (.aload_n 0, 1) := by decide +kernel
theorem dL_law_771 : decode code 771 = .ok (.iload_n 3, 1) := by decide +kernel
theorem dL_law_772 : decode code 772 = .ok (.iconst 1, 1) := by decide +kernel
theorem dL_law_773 : decode code 773 = .ok (.iadd, 1) := by decide +kernel
theorem dL_law_774 : decode code 774 = .ok (.iaload, 1) := by decide +kernel
theorem dL_law_775 : decode code 775 = .ok (.aload_n 0, 1) := by decide +kernel
theorem dL_law_776 : decode code 776 = .ok (.iload_n 3, 1) := by decide +kernel
theorem dL_law_777 : decode code 777 = .ok (.iconst 2, 1) := by decide +kernel
theorem dL_law_778 : decode code 778 = .ok (.iadd, 1) := by decide +kernel
theorem dL_law_779 : decode code 779 = .ok (.iaload, 1) := by decide +kernel
theorem dL_law_780 : decode code 780 = .ok (.invokevirtual 95, 3) := by decide +kernel
theorem dL_law_783 : decode code 783 = .ok (.aload_n 2, 1) := by decide +kernel
theorem dL_law_784 : decode code 784 = .ok (.aload_n 0, 1) := by decide +kernel
theorem dL_law_785 : decode code 785 = .ok (.iload_n 3, 1) := by decide +kernel
theorem dL_law_786 : decode code 786 = .ok (.iconst 1, 1) := by decide +kernel
theorem dL_law_787 : decode code 787 = .ok (.iadd, 1) := by decide +kernel
theorem dL_law_788 : decode code 788 = .ok (.iaload, 1) := by decide +kernel
theorem dL_law_789 : decode code 789 = .ok (.aload_n 0, 1) := by decide +kernel
theorem dL_law_790 : decode code 790 = .ok (.iload_n 3, 1) := by decide +kernel
theorem dL_law_791 : decode code 791 = .ok (.iconst 2, 1) := by decide +kernel
theorem dL_law_792 : decode code 792 = .ok (.iadd, 1) := by decide +kernel
theorem dL_law_793 : decode code 793 = .ok (.iaload, 1) := by decide +kernel
theorem dL_law_794 : decode code 794 = .ok (.invokevirtual 98, 3) := by decide +kernel
theorem dL_law_797 : decode code 797 = .ok (.if_icmp .eq 455, 3) := by decide +kernel
theorem dL_law_800 : decode code 800 = .ok (.iconst 0, 1) := by decide +kernel
theorem dL_law_801 : decode code 801 = .ok (.ireturn, 1) := by decide +kernel
theorem dL_law_802 : decode code 802 = .ok (.aload_n 1, 1) := by decide +kernel
theorem dL_law_803 : decode code 803 = .ok (.aload_n 0, 1) := by decide +kernel
theorem dL_law_804 : decode code 804 = .ok (.iload_n 3, 1) := by decide +kernel
theorem dL_law_805 : decode code 805 = .ok (.iconst 1, 1) := by decide +kernel
theorem dL_law_806 : decode code 806 = .ok (.iadd, 1) := by decide +kernel
theorem dL_law_807 : decode code 807 = .ok (.iaload, 1) := by decide +kernel
theorem dL_law_808 : decode code 808 = .ok (.invokevirtual 99, 3) := by decide +kernel
theorem dL_law_811 : decode code 811 = .ok (.aload_n 2, 1) := by decide +kernel
theorem dL_law_812 : decode code 812 = .ok (.aload_n 0, 1) := by decide +kernel
theorem dL_law_813 : decode code 813 = .ok (.iload_n 3, 1) := by decide +kernel
theorem dL_law_814 : decode code 814 = .ok (.iconst 1, 1) := by decide +kernel
theorem dL_law_815 : decode code 815 = .ok (.iadd, 1) := by decide +kernel
theorem dL_law_816 : decode code 816 = .ok (.iaload, 1) := by decide +kernel
theorem dL_law_817 : decode code 817 = .ok (.invokevirtual 102, 3) := by decide +kernel
theorem dL_law_820 : decode code 820 = .ok (.if_icmp .eq 432, 3) := by decide +kernel
theorem dL_law_823 : decode code 823 = .ok (.iconst 0, 1) := by decide +kernel
theorem dL_law_824 : decode code 824 = .ok (.ireturn, 1) := by decide +kernel
theorem dL_law_825 : decode code 825 = .ok (.aload_n 1, 1) := by decide +kernel
theorem dL_law_826 : decode code 826 = .ok (.aload_n 0, 1) := by decide +kernel
theorem dL_law_827 : decode code 827 = .ok (.iload_n 3, 1) := by decide +kernel
theorem dL_law_828 : decode code 828 = .ok (.iconst 1, 1) := by decide +kernel
theorem dL_law_829 : decode code 829 = .ok (.iadd, 1) := by decide +kernel
theorem dL_law_830 : decode code 830 = .ok (.iaload, 1) := by decide +kernel
theorem dL_law_831 : decode code 831 = .ok (.aload_n 0, 1) := by decide +kernel
theorem dL_law_832 : decode code 832 = .ok (.iload_n 3, 1) := by decide +kernel
theorem dL_law_833 : decode code 833 = .ok (.iconst 2, 1) := by decide +kernel
theorem dL_law_834 : decode code 834 = .ok (.iadd, 1) := by decide +kernel
theorem dL_law_835 : decode code 835 = .ok (.iaload, 1) := by decide +kernel
theorem dL_law_836 : decode code 836 = .ok (.aload_n 0, 1) := by decide +kernel
theorem dL_law_837 : decode code 837 = .ok (.iload_n 3, 1) := by decide +kernel
theorem dL_law_838 : decode code 838 = .ok (.iconst 3, 1) := by decide +kernel
theorem dL_law_839 : decode code 839 = .ok (.iadd, 1) := by decide +kernel
theorem dL_law_840 : decode code 840 = .ok (.iaload, 1) := by decide +kernel
theorem dL_law_841 : decode code 841 = .ok (.ifCond .eq 7, 3) := by decide +kernel
theorem dL_law_844 : decode code 844 = .ok (.iconst 1, 1) := by decide +kernel
theorem dL_law_845 : decode code 845 = .ok (.goto 4, 3) := by decide +kernel
theorem dL_law_848 : decode code 848 = .ok (.iconst 0, 1) := by decide +kernel
theorem dL_law_849 : decode code 849 = .ok (.invokevirtual 103, 3) := by decide +kernel
theorem dL_law_852 : decode code 852 = .ok (.aload_n 2, 1) := by decide +kernel
theorem dL_law_853 : decode code 853 = .ok (.aload_n 0, 1) := by decide +kernel
theorem dL_law_854 : decode code 854 = .ok (.iload_n 3, 1) := by decide +kernel
theorem dL_law_855 : decode code 855 = .ok (.iconst 1, 1) := by decide +kernel
theorem dL_law_856 : decode code 856 = .ok (.iadd, 1) := by decide +kernel
theorem dL_law_857 : decode code 857 = .ok (.iaload, 1) := by decide +kernel
theorem dL_law_858 : decode code 858 = .ok (.aload_n 0, 1) := by decide +kernel
theorem dL_law_859 : decode code 859 = .ok (.iload_n 3, 1) := by decide +kernel
theorem dL_law_860 : decode code 860 = .ok (.iconst 2, 1) := by decide +kernel
theorem dL_law_861 : decode code 861 = .ok (.iadd, 1) := by decide +kernel
theorem dL_law_862 : decode code 862 = .ok (.iaload, 1) := by decide +kernel
theorem dL_law_863 : decode code 863 = .ok (.aload_n 0, 1) := by decide +kernel
theorem dL_law_864 : decode code 864 = .ok (.iload_n 3, 1) := by decide +kernel
theorem dL_law_865 : decode code 865 = .ok (.iconst 3, 1) := by decide +kernel
theorem dL_law_866 : decode code 866 = .ok (.iadd, 1) := by decide +kernel
theorem dL_law_867 : decode code 867 = .ok (.iaload, 1) := by decide +kernel
theorem dL_law_868 : decode code 868 = .ok (.ifCond .eq 7, 3) := by decide +kernel
theorem dL_law_871 : decode code 871 = .ok (.iconst 1, 1) := by decide +kernel
theorem dL_law_872 : decode code 872 = .ok (.goto 4, 3) := by decide +kernel
theorem dL_law_875 : decode code 875 = .ok (.iconst 0, 1) := by decide +kernel
theorem dL_law_876 : decode code 876 = .ok (.invokevirtual 107, 3) := by decide +kernel
theorem dL_law_879 : decode code 879 = .ok (.if_icmp .eq 373, 3) := by decide +kernel
theorem dL_law_882 : decode code 882 = .ok (.iconst 0, 1) := by decide +kernel
theorem dL_law_883 : decode code 883 = .ok (.ireturn, 1) := by decide +kernel
theorem dL_law_884 : decode code 884 = .ok (.aload_n 1, 1) := by decide +kernel
theorem dL_law_885 : decode code 885 = .ok (.aload_n 0, 1) := by decide +kernel
theorem dL_law_886 : decode code 886 = .ok (.iload_n 3, 1) := by decide +kernel
theorem dL_law_887 : decode code 887 = .ok (.iconst 1, 1) := by decide +kernel
theorem dL_law_888 : decode code 888 = .ok (.iadd, 1) := by decide +kernel
theorem dL_law_889 : decode code 889 = .ok (.iaload, 1) := by decide +kernel
theorem dL_law_890 : decode code 890 = .ok (.invokevirtual 108, 3) := by decide +kernel
theorem dL_law_893 : decode code 893 = .ok (.aload_n 2, 1) := by decide +kernel
theorem dL_law_894 : decode code 894 = .ok (.aload_n 0, 1) := by decide +kernel
theorem dL_law_895 : decode code 895 = .ok (.iload_n 3, 1) := by decide +kernel
theorem dL_law_896 : decode code 896 = .ok (.iconst 1, 1) := by decide +kernel
theorem dL_law_897 : decode code 897 = .ok (.iadd, 1) := by decide +kernel
theorem dL_law_898 : decode code 898 = .ok (.iaload, 1) := by decide +kernel
theorem dL_law_899 : decode code 899 = .ok (.invokevirtual 111, 3) := by decide +kernel
theorem dL_law_902 : decode code 902 = .ok (.if_icmp .eq 350, 3) := by decide +kernel
theorem dL_law_905 : decode code 905 = .ok (.iconst 0, 1) := by decide +kernel
theorem dL_law_906 : decode code 906 = .ok (.ireturn, 1) := by decide +kernel
theorem dL_law_907 : decode code 907 = .ok (.aload_n 1, 1) := by decide +kernel
theorem dL_law_908 : decode code 908 = .ok (.aload_n 0, 1) := by decide +kernel
theorem dL_law_909 : decode code 909 = .ok (.iload_n 3, 1) := by decide +kernel
theorem dL_law_910 : decode code 910 = .ok (.iconst 1, 1) := by decide +kernel
theorem dL_law_911 : decode code 911 = .ok (.iadd, 1) := by decide +kernel
theorem dL_law_912 : decode code 912 = .ok (.iaload, 1) := by decide +kernel
theorem dL_law_913 : decode code 913 = .ok (.aload_n 0, 1) := by decide +kernel
theorem dL_law_914 : decode code 914 = .ok (.iload_n 3, 1) := by decide +kernel
theorem dL_law_915 : decode code 915 = .ok (.iconst 2, 1) := by decide +kernel
theorem dL_law_916 : decode code 916 = .ok (.iadd, 1) := by decide +kernel
theorem dL_law_917 : decode code 917 = .ok (.iaload, 1) := by decide +kernel
theorem dL_law_918 : decode code 918 = .ok (.invokevirtual 112, 3) := by decide +kernel
theorem dL_law_921 : decode code 921 = .ok (.aload_n 2, 1) := by decide +kernel
theorem dL_law_922 : decode code 922 = .ok (.aload_n 0, 1) := by decide +kernel
theorem dL_law_923 : decode code 923 = .ok (.iload_n 3, 1) := by decide +kernel
theorem dL_law_924 : decode code 924 = .ok (.iconst 1, 1) := by decide +kernel
theorem dL_law_925 : decode code 925 = .ok (.iadd, 1) := by decide +kernel
theorem dL_law_926 : decode code 926 = .ok (.iaload, 1) := by decide +kernel
theorem dL_law_927 : decode code 927 = .ok (.aload_n 0, 1) := by decide +kernel
theorem dL_law_928 : decode code 928 = .ok (.iload_n 3, 1) := by decide +kernel
theorem dL_law_929 : decode code 929 = .ok (.iconst 2, 1) := by decide +kernel
theorem dL_law_930 : decode code 930 = .ok (.iadd, 1) := by decide +kernel
theorem dL_law_931 : decode code 931 = .ok (.iaload, 1) := by decide +kernel
theorem dL_law_932 : decode code 932 = .ok (.invokevirtual 115, 3) := by decide +kernel
theorem dL_law_935 : decode code 935 = .ok (.if_icmp .eq 317, 3) := by decide +kernel
theorem dL_law_938 : decode code 938 = .ok (.iconst 0, 1) := by decide +kernel
theorem dL_law_939 : decode code 939 = .ok (.ireturn, 1) := by decide +kernel
theorem dL_law_940 : decode code 940 = .ok (.aload_n 1, 1) := by decide +kernel
theorem dL_law_941 : decode code 941 = .ok (.aload_n 0, 1) := by decide +kernel
theorem dL_law_942 : decode code 942 = .ok (.iload_n 3, 1) := by decide +kernel
theorem dL_law_943 : decode code 943 = .ok (.iconst 1, 1) := by decide +kernel
theorem dL_law_944 : decode code 944 = .ok (.iadd, 1) := by decide +kernel
theorem dL_law_945 : decode code 945 = .ok (.iaload, 1) := by decide +kernel
theorem dL_law_946 : decode code 946 = .ok (.invokevirtual 116, 3) := by decide +kernel
theorem dL_law_949 : decode code 949 = .ok (.aload_n 2, 1) := by decide +kernel
theorem dL_law_950 : decode code 950 = .ok (.aload_n 0, 1) := by decide +kernel
theorem dL_law_951 : decode code 951 = .ok (.iload_n 3, 1) := by decide +kernel
theorem dL_law_952 : decode code 952 = .ok (.iconst 1, 1) := by decide +kernel
theorem dL_law_953 : decode code 953 = .ok (.iadd, 1) := by decide +kernel
theorem dL_law_954 : decode code 954 = .ok (.iaload, 1) := by decide +kernel
theorem dL_law_955 : decode code 955 = .ok (.invokevirtual 119, 3) := by decide +kernel
theorem dL_law_958 : decode code 958 = .ok (.if_icmp .eq 294, 3) := by decide +kernel
theorem dL_law_961 : decode code 961 = .ok (.iconst 0, 1) := by decide +kernel
theorem dL_law_962 : decode code 962 = .ok (.ireturn, 1) := by decide +kernel
theorem dL_law_963 : decode code 963 = .ok (.aload_n 1, 1) := by decide +kernel
theorem dL_law_964 : decode code 964 = .ok (.aload_n 0, 1) := by decide +kernel
theorem dL_law_965 : decode code 965 = .ok (.iload_n 3, 1) := by decide +kernel
theorem dL_law_966 : decode code 966 = .ok (.iconst 1, 1) := by decide +kernel
theorem dL_law_967 : decode code 967 = .ok (.iadd, 1) := by decide +kernel
theorem dL_law_968 : decode code 968 = .ok (.iaload, 1) := by decide +kernel
theorem dL_law_969 : decode code 969 = .ok (.aload_n 0, 1) := by decide +kernel
theorem dL_law_970 : decode code 970 = .ok (.iload_n 3, 1) := by decide +kernel
theorem dL_law_971 : decode code 971 = .ok (.iconst 2, 1) := by decide +kernel
theorem dL_law_972 : decode code 972 = .ok (.iadd, 1) := by decide +kernel
theorem dL_law_973 : decode code 973 = .ok (.iaload, 1) := by decide +kernel
theorem dL_law_974 : decode code 974 = .ok (.invokevirtual 120, 3) := by decide +kernel
theorem dL_law_977 : decode code 977 = .ok (.aload_n 2, 1) := by decide +kernel
theorem dL_law_978 : decode code 978 = .ok (.aload_n 0, 1) := by decide +kernel
theorem dL_law_979 : decode code 979 = .ok (.iload_n 3, 1) := by decide +kernel
theorem dL_law_980 : decode code 980 = .ok (.iconst 1, 1) := by decide +kernel
theorem dL_law_981 : decode code 981 = .ok (.iadd, 1) := by decide +kernel
theorem dL_law_982 : decode code 982 = .ok (.iaload, 1) := by decide +kernel
theorem dL_law_983 : decode code 983 = .ok (.aload_n 0, 1) := by decide +kernel
theorem dL_law_984 : decode code 984 = .ok (.iload_n 3, 1) := by decide +kernel
theorem dL_law_985 : decode code 985 = .ok (.iconst 2, 1) := by decide +kernel
theorem dL_law_986 : decode code 986 = .ok (.iadd, 1) := by decide +kernel
theorem dL_law_987 : decode code 987 = .ok (.iaload, 1) := by decide +kernel
theorem dL_law_988 : decode code 988 = .ok (.invokevirtual 123, 3) := by decide +kernel
theorem dL_law_991 : decode code 991 = .ok (.if_icmp .eq 261, 3) := by decide +kernel
theorem dL_law_994 : decode code 994 = .ok (.iconst 0, 1) := by decide +kernel
theorem dL_law_995 : decode code 995 = .ok (.ireturn, 1) := by decide +kernel
theorem dL_law_996 : decode code 996 = .ok (.aload_n 1, 1) := by decide +kernel
theorem dL_law_997 : decode code 997 = .ok (.aload_n 0, 1) := by decide +kernel
theorem dL_law_998 : decode code 998 = .ok (.iload_n 3, 1) := by decide +kernel
theorem dL_law_999 : decode code 999 = .ok (.iconst 1, 1) := by decide +kernel
theorem dL_law_1000 : decode code 1000 = .ok (.iadd, 1) := by decide +kernel
theorem dL_law_1001 : decode code 1001 = .ok (.iaload, 1) := by decide +kernel
theorem dL_law_1002 : decode code 1002 = .ok (.invokevirtual 124, 3) := by decide +kernel
theorem dL_law_1005 : decode code 1005 = .ok (.aload_n 2, 1) := by decide +kernel
theorem dL_law_1006 : decode code 1006 = .ok (.aload_n 0, 1) := by decide +kernel
theorem dL_law_1007 : decode code 1007 = .ok (.iload_n 3, 1) := by decide +kernel
theorem dL_law_1008 : decode code 1008 = .ok (.iconst 1, 1) := by decide +kernel
theorem dL_law_1009 : decode code 1009 = .ok (.iadd, 1) := by decide +kernel
theorem dL_law_1010 : decode code 1010 = .ok (.iaload, 1) := by decide +kernel
theorem dL_law_1011 : decode code 1011 = .ok (.invokevirtual 127, 3) := by decide +kernel
theorem dL_law_1014 : decode code 1014 = .ok (.if_icmp .eq 238, 3) := by decide +kernel
theorem dL_law_1017 : decode code 1017 = .ok (.iconst 0, 1) := by decide +kernel
theorem dL_law_1018 : decode code 1018 = .ok (.ireturn, 1) := by decide +kernel
theorem dL_law_1019 : decode code 1019 = .ok (.aload_n 1, 1) := by decide +kernel
theorem dL_law_1020 : decode code 1020 = .ok (.aload_n 0, 1) := by decide +kernel
theorem dL_law_1021 : decode code 1021 = .ok (.iload_n 3, 1) := by decide +kernel
theorem dL_law_1022 : decode code 1022 = .ok (.iconst 1, 1) := by decide +kernel
theorem dL_law_1023 : decode code 1023 = .ok (.iadd, 1) := by decide +kernel
theorem dL_law_1024 : decode code 1024 = .ok (.iaload, 1) := by decide +kernel
theorem dL_law_1025 : decode code 1025 = .ok (.aload_n 0, 1) := by decide +kernel
theorem dL_law_1026 : decode code 1026 = .ok (.iload_n 3, 1) := by decide +kernel
theorem dL_law_1027 : decode code 1027 = .ok (.iconst 2, 1) := by decide +kernel
theorem dL_law_1028 : decode code 1028 = .ok (.iadd, 1) := by decide +kernel
theorem dL_law_1029 : decode code 1029 = .ok (.iaload, 1) := by decide +kernel
theorem dL_law_1030 : decode code 1030 = .ok (.aload_n 0, 1) := by decide +kernel
theorem dL_law_1031 : decode code 1031 = .ok (.iload_n 3, 1) := by decide +kernel
theorem dL_law_1032 : decode code 1032 = .ok (.iconst 3, 1) := by decide +kernel
theorem dL_law_1033 : decode code 1033 = .ok (.iadd, 1) := by decide +kernel
theorem dL_law_1034 : decode code 1034 = .ok (.iaload, 1) := by decide +kernel
theorem dL_law_1035 : decode code 1035 = .ok (.invokevirtual 128, 3) := by decide +kernel
theorem dL_law_1038 : decode code 1038 = .ok (.aload_n 2, 1) := by decide +kernel
theorem dL_law_1039 : decode code 1039 = .ok (.aload_n 0, 1) := by decide +kernel
theorem dL_law_1040 : decode code 1040 = .ok (.iload_n 3, 1) := by decide +kernel
theorem dL_law_1041 : decode code 1041 = .ok (.iconst 1, 1) := by decide +kernel
theorem dL_law_1042 : decode code 1042 = .ok (.iadd, 1) := by decide +kernel
theorem dL_law_1043 : decode code 1043 = .ok (.iaload, 1) := by decide +kernel
theorem dL_law_1044 : decode code 1044 = .ok (.aload_n 0, 1) := by decide +kernel
theorem dL_law_1045 : decode code 1045 = .ok (.iload_n 3, 1) := by decide +kernel
theorem dL_law_1046 : decode code 1046 = .ok (.iconst 2, 1) := by decide +kernel
theorem dL_law_1047 : decode code 1047 = .ok (.iadd, 1) := by decide +kernel
theorem dL_law_1048 : decode code 1048 = .ok (.iaload, 1) := by decide +kernel
theorem dL_law_1049 : decode code 1049 = .ok (.aload_n 0, 1) := by decide +kernel
theorem dL_law_1050 : decode code 1050 = .ok (.iload_n 3, 1) := by decide +kernel
theorem dL_law_1051 : decode code 1051 = .ok (.iconst 3, 1) := by decide +kernel
theorem dL_law_1052 : decode code 1052 = .ok (.iadd, 1) := by decide +kernel
theorem dL_law_1053 : decode code 1053 = .ok (.iaload, 1) := by decide +kernel
theorem dL_law_1054 : decode code 1054 = .ok (.invokevirtual 132, 3) := by decide +kernel
theorem dL_law_1057 : decode code 1057 = .ok (.if_icmp .eq 195, 3) := by decide +kernel
theorem dL_law_1060 : decode code 1060 = .ok (.iconst 0, 1) := by decide +kernel
theorem dL_law_1061 : decode code 1061 = .ok (.ireturn, 1) := by decide +kernel
theorem dL_law_1062 : decode code 1062 = .ok (.aload_n 1, 1) := by decide +kernel
theorem dL_law_1063 : decode code 1063 = .ok (.aload_n 0, 1) := by decide +kernel
theorem dL_law_1064 : decode code 1064 = .ok (.iload_n 3, 1) := by decide +kernel
theorem dL_law_1065 : decode code 1065 = .ok (.iconst 1, 1) := by decide +kernel
theorem dL_law_1066 : decode code 1066 = .ok (.iadd, 1) := by decide +kernel
theorem dL_law_1067 : decode code 1067 = .ok (.iaload, 1) := by decide +kernel
theorem dL_law_1068 : decode code 1068 = .ok (.aload_n 0, 1) := by decide +kernel
theorem dL_law_1069 : decode code 1069 = .ok (.iload_n 3, 1) := by decide +kernel
theorem dL_law_1070 : decode code 1070 = .ok (.iconst 2, 1) := by decide +kernel
theorem dL_law_1071 : decode code 1071 = .ok (.iadd, 1) := by decide +kernel
theorem dL_law_1072 : decode code 1072 = .ok (.iaload, 1) := by decide +kernel
theorem dL_law_1073 : decode code 1073 = .ok (.invokevirtual 133, 3) := by decide +kernel
theorem dL_law_1076 : decode code 1076 = .ok (.aload_n 2, 1) := by decide +kernel
theorem dL_law_1077 : decode code 1077 = .ok (.aload_n 0, 1) := by decide +kernel
theorem dL_law_1078 : decode code 1078 = .ok (.iload_n 3, 1) := by decide +kernel
theorem dL_law_1079 : decode code 1079 = .ok (.iconst 1, 1) := by decide +kernel
theorem dL_law_1080 : decode code 1080 = .ok (.iadd, 1) := by decide +kernel
theorem dL_law_1081 : decode code 1081 = .ok (.iaload, 1) := by decide +kernel
theorem dL_law_1082 : decode code 1082 = .ok (.aload_n 0, 1) := by decide +kernel
theorem dL_law_1083 : decode code 1083 = .ok (.iload_n 3, 1) := by decide +kernel
theorem dL_law_1084 : decode code 1084 = .ok (.iconst 2, 1) := by decide +kernel
theorem dL_law_1085 : decode code 1085 = .ok (.iadd, 1) := by decide +kernel
theorem dL_law_1086 : decode code 1086 = .ok (.iaload, 1) := by decide +kernel
theorem dL_law_1087 : decode code 1087 = .ok (.invokevirtual 136, 3) := by decide +kernel
theorem dL_law_1090 : decode code 1090 = .ok (.if_icmp .eq 162, 3) := by decide +kernel
theorem dL_law_1093 : decode code 1093 = .ok (.iconst 0, 1) := by decide +kernel
theorem dL_law_1094 : decode code 1094 = .ok (.ireturn, 1) := by decide +kernel
theorem dL_law_1095 : decode code 1095 = .ok (.aload_n 1, 1) := by decide +kernel
theorem dL_law_1096 : decode code 1096 = .ok (.aload_n 0, 1) := by decide +kernel
theorem dL_law_1097 : decode code 1097 = .ok (.iload_n 3, 1) := by decide +kernel
theorem dL_law_1098 : decode code 1098 = .ok (.iconst 1, 1) := by decide +kernel
theorem dL_law_1099 : decode code 1099 = .ok (.iadd, 1) := by decide +kernel
theorem dL_law_1100 : decode code 1100 = .ok (.iaload, 1) := by decide +kernel
theorem dL_law_1101 : decode code 1101 = .ok (.invokevirtual 137, 3) := by decide +kernel
theorem dL_law_1104 : decode code 1104 = .ok (.aload_n 2, 1) := by decide +kernel
theorem dL_law_1105 : decode code 1105 = .ok (.aload_n 0, 1) := by decide +kernel
theorem dL_law_1106 : decode code 1106 = .ok (.iload_n 3, 1) := by decide +kernel
theorem dL_law_1107 : decode code 1107 = .ok (.iconst 1, 1) := by decide +kernel
theorem dL_law_1108 : decode code 1108 = .ok (.iadd, 1) := by decide +kernel
theorem dL_law_1109 : decode code 1109 = .ok (.iaload, 1) := by decide +kernel
theorem dL_law_1110 : decode code 1110 = .ok (.invokevirtual 140, 3) := by decide +kernel
theorem dL_law_1113 : decode code 1113 = .ok (.if_icmp .eq 139, 3) := by decide +kernel
theorem dL_law_1116 : decode code 1116 = .ok (.iconst 0, 1) := by decide +kernel
theorem dL_law_1117 : decode code 1117 = .ok (.ireturn, 1) := by decide +kernel
theorem dL_law_1118 : decode code 1118 = .ok (.aload_n 1, 1) := by decide +kernel
theorem dL_law_1119 : decode code 1119 = .ok (.aload_n 0, 1) := by decide +kernel
theorem dL_law_1120 : decode code 1120 = .ok (.iload_n 3, 1) := by decide +kernel
theorem dL_law_1121 : decode code 1121 = .ok (.iconst 1, 1) := by decide +kernel
theorem dL_law_1122 : decode code 1122 = .ok (.iadd, 1) := by decide +kernel
theorem dL_law_1123 : decode code 1123 = .ok (.iaload, 1) := by decide +kernel
theorem dL_law_1124 : decode code 1124 = .ok (.invokevirtual 141, 3) := by decide +kernel
theorem dL_law_1127 : decode code 1127 = .ok (.aload_n 2, 1) := by decide +kernel
theorem dL_law_1128 : decode code 1128 = .ok (.aload_n 0, 1) := by decide +kernel
theorem dL_law_1129 : decode code 1129 = .ok (.iload_n 3, 1) := by decide +kernel
theorem dL_law_1130 : decode code 1130 = .ok (.iconst 1, 1) := by decide +kernel
theorem dL_law_1131 : decode code 1131 = .ok (.iadd, 1) := by decide +kernel
theorem dL_law_1132 : decode code 1132 = .ok (.iaload, 1) := by decide +kernel
theorem dL_law_1133 : decode code 1133 = .ok (.invokevirtual 144, 3) := by decide +kernel
theorem dL_law_1136 : decode code 1136 = .ok (.if_icmp .eq 116, 3) := by decide +kernel
theorem dL_law_1139 : decode code 1139 = .ok (.iconst 0, 1) := by decide +kernel
theorem dL_law_1140 : decode code 1140 = .ok (.ireturn, 1) := by decide +kernel
theorem dL_law_1141 : decode code 1141 = .ok (.aload_n 1, 1) := by decide +kernel
theorem dL_law_1142 : decode code 1142 = .ok (.aload_n 0, 1) := by decide +kernel
theorem dL_law_1143 : decode code 1143 = .ok (.iload_n 3, 1) := by decide +kernel
theorem dL_law_1144 : decode code 1144 = .ok (.iconst 1, 1) := by decide +kernel
theorem dL_law_1145 : decode code 1145 = .ok (.iadd, 1) := by decide +kernel
theorem dL_law_1146 : decode code 1146 = .ok (.iaload, 1) := by decide +kernel
theorem dL_law_1147 : decode code 1147 = .ok (.invokevirtual 145, 3) := by decide +kernel
theorem dL_law_1150 : decode code 1150 = .ok (.aload_n 2, 1) := by decide +kernel
theorem dL_law_1151 : decode code 1151 = .ok (.aload_n 0, 1) := by decide +kernel
theorem dL_law_1152 : decode code 1152 = .ok (.iload_n 3, 1) := by decide +kernel
theorem dL_law_1153 : decode code 1153 = .ok (.iconst 1, 1) := by decide +kernel
theorem dL_law_1154 : decode code 1154 = .ok (.iadd, 1) := by decide +kernel
theorem dL_law_1155 : decode code 1155 = .ok (.iaload, 1) := by decide +kernel
theorem dL_law_1156 : decode code 1156 = .ok (.invokevirtual 148, 3) := by decide +kernel
theorem dL_law_1159 : decode code 1159 = .ok (.if_icmp .eq 93, 3) := by decide +kernel
theorem dL_law_1162 : decode code 1162 = .ok (.iconst 0, 1) := by decide +kernel
theorem dL_law_1163 : decode code 1163 = .ok (.ireturn, 1) := by decide +kernel
theorem dL_law_1164 : decode code 1164 = .ok (.aload_n 1, 1) := by decide +kernel
theorem dL_law_1165 : decode code 1165 = .ok (.invokevirtual 149, 3) := by decide +kernel
theorem dL_law_1168 : decode code 1168 = .ok (.aload_n 2, 1) := by decide +kernel
theorem dL_law_1169 : decode code 1169 = .ok (.invokevirtual 152, 3) := by decide +kernel
theorem dL_law_1172 : decode code 1172 = .ok (.if_icmp .eq 80, 3) := by decide +kernel
theorem dL_law_1175 : decode code 1175 = .ok (.iconst 0, 1) := by decide +kernel
theorem dL_law_1176 : decode code 1176 = .ok (.ireturn, 1) := by decide +kernel
theorem dL_law_1177 : decode code 1177 = .ok (.aload_n 1, 1) := by decide +kernel
theorem dL_law_1178 : decode code 1178 = .ok (.invokevirtual 153, 3) := by decide +kernel
theorem dL_law_1181 : decode code 1181 = .ok (.aload_n 2, 1) := by decide +kernel
theorem dL_law_1182 : decode code 1182 = .ok (.invokevirtual 157, 3) := by decide +kernel
theorem dL_law_1185 : decode code 1185 = .ok (.if_icmp .eq 67, 3) := by decide +kernel
theorem dL_law_1188 : decode code 1188 = .ok (.iconst 0, 1) := by decide +kernel
theorem dL_law_1189 : decode code 1189 = .ok (.ireturn, 1) := by decide +kernel
theorem dL_law_1190 : decode code 1190 = .ok (.aload_n 1, 1) := by decide +kernel
theorem dL_law_1191 : decode code 1191 = .ok (.aload_n 0, 1) := by decide +kernel
theorem dL_law_1192 : decode code 1192 = .ok (.iload_n 3, 1) := by decide +kernel
theorem dL_law_1193 : decode code 1193 = .ok (.iconst 1, 1) := by decide +kernel
theorem dL_law_1194 : decode code 1194 = .ok (.iadd, 1) := by decide +kernel
theorem dL_law_1195 : decode code 1195 = .ok (.iaload, 1) := by decide +kernel
theorem dL_law_1196 : decode code 1196 = .ok (.ifCond .eq 7, 3) := by decide +kernel
theorem dL_law_1199 : decode code 1199 = .ok (.iconst 1, 1) := by decide +kernel
theorem dL_law_1200 : decode code 1200 = .ok (.goto 4, 3) := by decide +kernel
theorem dL_law_1203 : decode code 1203 = .ok (.iconst 0, 1) := by decide +kernel
theorem dL_law_1204 : decode code 1204 = .ok (.invokevirtual 158, 3) := by decide +kernel
theorem dL_law_1207 : decode code 1207 = .ok (.aload_n 2, 1) := by decide +kernel
theorem dL_law_1208 : decode code 1208 = .ok (.aload_n 0, 1) := by decide +kernel
theorem dL_law_1209 : decode code 1209 = .ok (.iload_n 3, 1) := by decide +kernel
theorem dL_law_1210 : decode code 1210 = .ok (.iconst 1, 1) := by decide +kernel
theorem dL_law_1211 : decode code 1211 = .ok (.iadd, 1) := by decide +kernel
theorem dL_law_1212 : decode code 1212 = .ok (.iaload, 1) := by decide +kernel
theorem dL_law_1213 : decode code 1213 = .ok (.ifCond .eq 7, 3) := by decide +kernel
theorem dL_law_1216 : decode code 1216 = .ok (.iconst 1, 1) := by decide +kernel
theorem dL_law_1217 : decode code 1217 = .ok (.goto 4, 3) := by decide +kernel
theorem dL_law_1220 : decode code 1220 = .ok (.iconst 0, 1) := by decide +kernel
theorem dL_law_1221 : decode code 1221 = .ok (.invokevirtual 162, 3) := by decide +kernel
theorem dL_law_1224 : decode code 1224 = .ok (.if_icmp .eq 28, 3) := by decide +kernel
theorem dL_law_1227 : decode code 1227 = .ok (.iconst 0, 1) := by decide +kernel
theorem dL_law_1228 : decode code 1228 = .ok (.ireturn, 1) := by decide +kernel
theorem dL_law_1229 : decode code 1229 = .ok (.aload_n 1, 1) := by decide +kernel
theorem dL_law_1230 : decode code 1230 = .ok (.aload_n 0, 1) := by decide +kernel
theorem dL_law_1231 : decode code 1231 = .ok (.iload_n 3, 1) := by decide +kernel
theorem dL_law_1232 : decode code 1232 = .ok (.iconst 1, 1) := by decide +kernel
theorem dL_law_1233 : decode code 1233 = .ok (.iadd, 1) := by decide +kernel
theorem dL_law_1234 : decode code 1234 = .ok (.iaload, 1) := by decide +kernel
theorem dL_law_1235 : decode code 1235 = .ok (.invokevirtual 163, 3) := by decide +kernel
theorem dL_law_1238 : decode code 1238 = .ok (.aload_n 2, 1) := by decide +kernel
theorem dL_law_1239 : decode code 1239 = .ok (.aload_n 0, 1) := by decide +kernel
theorem dL_law_1240 : decode code 1240 = .ok (.iload_n 3, 1) := by decide +kernel
theorem dL_law_1241 : decode code 1241 = .ok (.iconst 1, 1) := by decide +kernel
theorem dL_law_1242 : decode code 1242 = .ok (.iadd, 1) := by decide +kernel
theorem dL_law_1243 : decode code 1243 = .ok (.iaload, 1) := by decide +kernel
theorem dL_law_1244 : decode code 1244 = .ok (.invokevirtual 166, 3) := by decide +kernel
theorem dL_law_1247 : decode code 1247 = .ok (.if_icmp .eq 5, 3) := by decide +kernel
theorem dL_law_1250 : decode code 1250 = .ok (.iconst 0, 1) := by decide +kernel
theorem dL_law_1251 : decode code 1251 = .ok (.ireturn, 1) := by decide +kernel
theorem dL_law_1252 : decode code 1252 = .ok (.iinc 3 6, 3) := by decide +kernel
theorem dL_law_1255 : decode code 1255 = .ok (.goto (-1237), 3) := by decide +kernel
theorem dL_law_1258 : decode code 1258 = .ok (.iconst 1, 1) := by decide +kernel
theorem dL_law_1259 : decode code 1259 = .ok (.ireturn, 1) := by decide +kernel
theorem lw_bit {x : Int32} : lwb x = nI 0 ∨ lwb x = nI 1 := by
  by_cases h : x = 0
  · exact Or.inl (if_pos h)
  · exact Or.inr (if_neg h)
theorem q_call_image' {h k : zHp} (R : qRel h k) (x : Int32) : qCall (f_X10_image (lwb x) h) (f_X11_image (lwb x) k) := by
  rcases lw_bit (x := x) with e | e
  · rw [e]; exact q_call_image R 0 (by decide)
  · rw [e]; exact q_call_image R 1 (by decide)
theorem mlL_13 : Cond.methodLink R_law 13 mX10_state.1 ∈ zTb := zTb_in 538 (by decide +kernel) rfl
theorem mlL_17 : Cond.methodLink R_law 17 mX11_state.1 ∈ zTb := zTb_in 1511 (by decide +kernel) rfl
theorem lc_0 {N n : Nat} {xs : Nat → Int32} {h k : zHp} (hN : N ≤ 3072) (hn : n + 6 ≤ N) (R : qRel h k) (K : ∀ h' k', qRel h' k' → Lw N xs 1252 n [] h' k') : Lw N xs 192 n [] h k := by
  obtain ⟨v, h', k', e1, e2, R'⟩ := q_call_state R (xs (n + 1))
  refine Lw.a1 dL_law_192 ?_
  refine Lw.arg 1 hN hn (by decide) dL_law_193 dL_law_194 dL_law_195 dL_law_196 dL_law_197 ?_
  refine Lw.X1 (s_X10_state (xs (n + 1)) h) e1 dL_law_198 mlL_13 mv_X10_state xO_X10 (Nat.le_of_ble_eq_true rfl) (Nat.le_of_ble_eq_true rfl) ?_
  refine Lw.a2 dL_law_201 ?_
  refine Lw.arg 1 hN hn (by decide) dL_law_202 dL_law_203 dL_law_204 dL_law_205 dL_law_206 ?_
  refine Lw.M1 (s_X11_state (xs (n + 1)) k) e2 dL_law_207 mlL_17 mv_X11_state mC (Nat.le_of_ble_eq_true rfl) (Nat.le_of_ble_eq_true rfl) ?_
  refine Lw.same 1252 dL_law_210 rfl ?_
  exact K h' k' R'
theorem mlL_18 : Cond.methodLink R_law 18 mX10_chair.1 ∈ zTb := zTb_in 546 (by decide +kernel) rfl
theorem mlL_21 : Cond.methodLink R_law 21 mX11_chair.1 ∈ zTb := zTb_in 1515 (by decide +kernel) rfl
theorem lc_1 {N n : Nat} {xs : Nat → Int32} {h k : zHp} (hN : N ≤ 3072) (hn : n + 6 ≤ N) (R : qRel h k) (K : ∀ h' k', qRel h' k' → Lw N xs 1252 n [] h' k') : Lw N xs 215 n [] h k := by
  obtain ⟨v, h', k', e1, e2, R'⟩ := q_call_chair R (xs (n + 1))
  refine Lw.a1 dL_law_215 ?_
  refine Lw.arg 1 hN hn (by decide) dL_law_216 dL_law_217 dL_law_218 dL_law_219 dL_law_220 ?_
  refine Lw.X1 (s_X10_chair (xs (n + 1)) h) e1 dL_law_221 mlL_18 mv_X10_chair xO_X10 (Nat.le_of_ble_eq_true rfl) (Nat.le_of_ble_eq_true rfl) ?_
  refine Lw.a2 dL_law_224 ?_
  refine Lw.arg 1 hN hn (by decide) dL_law_225 dL_law_226 dL_law_227 dL_law_228 dL_law_229 ?_
  refine Lw.M1 (s_X11_chair (xs (n + 1)) k) e2 dL_law_230 mlL_21 mv_X11_chair mC (Nat.le_of_ble_eq_true rfl) (Nat.le_of_ble_eq_true rfl) ?_
  refine Lw.same 1252 dL_law_233 rfl ?_
  exact K h' k' R'
theorem mlL_22 : Cond.methodLink R_law 22 mX10_person.1 ∈ zTb := zTb_in 561 (by decide +kernel) rfl
theorem mlL_25 : Cond.methodLink R_law 25 mX11_person.1 ∈ zTb := zTb_in 1523 (by decide +kernel) rfl
theorem lc_2 {N n : Nat} {xs : Nat → Int32} {h k : zHp} (hN : N ≤ 3072) (hn : n + 6 ≤ N) (R : qRel h k) (K : ∀ h' k', qRel h' k' → Lw N xs 1252 n [] h' k') : Lw N xs 238 n [] h k := by
  obtain ⟨v, h', k', e1, e2, R'⟩ := q_call_person R (xs (n + 1))
  refine Lw.a1 dL_law_238 ?_
  refine Lw.arg 1 hN hn (by decide) dL_law_239 dL_law_240 dL_law_241 dL_law_242 dL_law_243 ?_
  refine Lw.X1 (s_X10_person (xs (n + 1)) h) e1 dL_law_244 mlL_22 mv_X10_person xO_X10 (Nat.le_of_ble_eq_true rfl) (Nat.le_of_ble_eq_true rfl) ?_
  refine Lw.a2 dL_law_247 ?_
  refine Lw.arg 1 hN hn (by decide) dL_law_248 dL_law_249 dL_law_250 dL_law_251 dL_law_252 ?_
  refine Lw.M1 (s_X11_person (xs (n + 1)) k) e2 dL_law_253 mlL_25 mv_X11_person mC (Nat.le_of_ble_eq_true rfl) (Nat.le_of_ble_eq_true rfl) ?_
  refine Lw.same 1252 dL_law_256 rfl ?_
  exact K h' k' R'
theorem mlL_26 : Cond.methodLink R_law 26 mX10_set.1 ∈ zTb := zTb_in 569 (by decide +kernel) rfl
theorem mlL_30 : Cond.methodLink R_law 30 mX11_set.1 ∈ zTb := zTb_in 1527 (by decide +kernel) rfl
theorem lc_3 {N n : Nat} {xs : Nat → Int32} {h k : zHp} (hN : N ≤ 3072) (hn : n + 6 ≤ N) (R : qRel h k) (K : ∀ h' k', qRel h' k' → Lw N xs 1252 n [] h' k') : Lw N xs 261 n [] h k := by
  obtain ⟨v, h', k', e1, e2, R'⟩ := q_call_set R (xs (n + 1)) (xs (n + 2)) (xs (n + 3))
  refine Lw.a1 dL_law_261 ?_
  refine Lw.arg 1 hN hn (by decide) dL_law_262 dL_law_263 dL_law_264 dL_law_265 dL_law_266 ?_
  refine Lw.arg 2 hN hn (by decide) dL_law_267 dL_law_268 dL_law_269 dL_law_270 dL_law_271 ?_
  refine Lw.arg 3 hN hn (by decide) dL_law_272 dL_law_273 dL_law_274 dL_law_275 dL_law_276 ?_
  refine Lw.X3 (s_X10_set (xs (n + 1)) (xs (n + 2)) (xs (n + 3)) h) e1 dL_law_277 mlL_26 mv_X10_set xO_X10 (Nat.le_of_ble_eq_true rfl) (Nat.le_of_ble_eq_true rfl) ?_
  refine Lw.a2 dL_law_280 ?_
  refine Lw.arg 1 hN hn (by decide) dL_law_281 dL_law_282 dL_law_283 dL_law_284 dL_law_285 ?_
  refine Lw.arg 2 hN hn (by decide) dL_law_286 dL_law_287 dL_law_288 dL_law_289 dL_law_290 ?_
  refine Lw.arg 3 hN hn (by decide) dL_law_291 dL_law_292 dL_law_293 dL_law_294 dL_law_295 ?_
  refine Lw.M3 (s_X11_set (xs (n + 1)) (xs (n + 2)) (xs (n + 3)) k) e2 dL_law_296 mlL_30 mv_X11_set mC (Nat.le_of_ble_eq_true rfl) (Nat.le_of_ble_eq_true rfl) ?_
  refine Lw.same 1252 dL_law_299 rfl ?_
  exact K h' k' R'
theorem mlL_31 : Cond.methodLink R_law 31 mX10_act.1 ∈ zTb := zTb_in 591 (by decide +kernel) rfl
theorem mlL_34 : Cond.methodLink R_law 34 mX11_act.1 ∈ zTb := zTb_in 1699 (by decide +kernel) rfl
theorem lc_4 {N n : Nat} {xs : Nat → Int32} {h k : zHp} (hN : N ≤ 3072) (hn : n + 6 ≤ N) (R : qRel h k) (K : ∀ h' k', qRel h' k' → Lw N xs 1252 n [] h' k') : Lw N xs 304 n [] h k := by
  obtain ⟨v, h', k', e1, e2, R'⟩ := q_call_act R (xs (n + 1)) (xs (n + 2)) (xs (n + 3))
  refine Lw.a1 dL_law_304 ?_
  refine Lw.arg 1 hN hn (by decide) dL_law_305 dL_law_306 dL_law_307 dL_law_308 dL_law_309 ?_
  refine Lw.arg 2 hN hn (by decide) dL_law_310 dL_law_311 dL_law_312 dL_law_313 dL_law_314 ?_
  refine Lw.arg 3 hN hn (by decide) dL_law_315 dL_law_316 dL_law_317 dL_law_318 dL_law_319 ?_
  refine Lw.X3 (s_X10_act (xs (n + 1)) (xs (n + 2)) (xs (n + 3)) h) e1 dL_law_320 mlL_31 mv_X10_act xO_X10 (Nat.le_of_ble_eq_true rfl) (Nat.le_of_ble_eq_true rfl) ?_
  refine Lw.a2 dL_law_323 ?_
  refine Lw.arg 1 hN hn (by decide) dL_law_324 dL_law_325 dL_law_326 dL_law_327 dL_law_328 ?_
  refine Lw.arg 2 hN hn (by decide) dL_law_329 dL_law_330 dL_law_331 dL_law_332 dL_law_333 ?_
  refine Lw.arg 3 hN hn (by decide) dL_law_334 dL_law_335 dL_law_336 dL_law_337 dL_law_338 ?_
  refine Lw.M3 (s_X11_act (xs (n + 1)) (xs (n + 2)) (xs (n + 3)) k) e2 dL_law_339 mlL_34 mv_X11_act mC (Nat.le_of_ble_eq_true rfl) (Nat.le_of_ble_eq_true rfl) ?_
  refine Lw.same 1252 dL_law_342 rfl ?_
  exact K h' k' R'
theorem mlL_35 : Cond.methodLink R_law 35 mX10_minutes.1 ∈ zTb := zTb_in 701 (by decide +kernel) rfl
theorem mlL_38 : Cond.methodLink R_law 38 mX11_minutes.1 ∈ zTb := zTb_in 1793 (by decide +kernel) rfl
theorem lc_5 {N n : Nat} {xs : Nat → Int32} {h k : zHp} (hN : N ≤ 3072) (hn : n + 6 ≤ N) (R : qRel h k) (K : ∀ h' k', qRel h' k' → Lw N xs 1252 n [] h' k') : Lw N xs 347 n [] h k := by
  obtain ⟨v, h', k', e1, e2, R'⟩ := q_call_minutes R (xs (n + 1))
  refine Lw.a1 dL_law_347 ?_
  refine Lw.arg 1 hN hn (by decide) dL_law_348 dL_law_349 dL_law_350 dL_law_351 dL_law_352 ?_
  refine Lw.X1 (s_X10_minutes (xs (n + 1)) h) e1 dL_law_353 mlL_35 mv_X10_minutes xO_X10 (Nat.le_of_ble_eq_true rfl) (Nat.le_of_ble_eq_true rfl) ?_
  refine Lw.a2 dL_law_356 ?_
  refine Lw.arg 1 hN hn (by decide) dL_law_357 dL_law_358 dL_law_359 dL_law_360 dL_law_361 ?_
  refine Lw.M1 (s_X11_minutes (xs (n + 1)) k) e2 dL_law_362 mlL_38 mv_X11_minutes mC (Nat.le_of_ble_eq_true rfl) (Nat.le_of_ble_eq_true rfl) ?_
  refine Lw.same 1252 dL_law_365 rfl ?_
  exact K h' k' R'
theorem mlL_39 : Cond.methodLink R_law 39 mX10_feed.1 ∈ zTb := zTb_in 748 (by decide +kernel) rfl
theorem mlL_43 : Cond.methodLink R_law 43 mX11_feed.1 ∈ zTb := zTb_in 1551 (by decide +kernel) rfl
theorem lc_6 {N n : Nat} {xs : Nat → Int32} {h k : zHp} (hN : N ≤ 3072) (hn : n + 6 ≤ N) (R : qRel h k) (K : ∀ h' k', qRel h' k' → Lw N xs 1252 n [] h' k') : Lw N xs 370 n [] h k := by
  obtain ⟨v, h', k', e1, e2, R'⟩ := q_call_feed R (xs (n + 1)) (xs (n + 2)) (xs (n + 3)) (xs (n + 4)) (xs (n + 5))
  refine Lw.a1 dL_law_370 ?_
  refine Lw.arg 1 hN hn (by decide) dL_law_371 dL_law_372 dL_law_373 dL_law_374 dL_law_375 ?_
  refine Lw.arg 2 hN hn (by decide) dL_law_376 dL_law_377 dL_law_378 dL_law_379 dL_law_380 ?_
  refine Lw.arg 3 hN hn (by decide) dL_law_381 dL_law_382 dL_law_383 dL_law_384 dL_law_385 ?_
  refine Lw.arg 4 hN hn (by decide) dL_law_386 dL_law_387 dL_law_388 dL_law_389 dL_law_390 ?_
  refine Lw.arg 5 hN hn (by decide) dL_law_391 dL_law_392 dL_law_393 dL_law_394 dL_law_395 ?_
  refine Lw.X5 (s_X10_feed (xs (n + 1)) (xs (n + 2)) (xs (n + 3)) (xs (n + 4)) (xs (n + 5)) h) e1 dL_law_396 mlL_39 mv_X10_feed xO_X10 (Nat.le_of_ble_eq_true rfl) (Nat.le_of_ble_eq_true rfl) ?_
  refine Lw.a2 dL_law_399 ?_
  refine Lw.arg 1 hN hn (by decide) dL_law_400 dL_law_401 dL_law_402 dL_law_403 dL_law_404 ?_
  refine Lw.arg 2 hN hn (by decide) dL_law_405 dL_law_406 dL_law_407 dL_law_408 dL_law_409 ?_
  refine Lw.arg 3 hN hn (by decide) dL_law_410 dL_law_411 dL_law_412 dL_law_413 dL_law_414 ?_
  refine Lw.arg 4 hN hn (by decide) dL_law_415 dL_law_416 dL_law_417 dL_law_418 dL_law_419 ?_
  refine Lw.arg 5 hN hn (by decide) dL_law_420 dL_law_421 dL_law_422 dL_law_423 dL_law_424 ?_
  refine Lw.M5 (s_X11_feed (xs (n + 1)) (xs (n + 2)) (xs (n + 3)) (xs (n + 4)) (xs (n + 5)) k) e2 dL_law_425 mlL_43 mv_X11_feed mC (Nat.le_of_ble_eq_true rfl) (Nat.le_of_ble_eq_true rfl) ?_
  refine Lw.same 1252 dL_law_428 rfl ?_
  exact K h' k' R'
theorem mlL_44 : Cond.methodLink R_law 44 mX10_end.1 ∈ zTb := zTb_in 756 (by decide +kernel) rfl
theorem mlL_48 : Cond.methodLink R_law 48 mX11_end.1 ∈ zTb := zTb_in 1559 (by decide +kernel) rfl
theorem lc_7 {N n : Nat} {xs : Nat → Int32} {h k : zHp} (hN : N ≤ 3072) (hn : n + 6 ≤ N) (R : qRel h k) (K : ∀ h' k', qRel h' k' → Lw N xs 1252 n [] h' k') : Lw N xs 433 n [] h k := by
  obtain ⟨v, h', k', e1, e2, R'⟩ := q_call_end R (xs (n + 1))
  refine Lw.a1 dL_law_433 ?_
  refine Lw.arg 1 hN hn (by decide) dL_law_434 dL_law_435 dL_law_436 dL_law_437 dL_law_438 ?_
  refine Lw.X1 (s_X10_end (xs (n + 1)) h) e1 dL_law_439 mlL_44 mv_X10_end xO_X10 (Nat.le_of_ble_eq_true rfl) (Nat.le_of_ble_eq_true rfl) ?_
  refine Lw.a2 dL_law_442 ?_
  refine Lw.arg 1 hN hn (by decide) dL_law_443 dL_law_444 dL_law_445 dL_law_446 dL_law_447 ?_
  refine Lw.M1 (s_X11_end (xs (n + 1)) k) e2 dL_law_448 mlL_48 mv_X11_end mC (Nat.le_of_ble_eq_true rfl) (Nat.le_of_ble_eq_true rfl) ?_
  refine Lw.same 1252 dL_law_451 rfl ?_
  exact K h' k' R'
theorem mlL_49 : Cond.methodLink R_law 49 mX10_text.1 ∈ zTb := zTb_in 760 (by decide +kernel) rfl
theorem mlL_52 : Cond.methodLink R_law 52 mX11_text.1 ∈ zTb := zTb_in 1563 (by decide +kernel) rfl
theorem lc_8 {N n : Nat} {xs : Nat → Int32} {h k : zHp} (hN : N ≤ 3072) (hn : n + 6 ≤ N) (R : qRel h k) (K : ∀ h' k', qRel h' k' → Lw N xs 1252 n [] h' k') : Lw N xs 456 n [] h k := by
  obtain ⟨v, h', k', e1, e2, R'⟩ := q_call_text R (xs (n + 1))
  refine Lw.a1 dL_law_456 ?_
  refine Lw.arg 1 hN hn (by decide) dL_law_457 dL_law_458 dL_law_459 dL_law_460 dL_law_461 ?_
  refine Lw.X1 (s_X10_text (xs (n + 1)) h) e1 dL_law_462 mlL_49 mv_X10_text xO_X10 (Nat.le_of_ble_eq_true rfl) (Nat.le_of_ble_eq_true rfl) ?_
  refine Lw.a2 dL_law_465 ?_
  refine Lw.arg 1 hN hn (by decide) dL_law_466 dL_law_467 dL_law_468 dL_law_469 dL_law_470 ?_
  refine Lw.M1 (s_X11_text (xs (n + 1)) k) e2 dL_law_471 mlL_52 mv_X11_text mC (Nat.le_of_ble_eq_true rfl) (Nat.le_of_ble_eq_true rfl) ?_
  refine Lw.same 1252 dL_law_474 rfl ?_
  exact K h' k' R'
theorem mlL_53 : Cond.methodLink R_law 53 mX10_fault.1 ∈ zTb := zTb_in 989 (by decide +kernel) rfl
theorem mlL_56 : Cond.methodLink R_law 56 mX11_fault.1 ∈ zTb := zTb_in 1695 (by decide +kernel) rfl
theorem lc_9 {N n : Nat} {xs : Nat → Int32} {h k : zHp} (hN : N ≤ 3072) (hn : n + 6 ≤ N) (R : qRel h k) (K : ∀ h' k', qRel h' k' → Lw N xs 1252 n [] h' k') : Lw N xs 479 n [] h k := by
  obtain ⟨v, h', k', e1, e2, R'⟩ := q_call_fault R (xs (n + 1))
  refine Lw.a1 dL_law_479 ?_
  refine Lw.arg 1 hN hn (by decide) dL_law_480 dL_law_481 dL_law_482 dL_law_483 dL_law_484 ?_
  refine Lw.X1 (s_X10_fault (xs (n + 1)) h) e1 dL_law_485 mlL_53 mv_X10_fault xO_X10 (Nat.le_of_ble_eq_true rfl) (Nat.le_of_ble_eq_true rfl) ?_
  refine Lw.a2 dL_law_488 ?_
  refine Lw.arg 1 hN hn (by decide) dL_law_489 dL_law_490 dL_law_491 dL_law_492 dL_law_493 ?_
  refine Lw.M1 (s_X11_fault (xs (n + 1)) k) e2 dL_law_494 mlL_56 mv_X11_fault mC (Nat.le_of_ble_eq_true rfl) (Nat.le_of_ble_eq_true rfl) ?_
  refine Lw.same 1252 dL_law_497 rfl ?_
  exact K h' k' R'
theorem mlL_57 : Cond.methodLink R_law 57 mX10_of.1 ∈ zTb := zTb_in 993 (by decide +kernel) rfl
theorem mlL_61 : Cond.methodLink R_law 61 mX11_of.1 ∈ zTb := zTb_in 1829 (by decide +kernel) rfl
theorem lc_10 {N n : Nat} {xs : Nat → Int32} {h k : zHp} (hN : N ≤ 3072) (hn : n + 6 ≤ N) (R : qRel h k) (K : ∀ h' k', qRel h' k' → Lw N xs 1252 n [] h' k') : Lw N xs 502 n [] h k := by
  obtain ⟨v, h', k', e1, e2, R'⟩ := q_call_of R (xs (n + 1)) (xs (n + 2))
  refine Lw.a1 dL_law_502 ?_
  refine Lw.arg 1 hN hn (by decide) dL_law_503 dL_law_504 dL_law_505 dL_law_506 dL_law_507 ?_
  refine Lw.arg 2 hN hn (by decide) dL_law_508 dL_law_509 dL_law_510 dL_law_511 dL_law_512 ?_
  refine Lw.X2 (s_X10_of (xs (n + 1)) (xs (n + 2)) h) e1 dL_law_513 mlL_57 mv_X10_of xO_X10 (Nat.le_of_ble_eq_true rfl) (Nat.le_of_ble_eq_true rfl) ?_
  refine Lw.a2 dL_law_516 ?_
  refine Lw.arg 1 hN hn (by decide) dL_law_517 dL_law_518 dL_law_519 dL_law_520 dL_law_521 ?_
  refine Lw.arg 2 hN hn (by decide) dL_law_522 dL_law_523 dL_law_524 dL_law_525 dL_law_526 ?_
  refine Lw.M2 (s_X11_of (xs (n + 1)) (xs (n + 2)) k) e2 dL_law_527 mlL_61 mv_X11_of mC (Nat.le_of_ble_eq_true rfl) (Nat.le_of_ble_eq_true rfl) ?_
  refine Lw.same 1252 dL_law_530 rfl ?_
  exact K h' k' R'
theorem mlL_62 : Cond.methodLink R_law 62 mX10_who.1 ∈ zTb := zTb_in 998 (by decide +kernel) rfl
theorem mlL_65 : Cond.methodLink R_law 65 mX11_who.1 ∈ zTb := zTb_in 1833 (by decide +kernel) rfl
theorem lc_11 {N n : Nat} {xs : Nat → Int32} {h k : zHp} (hN : N ≤ 3072) (hn : n + 6 ≤ N) (R : qRel h k) (K : ∀ h' k', qRel h' k' → Lw N xs 1252 n [] h' k') : Lw N xs 535 n [] h k := by
  obtain ⟨v, h', k', e1, e2, R'⟩ := q_call_who R (xs (n + 1)) (xs (n + 2))
  refine Lw.a1 dL_law_535 ?_
  refine Lw.arg 1 hN hn (by decide) dL_law_536 dL_law_537 dL_law_538 dL_law_539 dL_law_540 ?_
  refine Lw.arg 2 hN hn (by decide) dL_law_541 dL_law_542 dL_law_543 dL_law_544 dL_law_545 ?_
  refine Lw.X2 (s_X10_who (xs (n + 1)) (xs (n + 2)) h) e1 dL_law_546 mlL_62 mv_X10_who xO_X10 (Nat.le_of_ble_eq_true rfl) (Nat.le_of_ble_eq_true rfl) ?_
  refine Lw.a2 dL_law_549 ?_
  refine Lw.arg 1 hN hn (by decide) dL_law_550 dL_law_551 dL_law_552 dL_law_553 dL_law_554 ?_
  refine Lw.arg 2 hN hn (by decide) dL_law_555 dL_law_556 dL_law_557 dL_law_558 dL_law_559 ?_
  refine Lw.M2 (s_X11_who (xs (n + 1)) (xs (n + 2)) k) e2 dL_law_560 mlL_65 mv_X11_who mC (Nat.le_of_ble_eq_true rfl) (Nat.le_of_ble_eq_true rfl) ?_
  refine Lw.same 1252 dL_law_563 rfl ?_
  exact K h' k' R'
theorem mlL_66 : Cond.methodLink R_law 66 mX10_book.1 ∈ zTb := zTb_in 1009 (by decide +kernel) rfl
theorem mlL_69 : Cond.methodLink R_law 69 mX11_book.1 ∈ zTb := zTb_in 1837 (by decide +kernel) rfl
theorem lc_12 {N n : Nat} {xs : Nat → Int32} {h k : zHp} (hN : N ≤ 3072) (hn : n + 6 ≤ N) (R : qRel h k) (K : ∀ h' k', qRel h' k' → Lw N xs 1252 n [] h' k') : Lw N xs 568 n [] h k := by
  obtain ⟨v, h', k', e1, e2, R'⟩ := q_call_book R (xs (n + 1)) (xs (n + 2))
  refine Lw.a1 dL_law_568 ?_
  refine Lw.arg 1 hN hn (by decide) dL_law_569 dL_law_570 dL_law_571 dL_law_572 dL_law_573 ?_
  refine Lw.arg 2 hN hn (by decide) dL_law_574 dL_law_575 dL_law_576 dL_law_577 dL_law_578 ?_
  refine Lw.X2 (s_X10_book (xs (n + 1)) (xs (n + 2)) h) e1 dL_law_579 mlL_66 mv_X10_book xO_X10 (Nat.le_of_ble_eq_true rfl) (Nat.le_of_ble_eq_true rfl) ?_
  refine Lw.a2 dL_law_582 ?_
  refine Lw.arg 1 hN hn (by decide) dL_law_583 dL_law_584 dL_law_585 dL_law_586 dL_law_587 ?_
  refine Lw.arg 2 hN hn (by decide) dL_law_588 dL_law_589 dL_law_590 dL_law_591 dL_law_592 ?_
  refine Lw.M2 (s_X11_book (xs (n + 1)) (xs (n + 2)) k) e2 dL_law_593 mlL_69 mv_X11_book mC (Nat.le_of_ble_eq_true rfl) (Nat.le_of_ble_eq_true rfl) ?_
  refine Lw.same 1252 dL_law_596 rfl ?_
  exact K h' k' R'
theorem mlL_70 : Cond.methodLink R_law 70 mX10_goes.1 ∈ zTb := zTb_in 1014 (by decide +kernel) rfl
theorem mlL_73 : Cond.methodLink R_law 73 mX11_goes.1 ∈ zTb := zTb_in 1841 (by decide +kernel) rfl
theorem lc_13 {N n : Nat} {xs : Nat → Int32} {h k : zHp} (hN : N ≤ 3072) (hn : n + 6 ≤ N) (R : qRel h k) (K : ∀ h' k', qRel h' k' → Lw N xs 1252 n [] h' k') : Lw N xs 601 n [] h k := by
  obtain ⟨v, h', k', e1, e2, R'⟩ := q_call_goes R (xs (n + 1)) (xs (n + 2))
  refine Lw.a1 dL_law_601 ?_
  refine Lw.arg 1 hN hn (by decide) dL_law_602 dL_law_603 dL_law_604 dL_law_605 dL_law_606 ?_
  refine Lw.arg 2 hN hn (by decide) dL_law_607 dL_law_608 dL_law_609 dL_law_610 dL_law_611 ?_
  refine Lw.X2 (s_X10_goes (xs (n + 1)) (xs (n + 2)) h) e1 dL_law_612 mlL_70 mv_X10_goes xO_X10 (Nat.le_of_ble_eq_true rfl) (Nat.le_of_ble_eq_true rfl) ?_
  refine Lw.a2 dL_law_615 ?_
  refine Lw.arg 1 hN hn (by decide) dL_law_616 dL_law_617 dL_law_618 dL_law_619 dL_law_620 ?_
  refine Lw.arg 2 hN hn (by decide) dL_law_621 dL_law_622 dL_law_623 dL_law_624 dL_law_625 ?_
  refine Lw.M2 (s_X11_goes (xs (n + 1)) (xs (n + 2)) k) e2 dL_law_626 mlL_73 mv_X11_goes mC (Nat.le_of_ble_eq_true rfl) (Nat.le_of_ble_eq_true rfl) ?_
  refine Lw.same 1252 dL_law_629 rfl ?_
  exact K h' k' R'
theorem mlL_74 : Cond.methodLink R_law 74 mX10_seat.1 ∈ zTb := zTb_in 1028 (by decide +kernel) rfl
theorem mlL_78 : Cond.methodLink R_law 78 mX11_seat.1 ∈ zTb := zTb_in 1861 (by decide +kernel) rfl
theorem lc_14 {N n : Nat} {xs : Nat → Int32} {h k : zHp} (hN : N ≤ 3072) (hn : n + 6 ≤ N) (R : qRel h k) (K : ∀ h' k', qRel h' k' → Lw N xs 1252 n [] h' k') : Lw N xs 634 n [] h k := by
  obtain ⟨v, h', k', e1, e2, R'⟩ := q_call_seat R 
  refine Lw.a1 dL_law_634 ?_
  refine Lw.X0 (s_X10_seat  h) e1 dL_law_635 mlL_74 mv_X10_seat xO_X10 (Nat.le_of_ble_eq_true rfl) (Nat.le_of_ble_eq_true rfl) ?_
  refine Lw.a2 dL_law_638 ?_
  refine Lw.M0 (s_X11_seat  k) e2 dL_law_639 mlL_78 mv_X11_seat mC (Nat.le_of_ble_eq_true rfl) (Nat.le_of_ble_eq_true rfl) ?_
  refine Lw.same 1252 dL_law_642 rfl ?_
  exact K h' k' R'
theorem mlL_79 : Cond.methodLink R_law 79 mX10_tick.1 ∈ zTb := zTb_in 1032 (by decide +kernel) rfl
theorem mlL_82 : Cond.methodLink R_law 82 mX11_tick.1 ∈ zTb := zTb_in 1865 (by decide +kernel) rfl
theorem lc_15 {N n : Nat} {xs : Nat → Int32} {h k : zHp} (hN : N ≤ 3072) (hn : n + 6 ≤ N) (R : qRel h k) (K : ∀ h' k', qRel h' k' → Lw N xs 1252 n [] h' k') : Lw N xs 647 n [] h k := by
  obtain ⟨v, h', k', e1, e2, R'⟩ := q_call_tick R (xs (n + 1)) (xs (n + 2))
  refine Lw.a1 dL_law_647 ?_
  refine Lw.arg 1 hN hn (by decide) dL_law_648 dL_law_649 dL_law_650 dL_law_651 dL_law_652 ?_
  refine Lw.arg 2 hN hn (by decide) dL_law_653 dL_law_654 dL_law_655 dL_law_656 dL_law_657 ?_
  refine Lw.X2 (s_X10_tick (xs (n + 1)) (xs (n + 2)) h) e1 dL_law_658 mlL_79 mv_X10_tick xO_X10 (Nat.le_of_ble_eq_true rfl) (Nat.le_of_ble_eq_true rfl) ?_
  refine Lw.a2 dL_law_661 ?_
  refine Lw.arg 1 hN hn (by decide) dL_law_662 dL_law_663 dL_law_664 dL_law_665 dL_law_666 ?_
  refine Lw.arg 2 hN hn (by decide) dL_law_667 dL_law_668 dL_law_669 dL_law_670 dL_law_671 ?_
  refine Lw.M2 (s_X11_tick (xs (n + 1)) (xs (n + 2)) k) e2 dL_law_672 mlL_82 mv_X11_tick mC (Nat.le_of_ble_eq_true rfl) (Nat.le_of_ble_eq_true rfl) ?_
  refine Lw.same 1252 dL_law_675 rfl ?_
  exact K h' k' R'
theorem mlL_83 : Cond.methodLink R_law 83 mX10_ticks.1 ∈ zTb := zTb_in 1047 (by decide +kernel) rfl
theorem mlL_86 : Cond.methodLink R_law 86 mX11_ticks.1 ∈ zTb := zTb_in 1869 (by decide +kernel) rfl
theorem lc_16 {N n : Nat} {xs : Nat → Int32} {h k : zHp} (hN : N ≤ 3072) (hn : n + 6 ≤ N) (R : qRel h k) (K : ∀ h' k', qRel h' k' → Lw N xs 1252 n [] h' k') : Lw N xs 680 n [] h k := by
  obtain ⟨v, h', k', e1, e2, R'⟩ := qAsk.call R (q_ask_ticks R (xs (n + 1)))
  refine Lw.a1 dL_law_680 ?_
  refine Lw.arg 1 hN hn (by decide) dL_law_681 dL_law_682 dL_law_683 dL_law_684 dL_law_685 ?_
  refine Lw.X1 (s_X10_ticks (xs (n + 1)) h) e1 dL_law_686 mlL_83 mv_X10_ticks xO_X10 (Nat.le_of_ble_eq_true rfl) (Nat.le_of_ble_eq_true rfl) ?_
  refine Lw.a2 dL_law_689 ?_
  refine Lw.arg 1 hN hn (by decide) dL_law_690 dL_law_691 dL_law_692 dL_law_693 dL_law_694 ?_
  refine Lw.M1 (s_X11_ticks (xs (n + 1)) k) e2 dL_law_695 mlL_86 mv_X11_ticks mC (Nat.le_of_ble_eq_true rfl) (Nat.le_of_ble_eq_true rfl) ?_
  refine Lw.same 1252 dL_law_698 rfl ?_
  exact K h' k' R'
theorem mlL_87 : Cond.methodLink R_law 87 mX10_apart.1 ∈ zTb := zTb_in 1069 (by decide +kernel) rfl
theorem mlL_90 : Cond.methodLink R_law 90 mX11_apart.1 ∈ zTb := zTb_in 1881 (by decide +kernel) rfl
theorem lc_17 {N n : Nat} {xs : Nat → Int32} {h k : zHp} (hN : N ≤ 3072) (hn : n + 6 ≤ N) (R : qRel h k) (K : ∀ h' k', qRel h' k' → Lw N xs 1252 n [] h' k') : Lw N xs 703 n [] h k := by
  obtain ⟨v, h', k', e1, e2, R'⟩ := q_call_apart R (xs (n + 1)) (xs (n + 2))
  refine Lw.a1 dL_law_703 ?_
  refine Lw.arg 1 hN hn (by decide) dL_law_704 dL_law_705 dL_law_706 dL_law_707 dL_law_708 ?_
  refine Lw.arg 2 hN hn (by decide) dL_law_709 dL_law_710 dL_law_711 dL_law_712 dL_law_713 ?_
  refine Lw.X2 (s_X10_apart (xs (n + 1)) (xs (n + 2)) h) e1 dL_law_714 mlL_87 mv_X10_apart xO_X10 (Nat.le_of_ble_eq_true rfl) (Nat.le_of_ble_eq_true rfl) ?_
  refine Lw.a2 dL_law_717 ?_
  refine Lw.arg 1 hN hn (by decide) dL_law_718 dL_law_719 dL_law_720 dL_law_721 dL_law_722 ?_
  refine Lw.arg 2 hN hn (by decide) dL_law_723 dL_law_724 dL_law_725 dL_law_726 dL_law_727 ?_
  refine Lw.M2 (s_X11_apart (xs (n + 1)) (xs (n + 2)) k) e2 dL_law_728 mlL_90 mv_X11_apart mC (Nat.le_of_ble_eq_true rfl) (Nat.le_of_ble_eq_true rfl) ?_
  refine Lw.same 1252 dL_law_731 rfl ?_
  exact K h' k' R'
theorem mlL_91 : Cond.methodLink R_law 91 mX10_seated.1 ∈ zTb := zTb_in 1073 (by decide +kernel) rfl
theorem mlL_94 : Cond.methodLink R_law 94 mX11_seated.1 ∈ zTb := zTb_in 1885 (by decide +kernel) rfl
theorem lc_18 {N n : Nat} {xs : Nat → Int32} {h k : zHp} (hN : N ≤ 3072) (hn : n + 6 ≤ N) (R : qRel h k) (K : ∀ h' k', qRel h' k' → Lw N xs 1252 n [] h' k') : Lw N xs 736 n [] h k := by
  obtain ⟨v, h', k', e1, e2, R'⟩ := qAsk.call R (q_ask_seated R (xs (n + 1)) (xs (n + 2)))
  refine Lw.a1 dL_law_736 ?_
  refine Lw.arg 1 hN hn (by decide) dL_law_737 dL_law_738 dL_law_739 dL_law_740 dL_law_741 ?_
  refine Lw.arg 2 hN hn (by decide) dL_law_742 dL_law_743 dL_law_744 dL_law_745 dL_law_746 ?_
  refine Lw.X2 (s_X10_seated (xs (n + 1)) (xs (n + 2)) h) e1 dL_law_747 mlL_91 mv_X10_seated xO_X10 (Nat.le_of_ble_eq_true rfl) (Nat.le_of_ble_eq_true rfl) ?_
  refine Lw.a2 dL_law_750 ?_
  refine Lw.arg 1 hN hn (by decide) dL_law_751 dL_law_752 dL_law_753 dL_law_754 dL_law_755 ?_
  refine Lw.arg 2 hN hn (by decide) dL_law_756 dL_law_757 dL_law_758 dL_law_759 dL_law_760 ?_
  refine Lw.M2 (s_X11_seated (xs (n + 1)) (xs (n + 2)) k) e2 dL_law_761 mlL_94 mv_X11_seated mC (Nat.le_of_ble_eq_true rfl) (Nat.le_of_ble_eq_true rfl) ?_
  refine Lw.same 1252 dL_law_764 rfl ?_
  exact K h' k' R'
theorem mlL_95 : Cond.methodLink R_law 95 mX10_point.1 ∈ zTb := zTb_in 1089 (by decide +kernel) rfl
theorem mlL_98 : Cond.methodLink R_law 98 mX11_point.1 ∈ zTb := zTb_in 1901 (by decide +kernel) rfl
theorem lc_19 {N n : Nat} {xs : Nat → Int32} {h k : zHp} (hN : N ≤ 3072) (hn : n + 6 ≤ N) (R : qRel h k) (K : ∀ h' k', qRel h' k' → Lw N xs 1252 n [] h' k') : Lw N xs 769 n [] h k := by
  obtain ⟨v, h', k', e1, e2, R'⟩ := q_call_point R (xs (n + 1)) (xs (n + 2))
  refine Lw.a1 dL_law_769 ?_
  refine Lw.arg 1 hN hn (by decide) dL_law_770 dL_law_771 dL_law_772 dL_law_773 dL_law_774 ?_
  refine Lw.arg 2 hN hn (by decide) dL_law_775 dL_law_776 dL_law_777 dL_law_778 dL_law_779 ?_
  refine Lw.X2 (s_X10_point (xs (n + 1)) (xs (n + 2)) h) e1 dL_law_780 mlL_95 mv_X10_point xO_X10 (Nat.le_of_ble_eq_true rfl) (Nat.le_of_ble_eq_true rfl) ?_
  refine Lw.a2 dL_law_783 ?_
  refine Lw.arg 1 hN hn (by decide) dL_law_784 dL_law_785 dL_law_786 dL_law_787 dL_law_788 ?_
  refine Lw.arg 2 hN hn (by decide) dL_law_789 dL_law_790 dL_law_791 dL_law_792 dL_law_793 ?_
  refine Lw.M2 (s_X11_point (xs (n + 1)) (xs (n + 2)) k) e2 dL_law_794 mlL_98 mv_X11_point mC (Nat.le_of_ble_eq_true rfl) (Nat.le_of_ble_eq_true rfl) ?_
  refine Lw.same 1252 dL_law_797 rfl ?_
  exact K h' k' R'
theorem mlL_99 : Cond.methodLink R_law 99 mX10_line.1 ∈ zTb := zTb_in 1098 (by decide +kernel) rfl
theorem mlL_102 : Cond.methodLink R_law 102 mX11_line.1 ∈ zTb := zTb_in 1905 (by decide +kernel) rfl
theorem lc_20 {N n : Nat} {xs : Nat → Int32} {h k : zHp} (hN : N ≤ 3072) (hn : n + 6 ≤ N) (R : qRel h k) (K : ∀ h' k', qRel h' k' → Lw N xs 1252 n [] h' k') : Lw N xs 802 n [] h k := by
  obtain ⟨v, h', k', e1, e2, R'⟩ := qAsk.call R (q_ask_line R (xs (n + 1)))
  refine Lw.a1 dL_law_802 ?_
  refine Lw.arg 1 hN hn (by decide) dL_law_803 dL_law_804 dL_law_805 dL_law_806 dL_law_807 ?_
  refine Lw.X1 (s_X10_line (xs (n + 1)) h) e1 dL_law_808 mlL_99 mv_X10_line xO_X10 (Nat.le_of_ble_eq_true rfl) (Nat.le_of_ble_eq_true rfl) ?_
  refine Lw.a2 dL_law_811 ?_
  refine Lw.arg 1 hN hn (by decide) dL_law_812 dL_law_813 dL_law_814 dL_law_815 dL_law_816 ?_
  refine Lw.M1 (s_X11_line (xs (n + 1)) k) e2 dL_law_817 mlL_102 mv_X11_line mC (Nat.le_of_ble_eq_true rfl) (Nat.le_of_ble_eq_true rfl) ?_
  refine Lw.same 1252 dL_law_820 rfl ?_
  exact K h' k' R'
theorem mlL_103 : Cond.methodLink R_law 103 mX10_full.1 ∈ zTb := zTb_in 1119 (by decide +kernel) rfl
theorem mlL_107 : Cond.methodLink R_law 107 mX11_full.1 ∈ zTb := zTb_in 1922 (by decide +kernel) rfl
theorem lc_21 {N n : Nat} {xs : Nat → Int32} {h k : zHp} (hN : N ≤ 3072) (hn : n + 6 ≤ N) (R : qRel h k) (K : ∀ h' k', qRel h' k' → Lw N xs 1252 n [] h' k') : Lw N xs 825 n [] h k := by
  obtain ⟨v, h', k', e1, e2, R'⟩ := q_call_full R (xs (n + 1)) (xs (n + 2)) (lwb (xs (n + 3)))
  refine Lw.a1 dL_law_825 ?_
  refine Lw.arg 1 hN hn (by decide) dL_law_826 dL_law_827 dL_law_828 dL_law_829 dL_law_830 ?_
  refine Lw.arg 2 hN hn (by decide) dL_law_831 dL_law_832 dL_law_833 dL_law_834 dL_law_835 ?_
  refine Lw.arg 3 hN hn (by decide) dL_law_836 dL_law_837 dL_law_838 dL_law_839 dL_law_840 ?_
  refine Lw.nz dL_law_841 dL_law_844 dL_law_845 dL_law_848 ?_
  refine Lw.X3 (s_X10_full (xs (n + 1)) (xs (n + 2)) (lwb (xs (n + 3))) h) e1 dL_law_849 mlL_103 mv_X10_full xO_X10 (Nat.le_of_ble_eq_true rfl) (Nat.le_of_ble_eq_true rfl) ?_
  refine Lw.a2 dL_law_852 ?_
  refine Lw.arg 1 hN hn (by decide) dL_law_853 dL_law_854 dL_law_855 dL_law_856 dL_law_857 ?_
  refine Lw.arg 2 hN hn (by decide) dL_law_858 dL_law_859 dL_law_860 dL_law_861 dL_law_862 ?_
  refine Lw.arg 3 hN hn (by decide) dL_law_863 dL_law_864 dL_law_865 dL_law_866 dL_law_867 ?_
  refine Lw.nz dL_law_868 dL_law_871 dL_law_872 dL_law_875 ?_
  refine Lw.M3 (s_X11_full (xs (n + 1)) (xs (n + 2)) (lwb (xs (n + 3))) k) e2 dL_law_876 mlL_107 mv_X11_full mC (Nat.le_of_ble_eq_true rfl) (Nat.le_of_ble_eq_true rfl) ?_
  refine Lw.same 1252 dL_law_879 rfl ?_
  exact K h' k' R'
theorem mlL_108 : Cond.methodLink R_law 108 mX10_rug.1 ∈ zTb := zTb_in 1123 (by decide +kernel) rfl
theorem mlL_111 : Cond.methodLink R_law 111 mX11_rug.1 ∈ zTb := zTb_in 1926 (by decide +kernel) rfl
theorem lc_22 {N n : Nat} {xs : Nat → Int32} {h k : zHp} (hN : N ≤ 3072) (hn : n + 6 ≤ N) (R : qRel h k) (K : ∀ h' k', qRel h' k' → Lw N xs 1252 n [] h' k') : Lw N xs 884 n [] h k := by
  obtain ⟨v, h', k', e1, e2, R'⟩ := qAsk.call R (q_ask_rug R (xs (n + 1)))
  refine Lw.a1 dL_law_884 ?_
  refine Lw.arg 1 hN hn (by decide) dL_law_885 dL_law_886 dL_law_887 dL_law_888 dL_law_889 ?_
  refine Lw.X1 (s_X10_rug (xs (n + 1)) h) e1 dL_law_890 mlL_108 mv_X10_rug xO_X10 (Nat.le_of_ble_eq_true rfl) (Nat.le_of_ble_eq_true rfl) ?_
  refine Lw.a2 dL_law_893 ?_
  refine Lw.arg 1 hN hn (by decide) dL_law_894 dL_law_895 dL_law_896 dL_law_897 dL_law_898 ?_
  refine Lw.M1 (s_X11_rug (xs (n + 1)) k) e2 dL_law_899 mlL_111 mv_X11_rug mC (Nat.le_of_ble_eq_true rfl) (Nat.le_of_ble_eq_true rfl) ?_
  refine Lw.same 1252 dL_law_902 rfl ?_
  exact K h' k' R'
theorem mlL_112 : Cond.methodLink R_law 112 mX10_stack.1 ∈ zTb := zTb_in 1135 (by decide +kernel) rfl
theorem mlL_115 : Cond.methodLink R_law 115 mX11_stack.1 ∈ zTb := zTb_in 1934 (by decide +kernel) rfl
theorem lc_23 {N n : Nat} {xs : Nat → Int32} {h k : zHp} (hN : N ≤ 3072) (hn : n + 6 ≤ N) (R : qRel h k) (K : ∀ h' k', qRel h' k' → Lw N xs 1252 n [] h' k') : Lw N xs 907 n [] h k := by
  obtain ⟨v, h', k', e1, e2, R'⟩ := qAsk.call R (q_ask_stack (xs (n + 1)) (xs (n + 2)))
  refine Lw.a1 dL_law_907 ?_
  refine Lw.arg 1 hN hn (by decide) dL_law_908 dL_law_909 dL_law_910 dL_law_911 dL_law_912 ?_
  refine Lw.arg 2 hN hn (by decide) dL_law_913 dL_law_914 dL_law_915 dL_law_916 dL_law_917 ?_
  refine Lw.X2 (s_X10_stack (xs (n + 1)) (xs (n + 2)) h) e1 dL_law_918 mlL_112 mv_X10_stack xO_X10 (Nat.le_of_ble_eq_true rfl) (Nat.le_of_ble_eq_true rfl) ?_
  refine Lw.a2 dL_law_921 ?_
  refine Lw.arg 1 hN hn (by decide) dL_law_922 dL_law_923 dL_law_924 dL_law_925 dL_law_926 ?_
  refine Lw.arg 2 hN hn (by decide) dL_law_927 dL_law_928 dL_law_929 dL_law_930 dL_law_931 ?_
  refine Lw.M2 (s_X11_stack (xs (n + 1)) (xs (n + 2)) k) e2 dL_law_932 mlL_115 mv_X11_stack mC (Nat.le_of_ble_eq_true rfl) (Nat.le_of_ble_eq_true rfl) ?_
  refine Lw.same 1252 dL_law_935 rfl ?_
  exact K h' k' R'
theorem mlL_116 : Cond.methodLink R_law 116 mX10_weight.1 ∈ zTb := zTb_in 1151 (by decide +kernel) rfl
theorem mlL_119 : Cond.methodLink R_law 119 mX11_weight.1 ∈ zTb := zTb_in 1950 (by decide +kernel) rfl
theorem lc_24 {N n : Nat} {xs : Nat → Int32} {h k : zHp} (hN : N ≤ 3072) (hn : n + 6 ≤ N) (R : qRel h k) (K : ∀ h' k', qRel h' k' → Lw N xs 1252 n [] h' k') : Lw N xs 940 n [] h k := by
  obtain ⟨v, h', k', e1, e2, R'⟩ := q_call_weight R (xs (n + 1))
  refine Lw.a1 dL_law_940 ?_
  refine Lw.arg 1 hN hn (by decide) dL_law_941 dL_law_942 dL_law_943 dL_law_944 dL_law_945 ?_
  refine Lw.X1 (s_X10_weight (xs (n + 1)) h) e1 dL_law_946 mlL_116 mv_X10_weight xO_X10 (Nat.le_of_ble_eq_true rfl) (Nat.le_of_ble_eq_true rfl) ?_
  refine Lw.a2 dL_law_949 ?_
  refine Lw.arg 1 hN hn (by decide) dL_law_950 dL_law_951 dL_law_952 dL_law_953 dL_law_954 ?_
  refine Lw.M1 (s_X11_weight (xs (n + 1)) k) e2 dL_law_955 mlL_119 mv_X11_weight mC (Nat.le_of_ble_eq_true rfl) (Nat.le_of_ble_eq_true rfl) ?_
  refine Lw.same 1252 dL_law_958 rfl ?_
  exact K h' k' R'
theorem mlL_120 : Cond.methodLink R_law 120 mX10_trunks.1 ∈ zTb := zTb_in 1155 (by decide +kernel) rfl
theorem mlL_123 : Cond.methodLink R_law 123 mX11_trunks.1 ∈ zTb := zTb_in 1954 (by decide +kernel) rfl
theorem lc_25 {N n : Nat} {xs : Nat → Int32} {h k : zHp} (hN : N ≤ 3072) (hn : n + 6 ≤ N) (R : qRel h k) (K : ∀ h' k', qRel h' k' → Lw N xs 1252 n [] h' k') : Lw N xs 963 n [] h k := by
  obtain ⟨v, h', k', e1, e2, R'⟩ := qAsk.call R (q_ask_trunks R (xs (n + 1)) (xs (n + 2)))
  refine Lw.a1 dL_law_963 ?_
  refine Lw.arg 1 hN hn (by decide) dL_law_964 dL_law_965 dL_law_966 dL_law_967 dL_law_968 ?_
  refine Lw.arg 2 hN hn (by decide) dL_law_969 dL_law_970 dL_law_971 dL_law_972 dL_law_973 ?_
  refine Lw.X2 (s_X10_trunks (xs (n + 1)) (xs (n + 2)) h) e1 dL_law_974 mlL_120 mv_X10_trunks xO_X10 (Nat.le_of_ble_eq_true rfl) (Nat.le_of_ble_eq_true rfl) ?_
  refine Lw.a2 dL_law_977 ?_
  refine Lw.arg 1 hN hn (by decide) dL_law_978 dL_law_979 dL_law_980 dL_law_981 dL_law_982 ?_
  refine Lw.arg 2 hN hn (by decide) dL_law_983 dL_law_984 dL_law_985 dL_law_986 dL_law_987 ?_
  refine Lw.M2 (s_X11_trunks (xs (n + 1)) (xs (n + 2)) k) e2 dL_law_988 mlL_123 mv_X11_trunks mC (Nat.le_of_ble_eq_true rfl) (Nat.le_of_ble_eq_true rfl) ?_
  refine Lw.same 1252 dL_law_991 rfl ?_
  exact K h' k' R'
theorem mlL_124 : Cond.methodLink R_law 124 mX10_throwing.1 ∈ zTb := zTb_in 1175 (by decide +kernel) rfl
theorem mlL_127 : Cond.methodLink R_law 127 mX11_throwing.1 ∈ zTb := zTb_in 1966 (by decide +kernel) rfl
theorem lc_26 {N n : Nat} {xs : Nat → Int32} {h k : zHp} (hN : N ≤ 3072) (hn : n + 6 ≤ N) (R : qRel h k) (K : ∀ h' k', qRel h' k' → Lw N xs 1252 n [] h' k') : Lw N xs 996 n [] h k := by
  obtain ⟨v, h', k', e1, e2, R'⟩ := qAsk.call R (q_ask_throwing (xs (n + 1)))
  refine Lw.a1 dL_law_996 ?_
  refine Lw.arg 1 hN hn (by decide) dL_law_997 dL_law_998 dL_law_999 dL_law_1000 dL_law_1001 ?_
  refine Lw.X1 (s_X10_throwing (xs (n + 1)) h) e1 dL_law_1002 mlL_124 mv_X10_throwing xO_X10 (Nat.le_of_ble_eq_true rfl) (Nat.le_of_ble_eq_true rfl) ?_
  refine Lw.a2 dL_law_1005 ?_
  refine Lw.arg 1 hN hn (by decide) dL_law_1006 dL_law_1007 dL_law_1008 dL_law_1009 dL_law_1010 ?_
  refine Lw.M1 (s_X11_throwing (xs (n + 1)) k) e2 dL_law_1011 mlL_127 mv_X11_throwing mC (Nat.le_of_ble_eq_true rfl) (Nat.le_of_ble_eq_true rfl) ?_
  refine Lw.same 1252 dL_law_1014 rfl ?_
  exact K h' k' R'
theorem mlL_128 : Cond.methodLink R_law 128 mX10_ahead.1 ∈ zTb := zTb_in 1185 (by decide +kernel) rfl
theorem mlL_132 : Cond.methodLink R_law 132 mX11_ahead.1 ∈ zTb := zTb_in 1978 (by decide +kernel) rfl
theorem lc_27 {N n : Nat} {xs : Nat → Int32} {h k : zHp} (hN : N ≤ 3072) (hn : n + 6 ≤ N) (R : qRel h k) (K : ∀ h' k', qRel h' k' → Lw N xs 1252 n [] h' k') : Lw N xs 1019 n [] h k := by
  obtain ⟨v, h', k', e1, e2, R'⟩ := qAsk.call R (q_ask_ahead (xs (n + 1)) (xs (n + 2)) (xs (n + 3)))
  refine Lw.a1 dL_law_1019 ?_
  refine Lw.arg 1 hN hn (by decide) dL_law_1020 dL_law_1021 dL_law_1022 dL_law_1023 dL_law_1024 ?_
  refine Lw.arg 2 hN hn (by decide) dL_law_1025 dL_law_1026 dL_law_1027 dL_law_1028 dL_law_1029 ?_
  refine Lw.arg 3 hN hn (by decide) dL_law_1030 dL_law_1031 dL_law_1032 dL_law_1033 dL_law_1034 ?_
  refine Lw.X3 (s_X10_ahead (xs (n + 1)) (xs (n + 2)) (xs (n + 3)) h) e1 dL_law_1035 mlL_128 mv_X10_ahead xO_X10 (Nat.le_of_ble_eq_true rfl) (Nat.le_of_ble_eq_true rfl) ?_
  refine Lw.a2 dL_law_1038 ?_
  refine Lw.arg 1 hN hn (by decide) dL_law_1039 dL_law_1040 dL_law_1041 dL_law_1042 dL_law_1043 ?_
  refine Lw.arg 2 hN hn (by decide) dL_law_1044 dL_law_1045 dL_law_1046 dL_law_1047 dL_law_1048 ?_
  refine Lw.arg 3 hN hn (by decide) dL_law_1049 dL_law_1050 dL_law_1051 dL_law_1052 dL_law_1053 ?_
  refine Lw.M3 (s_X11_ahead (xs (n + 1)) (xs (n + 2)) (xs (n + 3)) k) e2 dL_law_1054 mlL_132 mv_X11_ahead mC (Nat.le_of_ble_eq_true rfl) (Nat.le_of_ble_eq_true rfl) ?_
  refine Lw.same 1252 dL_law_1057 rfl ?_
  exact K h' k' R'
theorem mlL_133 : Cond.methodLink R_law 133 mX10_hands.1 ∈ zTb := zTb_in 1194 (by decide +kernel) rfl
theorem mlL_136 : Cond.methodLink R_law 136 mX11_hands.1 ∈ zTb := zTb_in 1982 (by decide +kernel) rfl
theorem lc_28 {N n : Nat} {xs : Nat → Int32} {h k : zHp} (hN : N ≤ 3072) (hn : n + 6 ≤ N) (R : qRel h k) (K : ∀ h' k', qRel h' k' → Lw N xs 1252 n [] h' k') : Lw N xs 1062 n [] h k := by
  obtain ⟨v, h', k', e1, e2, R'⟩ := qAsk.call R (q_ask_hands (xs (n + 1)) (xs (n + 2)))
  refine Lw.a1 dL_law_1062 ?_
  refine Lw.arg 1 hN hn (by decide) dL_law_1063 dL_law_1064 dL_law_1065 dL_law_1066 dL_law_1067 ?_
  refine Lw.arg 2 hN hn (by decide) dL_law_1068 dL_law_1069 dL_law_1070 dL_law_1071 dL_law_1072 ?_
  refine Lw.X2 (s_X10_hands (xs (n + 1)) (xs (n + 2)) h) e1 dL_law_1073 mlL_133 mv_X10_hands xO_X10 (Nat.le_of_ble_eq_true rfl) (Nat.le_of_ble_eq_true rfl) ?_
  refine Lw.a2 dL_law_1076 ?_
  refine Lw.arg 1 hN hn (by decide) dL_law_1077 dL_law_1078 dL_law_1079 dL_law_1080 dL_law_1081 ?_
  refine Lw.arg 2 hN hn (by decide) dL_law_1082 dL_law_1083 dL_law_1084 dL_law_1085 dL_law_1086 ?_
  refine Lw.M2 (s_X11_hands (xs (n + 1)) (xs (n + 2)) k) e2 dL_law_1087 mlL_136 mv_X11_hands mC (Nat.le_of_ble_eq_true rfl) (Nat.le_of_ble_eq_true rfl) ?_
  refine Lw.same 1252 dL_law_1090 rfl ?_
  exact K h' k' R'
theorem mlL_137 : Cond.methodLink R_law 137 mX10_step.1 ∈ zTb := zTb_in 1205 (by decide +kernel) rfl
theorem mlL_140 : Cond.methodLink R_law 140 mX11_step.1 ∈ zTb := zTb_in 1990 (by decide +kernel) rfl
theorem lc_29 {N n : Nat} {xs : Nat → Int32} {h k : zHp} (hN : N ≤ 3072) (hn : n + 6 ≤ N) (R : qRel h k) (K : ∀ h' k', qRel h' k' → Lw N xs 1252 n [] h' k') : Lw N xs 1095 n [] h k := by
  obtain ⟨v, h', k', e1, e2, R'⟩ := q_call_step R (xs (n + 1))
  refine Lw.a1 dL_law_1095 ?_
  refine Lw.arg 1 hN hn (by decide) dL_law_1096 dL_law_1097 dL_law_1098 dL_law_1099 dL_law_1100 ?_
  refine Lw.X1 (s_X10_step (xs (n + 1)) h) e1 dL_law_1101 mlL_137 mv_X10_step xO_X10 (Nat.le_of_ble_eq_true rfl) (Nat.le_of_ble_eq_true rfl) ?_
  refine Lw.a2 dL_law_1104 ?_
  refine Lw.arg 1 hN hn (by decide) dL_law_1105 dL_law_1106 dL_law_1107 dL_law_1108 dL_law_1109 ?_
  refine Lw.M1 (s_X11_step (xs (n + 1)) k) e2 dL_law_1110 mlL_140 mv_X11_step mC (Nat.le_of_ble_eq_true rfl) (Nat.le_of_ble_eq_true rfl) ?_
  refine Lw.same 1252 dL_law_1113 rfl ?_
  exact K h' k' R'
theorem mlL_141 : Cond.methodLink R_law 141 mX10_steps.1 ∈ zTb := zTb_in 1209 (by decide +kernel) rfl
theorem mlL_144 : Cond.methodLink R_law 144 mX11_steps.1 ∈ zTb := zTb_in 1998 (by decide +kernel) rfl
theorem lc_30 {N n : Nat} {xs : Nat → Int32} {h k : zHp} (hN : N ≤ 3072) (hn : n + 6 ≤ N) (R : qRel h k) (K : ∀ h' k', qRel h' k' → Lw N xs 1252 n [] h' k') : Lw N xs 1118 n [] h k := by
  obtain ⟨v, h', k', e1, e2, R'⟩ := qAsk.call R (q_ask_steps R (xs (n + 1)))
  refine Lw.a1 dL_law_1118 ?_
  refine Lw.arg 1 hN hn (by decide) dL_law_1119 dL_law_1120 dL_law_1121 dL_law_1122 dL_law_1123 ?_
  refine Lw.X1 (s_X10_steps (xs (n + 1)) h) e1 dL_law_1124 mlL_141 mv_X10_steps xO_X10 (Nat.le_of_ble_eq_true rfl) (Nat.le_of_ble_eq_true rfl) ?_
  refine Lw.a2 dL_law_1127 ?_
  refine Lw.arg 1 hN hn (by decide) dL_law_1128 dL_law_1129 dL_law_1130 dL_law_1131 dL_law_1132 ?_
  refine Lw.M1 (s_X11_steps (xs (n + 1)) k) e2 dL_law_1133 mlL_144 mv_X11_steps mC (Nat.le_of_ble_eq_true rfl) (Nat.le_of_ble_eq_true rfl) ?_
  refine Lw.same 1252 dL_law_1136 rfl ?_
  exact K h' k' R'
theorem mlL_145 : Cond.methodLink R_law 145 mX10_coin.1 ∈ zTb := zTb_in 1228 (by decide +kernel) rfl
theorem mlL_148 : Cond.methodLink R_law 148 mX11_coin.1 ∈ zTb := zTb_in 2002 (by decide +kernel) rfl
theorem lc_31 {N n : Nat} {xs : Nat → Int32} {h k : zHp} (hN : N ≤ 3072) (hn : n + 6 ≤ N) (R : qRel h k) (K : ∀ h' k', qRel h' k' → Lw N xs 1252 n [] h' k') : Lw N xs 1141 n [] h k := by
  obtain ⟨v, h', k', e1, e2, R'⟩ := q_call_coin R (xs (n + 1))
  refine Lw.a1 dL_law_1141 ?_
  refine Lw.arg 1 hN hn (by decide) dL_law_1142 dL_law_1143 dL_law_1144 dL_law_1145 dL_law_1146 ?_
  refine Lw.X1 (s_X10_coin (xs (n + 1)) h) e1 dL_law_1147 mlL_145 mv_X10_coin xO_X10 (Nat.le_of_ble_eq_true rfl) (Nat.le_of_ble_eq_true rfl) ?_
  refine Lw.a2 dL_law_1150 ?_
  refine Lw.arg 1 hN hn (by decide) dL_law_1151 dL_law_1152 dL_law_1153 dL_law_1154 dL_law_1155 ?_
  refine Lw.M1 (s_X11_coin (xs (n + 1)) k) e2 dL_law_1156 mlL_148 mv_X11_coin mC (Nat.le_of_ble_eq_true rfl) (Nat.le_of_ble_eq_true rfl) ?_
  refine Lw.same 1252 dL_law_1159 rfl ?_
  exact K h' k' R'
theorem mlL_149 : Cond.methodLink R_law 149 mX10_slide.1 ∈ zTb := zTb_in 1232 (by decide +kernel) rfl
theorem mlL_152 : Cond.methodLink R_law 152 mX11_slide.1 ∈ zTb := zTb_in 2010 (by decide +kernel) rfl
theorem lc_32 {N n : Nat} {xs : Nat → Int32} {h k : zHp} (hN : N ≤ 3072) (hn : n + 6 ≤ N) (R : qRel h k) (K : ∀ h' k', qRel h' k' → Lw N xs 1252 n [] h' k') : Lw N xs 1164 n [] h k := by
  obtain ⟨v, h', k', e1, e2, R'⟩ := qAsk.call R (q_ask_slide R )
  refine Lw.a1 dL_law_1164 ?_
  refine Lw.X0 (s_X10_slide  h) e1 dL_law_1165 mlL_149 mv_X10_slide xO_X10 (Nat.le_of_ble_eq_true rfl) (Nat.le_of_ble_eq_true rfl) ?_
  refine Lw.a2 dL_law_1168 ?_
  refine Lw.M0 (s_X11_slide  k) e2 dL_law_1169 mlL_152 mv_X11_slide mC (Nat.le_of_ble_eq_true rfl) (Nat.le_of_ble_eq_true rfl) ?_
  refine Lw.same 1252 dL_law_1172 rfl ?_
  exact K h' k' R'
theorem mlL_153 : Cond.methodLink R_law 153 mX10_undo.1 ∈ zTb := zTb_in 1252 (by decide +kernel) rfl
theorem mlL_157 : Cond.methodLink R_law 157 mX11_undo.1 ∈ zTb := zTb_in 1507 (by decide +kernel) rfl
theorem lc_33 {N n : Nat} {xs : Nat → Int32} {h k : zHp} (hN : N ≤ 3072) (hn : n + 6 ≤ N) (R : qRel h k) (K : ∀ h' k', qRel h' k' → Lw N xs 1252 n [] h' k') : Lw N xs 1177 n [] h k := by
  obtain ⟨v, h', k', e1, e2, R'⟩ := q_call_undo R 
  refine Lw.a1 dL_law_1177 ?_
  refine Lw.X0 (s_X10_undo  h) e1 dL_law_1178 mlL_153 mv_X10_undo xO_X10 (Nat.le_of_ble_eq_true rfl) (Nat.le_of_ble_eq_true rfl) ?_
  refine Lw.a2 dL_law_1181 ?_
  refine Lw.M0 (s_X11_undo  k) e2 dL_law_1182 mlL_157 mv_X11_undo mC (Nat.le_of_ble_eq_true rfl) (Nat.le_of_ble_eq_true rfl) ?_
  refine Lw.same 1252 dL_law_1185 rfl ?_
  exact K h' k' R'
theorem mlL_158 : Cond.methodLink R_law 158 mX10_image.1 ∈ zTb := zTb_in 1260 (by decide +kernel) rfl
theorem mlL_162 : Cond.methodLink R_law 162 mX11_image.1 ∈ zTb := zTb_in 2018 (by decide +kernel) rfl
theorem lc_34 {N n : Nat} {xs : Nat → Int32} {h k : zHp} (hN : N ≤ 3072) (hn : n + 6 ≤ N) (R : qRel h k) (K : ∀ h' k', qRel h' k' → Lw N xs 1252 n [] h' k') : Lw N xs 1190 n [] h k := by
  obtain ⟨v, h', k', e1, e2, R'⟩ := q_call_image' R (xs (n + 1))
  refine Lw.a1 dL_law_1190 ?_
  refine Lw.arg 1 hN hn (by decide) dL_law_1191 dL_law_1192 dL_law_1193 dL_law_1194 dL_law_1195 ?_
  refine Lw.nz dL_law_1196 dL_law_1199 dL_law_1200 dL_law_1203 ?_
  refine Lw.X1 (s_X10_image (lwb (xs (n + 1))) h) e1 dL_law_1204 mlL_158 mv_X10_image xO_X10 (Nat.le_of_ble_eq_true rfl) (Nat.le_of_ble_eq_true rfl) ?_
  refine Lw.a2 dL_law_1207 ?_
  refine Lw.arg 1 hN hn (by decide) dL_law_1208 dL_law_1209 dL_law_1210 dL_law_1211 dL_law_1212 ?_
  refine Lw.nz dL_law_1213 dL_law_1216 dL_law_1217 dL_law_1220 ?_
  refine Lw.M1 (s_X11_image (lwb (xs (n + 1))) k) e2 dL_law_1221 mlL_162 mv_X11_image mC (Nat.le_of_ble_eq_true rfl) (Nat.le_of_ble_eq_true rfl) ?_
  refine Lw.same 1252 dL_law_1224 rfl ?_
  exact K h' k' R'
theorem mlL_163 : Cond.methodLink R_law 163 mX10_look.1 ∈ zTb := zTb_in 1279 (by decide +kernel) rfl
theorem mlL_166 : Cond.methodLink R_law 166 mX11_look.1 ∈ zTb := zTb_in 2034 (by decide +kernel) rfl
theorem lc_35 {N n : Nat} {xs : Nat → Int32} {h k : zHp} (hN : N ≤ 3072) (hn : n + 6 ≤ N) (R : qRel h k) (K : ∀ h' k', qRel h' k' → Lw N xs 1252 n [] h' k') : Lw N xs 1229 n [] h k := by
  obtain ⟨v, h', k', e1, e2, R'⟩ := q_call_look R (xs (n + 1))
  refine Lw.a1 dL_law_1229 ?_
  refine Lw.arg 1 hN hn (by decide) dL_law_1230 dL_law_1231 dL_law_1232 dL_law_1233 dL_law_1234 ?_
  refine Lw.X1 (s_X10_look (xs (n + 1)) h) e1 dL_law_1235 mlL_163 mv_X10_look xO_X10 (Nat.le_of_ble_eq_true rfl) (Nat.le_of_ble_eq_true rfl) ?_
  refine Lw.a2 dL_law_1238 ?_
  refine Lw.arg 1 hN hn (by decide) dL_law_1239 dL_law_1240 dL_law_1241 dL_law_1242 dL_law_1243 ?_
  refine Lw.M1 (s_X11_look (xs (n + 1)) k) e2 dL_law_1244 mlL_166 mv_X11_look mC (Nat.le_of_ble_eq_true rfl) (Nat.le_of_ble_eq_true rfl) ?_
  refine Lw.same 1252 dL_law_1247 rfl ?_
  exact K h' k' R'
