/-! Instructions by their place. -/
theorem c0_0 : qcd 0 0 = some (.new 7, 3) := by decide +kernel
theorem c0_3 : qcd 0 3 = some (.dup, 1) := by decide +kernel
theorem c0_4 : qcd 0 4 = some (.invokespecial 9, 3) := by decide +kernel
theorem c0_7 : qcd 0 7 = some (.astore_n 1, 1) := by decide +kernel
theorem c0_8 : qcd 0 8 = some (.new 10, 3) := by decide +kernel
theorem c0_11 : qcd 0 11 = some (.dup, 1) := by decide +kernel
theorem c0_12 : qcd 0 12 = some (.invokespecial 12, 3) := by decide +kernel
theorem c0_15 : qcd 0 15 = some (.astore_n 2, 1) := by decide +kernel
theorem c0_16 : qcd 0 16 = some (.iconst 0, 1) := by decide +kernel
theorem c0_17 : qcd 0 17 = some (.istore_n 3, 1) := by decide +kernel
theorem c0_18 : qcd 0 18 = some (.iload_n 3, 1) := by decide +kernel
theorem c0_19 : qcd 0 19 = some (.aload_n 0, 1) := by decide +kernel
theorem c0_20 : qcd 0 20 = some (.arraylength, 1) := by decide +kernel
theorem c0_21 : qcd 0 21 = some (.bipush 6, 2) := by decide +kernel
theorem c0_23 : qcd 0 23 = some (.isub, 1) := by decide +kernel
theorem c0_24 : qcd 0 24 = some (.if_icmp .gt 1445, 3) := by decide +kernel
theorem c0_27 : qcd 0 27 = some (.aload_n 0, 1) := by decide +kernel
theorem c0_28 : qcd 0 28 = some (.iload_n 3, 1) := by decide +kernel
theorem c0_29 : qcd 0 29 = some (.iaload, 1) := by decide +kernel
theorem c0_30 : qcd 0 30 = some (.bipush 63, 2) := by decide +kernel
theorem c0_32 : qcd 0 32 = some (.iand, 1) := by decide +kernel
theorem c0_33 : qcd 0 33 = some (.tableswitch 1430 0 35 #[159, 202, 265, 308, 341, 364, 413, 462, 511, 544, 567, 630, 653, 666, 690, 723, 756, 789, 822, 845, 858, 907, 951, 974, 1017, 1050, 1083, 1126, 1159, 1192, 1225, 1284, 1308, 1341, 1384, 1407], 159) := by decide +kernel
theorem c0_192 : qcd 0 192 = some (.aload_n 1, 1) := by decide +kernel
theorem c0_193 : qcd 0 193 = some (.aload_n 0, 1) := by decide +kernel
theorem c0_194 : qcd 0 194 = some (.iload_n 3, 1) := by decide +kernel
theorem c0_195 : qcd 0 195 = some (.iconst 1, 1) := by decide +kernel
theorem c0_196 : qcd 0 196 = some (.iadd, 1) := by decide +kernel
theorem c0_197 : qcd 0 197 = some (.iaload, 1) := by decide +kernel
theorem c0_198 : qcd 0 198 = some (.aload_n 0, 1) := by decide +kernel
theorem c0_199 : qcd 0 199 = some (.iload_n 3, 1) := by decide +kernel
theorem c0_200 : qcd 0 200 = some (.iconst 2, 1) := by decide +kernel
theorem c0_201 : qcd 0 201 = some (.iadd, 1) := by decide +kernel
theorem c0_202 : qcd 0 202 = some (.iaload, 1) := by decide +kernel
theorem c0_203 : qcd 0 203 = some (.aload_n 0, 1) := by decide +kernel
theorem c0_204 : qcd 0 204 = some (.iload_n 3, 1) := by decide +kernel
theorem c0_205 : qcd 0 205 = some (.iconst 3, 1) := by decide +kernel
theorem c0_206 : qcd 0 206 = some (.iadd, 1) := by decide +kernel
theorem c0_207 : qcd 0 207 = some (.iaload, 1) := by decide +kernel
theorem c0_208 : qcd 0 208 = some (.invokevirtual 13, 3) := by decide +kernel
theorem c0_211 : qcd 0 211 = some (.aload_n 2, 1) := by decide +kernel
theorem c0_212 : qcd 0 212 = some (.aload_n 0, 1) := by decide +kernel
theorem c0_213 : qcd 0 213 = some (.iload_n 3, 1) := by decide +kernel
theorem c0_214 : qcd 0 214 = some (.iconst 1, 1) := by decide +kernel
theorem c0_215 : qcd 0 215 = some (.iadd, 1) := by decide +kernel
theorem c0_216 : qcd 0 216 = some (.iaload, 1) := by decide +kernel
theorem c0_217 : qcd 0 217 = some (.aload_n 0, 1) := by decide +kernel
theorem c0_218 : qcd 0 218 = some (.iload_n 3, 1) := by decide +kernel
theorem c0_219 : qcd 0 219 = some (.iconst 2, 1) := by decide +kernel
theorem c0_220 : qcd 0 220 = some (.iadd, 1) := by decide +kernel
theorem c0_221 : qcd 0 221 = some (.iaload, 1) := by decide +kernel
theorem c0_222 : qcd 0 222 = some (.aload_n 0, 1) := by decide +kernel
theorem c0_223 : qcd 0 223 = some (.iload_n 3, 1) := by decide +kernel
theorem c0_224 : qcd 0 224 = some (.iconst 3, 1) := by decide +kernel
theorem c0_225 : qcd 0 225 = some (.iadd, 1) := by decide +kernel
theorem c0_226 : qcd 0 226 = some (.iaload, 1) := by decide +kernel
theorem c0_227 : qcd 0 227 = some (.invokevirtual 17, 3) := by decide +kernel
theorem c0_230 : qcd 0 230 = some (.if_icmp .eq 1233, 3) := by decide +kernel
theorem c0_233 : qcd 0 233 = some (.iconst 0, 1) := by decide +kernel
theorem c0_234 : qcd 0 234 = some (.ireturn, 1) := by decide +kernel
theorem c0_235 : qcd 0 235 = some (.aload_n 1, 1) := by decide +kernel
theorem c0_236 : qcd 0 236 = some (.aload_n 0, 1) := by decide +kernel
theorem c0_237 : qcd 0 237 = some (.iload_n 3, 1) := by decide +kernel
theorem c0_238 : qcd 0 238 = some (.iconst 1, 1) := by decide +kernel
theorem c0_239 : qcd 0 239 = some (.iadd, 1) := by decide +kernel
theorem c0_240 : qcd 0 240 = some (.iaload, 1) := by decide +kernel
theorem c0_241 : qcd 0 241 = some (.aload_n 0, 1) := by decide +kernel
theorem c0_242 : qcd 0 242 = some (.iload_n 3, 1) := by decide +kernel
theorem c0_243 : qcd 0 243 = some (.iconst 2, 1) := by decide +kernel
theorem c0_244 : qcd 0 244 = some (.iadd, 1) := by decide +kernel
theorem c0_245 : qcd 0 245 = some (.iaload, 1) := by decide +kernel
theorem c0_246 : qcd 0 246 = some (.aload_n 0, 1) := by decide +kernel
theorem c0_247 : qcd 0 247 = some (.iload_n 3, 1) := by decide +kernel
theorem c0_248 : qcd 0 248 = some (.iconst 3, 1) := by decide +kernel
theorem c0_249 : qcd 0 249 = some (.iadd, 1) := by decide +kernel
theorem c0_250 : qcd 0 250 = some (.iaload, 1) := by decide +kernel
theorem c0_251 : qcd 0 251 = some (.aload_n 0, 1) := by decide +kernel
theorem c0_252 : qcd 0 252 = some (.iload_n 3, 1) := by decide +kernel
theorem c0_253 : qcd 0 253 = some (.iconst 4, 1) := by decide +kernel
theorem c0_254 : qcd 0 254 = some (.iadd, 1) := by decide +kernel
theorem c0_255 : qcd 0 255 = some (.iaload, 1) := by decide +kernel
theorem c0_256 : qcd 0 256 = some (.aload_n 0, 1) := by decide +kernel
theorem c0_257 : qcd 0 257 = some (.iload_n 3, 1) := by decide +kernel
theorem c0_258 : qcd 0 258 = some (.iconst 5, 1) := by decide +kernel
theorem c0_259 : qcd 0 259 = some (.iadd, 1) := by decide +kernel
theorem c0_260 : qcd 0 260 = some (.iaload, 1) := by decide +kernel
theorem c0_261 : qcd 0 261 = some (.invokevirtual 18, 3) := by decide +kernel
theorem c0_264 : qcd 0 264 = some (.aload_n 2, 1) := by decide +kernel
theorem c0_265 : qcd 0 265 = some (.aload_n 0, 1) := by decide +kernel
theorem c0_266 : qcd 0 266 = some (.iload_n 3, 1) := by decide +kernel
theorem c0_267 : qcd 0 267 = some (.iconst 1, 1) := by decide +kernel
theorem c0_268 : qcd 0 268 = some (.iadd, 1) := by decide +kernel
theorem c0_269 : qcd 0 269 = some (.iaload, 1) := by decide +kernel
theorem c0_270 : qcd 0 270 = some (.aload_n 0, 1) := by decide +kernel
theorem c0_271 : qcd 0 271 = some (.iload_n 3, 1) := by decide +kernel
theorem c0_272 : qcd 0 272 = some (.iconst 2, 1) := by decide +kernel
theorem c0_273 : qcd 0 273 = some (.iadd, 1) := by decide +kernel
theorem c0_274 : qcd 0 274 = some (.iaload, 1) := by decide +kernel
theorem c0_275 : qcd 0 275 = some (.aload_n 0, 1) := by decide +kernel
theorem c0_276 : qcd 0 276 = some (.iload_n 3, 1) := by decide +kernel
theorem c0_277 : qcd 0 277 = some (.iconst 3, 1) := by decide +kernel
theorem c0_278 : qcd 0 278 = some (.iadd, 1) := by decide +kernel
theorem c0_279 : qcd 0 279 = some (.iaload, 1) := by decide +kernel
theorem c0_280 : qcd 0 280 = some (.aload_n 0, 1) := by decide +kernel
theorem c0_281 : qcd 0 281 = some (.iload_n 3, 1) := by decide +kernel
theorem c0_282 : qcd 0 282 = some (.iconst 4, 1) := by decide +kernel
theorem c0_283 : qcd 0 283 = some (.iadd, 1) := by decide +kernel
theorem c0_284 : qcd 0 284 = some (.iaload, 1) := by decide +kernel
theorem c0_285 : qcd 0 285 = some (.aload_n 0, 1) := by decide +kernel
theorem c0_286 : qcd 0 286 = some (.iload_n 3, 1) := by decide +kernel
theorem c0_287 : qcd 0 287 = some (.iconst 5, 1) := by decide +kernel
theorem c0_288 : qcd 0 288 = some (.iadd, 1) := by decide +kernel
theorem c0_289 : qcd 0 289 = some (.iaload, 1) := by decide +kernel
theorem c0_290 : qcd 0 290 = some (.invokevirtual 22, 3) := by decide +kernel
theorem c0_293 : qcd 0 293 = some (.if_icmp .eq 1170, 3) := by decide +kernel
theorem c0_296 : qcd 0 296 = some (.iconst 0, 1) := by decide +kernel
theorem c0_297 : qcd 0 297 = some (.ireturn, 1) := by decide +kernel
theorem c0_298 : qcd 0 298 = some (.aload_n 1, 1) := by decide +kernel
theorem c0_299 : qcd 0 299 = some (.aload_n 0, 1) := by decide +kernel
theorem c0_300 : qcd 0 300 = some (.iload_n 3, 1) := by decide +kernel
theorem c0_301 : qcd 0 301 = some (.iconst 1, 1) := by decide +kernel
theorem c0_302 : qcd 0 302 = some (.iadd, 1) := by decide +kernel
theorem c0_303 : qcd 0 303 = some (.iaload, 1) := by decide +kernel
theorem c0_304 : qcd 0 304 = some (.aload_n 0, 1) := by decide +kernel
theorem c0_305 : qcd 0 305 = some (.iload_n 3, 1) := by decide +kernel
theorem c0_306 : qcd 0 306 = some (.iconst 2, 1) := by decide +kernel
theorem c0_307 : qcd 0 307 = some (.iadd, 1) := by decide +kernel
theorem c0_308 : qcd 0 308 = some (.iaload, 1) := by decide +kernel
theorem c0_309 : qcd 0 309 = some (.aload_n 0, 1) := by decide +kernel
theorem c0_310 : qcd 0 310 = some (.iload_n 3, 1) := by decide +kernel
theorem c0_311 : qcd 0 311 = some (.iconst 3, 1) := by decide +kernel
theorem c0_312 : qcd 0 312 = some (.iadd, 1) := by decide +kernel
theorem c0_313 : qcd 0 313 = some (.iaload, 1) := by decide +kernel
theorem c0_314 : qcd 0 314 = some (.invokevirtual 23, 3) := by decide +kernel
theorem c0_317 : qcd 0 317 = some (.aload_n 2, 1) := by decide +kernel
theorem c0_318 : qcd 0 318 = some (.aload_n 0, 1) := by decide +kernel
theorem c0_319 : qcd 0 319 = some (.iload_n 3, 1) := by decide +kernel
theorem c0_320 : qcd 0 320 = some (.iconst 1, 1) := by decide +kernel
theorem c0_321 : qcd 0 321 = some (.iadd, 1) := by decide +kernel
theorem c0_322 : qcd 0 322 = some (.iaload, 1) := by decide +kernel
theorem c0_323 : qcd 0 323 = some (.aload_n 0, 1) := by decide +kernel
theorem c0_324 : qcd 0 324 = some (.iload_n 3, 1) := by decide +kernel
theorem c0_325 : qcd 0 325 = some (.iconst 2, 1) := by decide +kernel
theorem c0_326 : qcd 0 326 = some (.iadd, 1) := by decide +kernel
theorem c0_327 : qcd 0 327 = some (.iaload, 1) := by decide +kernel
theorem c0_328 : qcd 0 328 = some (.aload_n 0, 1) := by decide +kernel
theorem c0_329 : qcd 0 329 = some (.iload_n 3, 1) := by decide +kernel
theorem c0_330 : qcd 0 330 = some (.iconst 3, 1) := by decide +kernel
theorem c0_331 : qcd 0 331 = some (.iadd, 1) := by decide +kernel
theorem c0_332 : qcd 0 332 = some (.iaload, 1) := by decide +kernel
theorem c0_333 : qcd 0 333 = some (.invokevirtual 26, 3) := by decide +kernel
theorem c0_336 : qcd 0 336 = some (.if_icmp .eq 1127, 3) := by decide +kernel
theorem c0_339 : qcd 0 339 = some (.iconst 0, 1) := by decide +kernel
theorem c0_340 : qcd 0 340 = some (.ireturn, 1) := by decide +kernel
theorem c0_341 : qcd 0 341 = some (.aload_n 1, 1) := by decide +kernel
theorem c0_342 : qcd 0 342 = some (.aload_n 0, 1) := by decide +kernel
theorem c0_343 : qcd 0 343 = some (.iload_n 3, 1) := by decide +kernel
theorem c0_344 : qcd 0 344 = some (.iconst 1, 1) := by decide +kernel
theorem c0_345 : qcd 0 345 = some (.iadd, 1) := by decide +kernel
theorem c0_346 : qcd 0 346 = some (.iaload, 1) := by decide +kernel
theorem c0_347 : qcd 0 347 = some (.aload_n 0, 1) := by decide +kernel
theorem c0_348 : qcd 0 348 = some (.iload_n 3, 1) := by decide +kernel
theorem c0_349 : qcd 0 349 = some (.iconst 2, 1) := by decide +kernel
theorem c0_350 : qcd 0 350 = some (.iadd, 1) := by decide +kernel
theorem c0_351 : qcd 0 351 = some (.iaload, 1) := by decide +kernel
theorem c0_352 : qcd 0 352 = some (.invokevirtual 27, 3) := by decide +kernel
theorem c0_355 : qcd 0 355 = some (.aload_n 2, 1) := by decide +kernel
theorem c0_356 : qcd 0 356 = some (.aload_n 0, 1) := by decide +kernel
theorem c0_357 : qcd 0 357 = some (.iload_n 3, 1) := by decide +kernel
theorem c0_358 : qcd 0 358 = some (.iconst 1, 1) := by decide +kernel
theorem c0_359 : qcd 0 359 = some (.iadd, 1) := by decide +kernel
theorem c0_360 : qcd 0 360 = some (.iaload, 1) := by decide +kernel
theorem c0_361 : qcd 0 361 = some (.aload_n 0, 1) := by decide +kernel
theorem c0_362 : qcd 0 362 = some (.iload_n 3, 1) := by decide +kernel
theorem c0_363 : qcd 0 363 = some (.iconst 2, 1) := by decide +kernel
theorem c0_364 : qcd 0 364 = some (.iadd, 1) := by decide +kernel
theorem c0_365 : qcd 0 365 = some (.iaload, 1) := by decide +kernel
theorem c0_366 : qcd 0 366 = some (.invokevirtual 31, 3) := by decide +kernel
theorem c0_369 : qcd 0 369 = some (.if_icmp .eq 1094, 3) := by decide +kernel
theorem c0_372 : qcd 0 372 = some (.iconst 0, 1) := by decide +kernel
theorem c0_373 : qcd 0 373 = some (.ireturn, 1) := by decide +kernel
theorem c0_374 : qcd 0 374 = some (.aload_n 1, 1) := by decide +kernel
theorem c0_375 : qcd 0 375 = some (.aload_n 0, 1) := by decide +kernel
theorem c0_376 : qcd 0 376 = some (.iload_n 3, 1) := by decide +kernel
theorem c0_377 : qcd 0 377 = some (.iconst 1, 1) := by decide +kernel
theorem c0_378 : qcd 0 378 = some (.iadd, 1) := by decide +kernel
theorem c0_379 : qcd 0 379 = some (.iaload, 1) := by decide +kernel
theorem c0_380 : qcd 0 380 = some (.invokevirtual 32, 3) := by decide +kernel
theorem c0_383 : qcd 0 383 = some (.aload_n 2, 1) := by decide +kernel
theorem c0_384 : qcd 0 384 = some (.aload_n 0, 1) := by decide +kernel
theorem c0_385 : qcd 0 385 = some (.iload_n 3, 1) := by decide +kernel
theorem c0_386 : qcd 0 386 = some (.iconst 1, 1) := by decide +kernel
theorem c0_387 : qcd 0 387 = some (.iadd, 1) := by decide +kernel
theorem c0_388 : qcd 0 388 = some (.iaload, 1) := by decide +kernel
theorem c0_389 : qcd 0 389 = some (.invokevirtual 36, 3) := by decide +kernel
theorem c0_392 : qcd 0 392 = some (.if_icmp .eq 1071, 3) := by decide +kernel
theorem c0_395 : qcd 0 395 = some (.iconst 0, 1) := by decide +kernel
theorem c0_396 : qcd 0 396 = some (.ireturn, 1) := by decide +kernel
theorem c0_397 : qcd 0 397 = some (.aload_n 1, 1) := by decide +kernel
theorem c0_398 : qcd 0 398 = some (.aload_n 0, 1) := by decide +kernel
theorem c0_399 : qcd 0 399 = some (.iload_n 3, 1) := by decide +kernel
theorem c0_400 : qcd 0 400 = some (.iconst 1, 1) := by decide +kernel
theorem c0_401 : qcd 0 401 = some (.iadd, 1) := by decide +kernel
theorem c0_402 : qcd 0 402 = some (.iaload, 1) := by decide +kernel
theorem c0_403 : qcd 0 403 = some (.aload_n 0, 1) := by decide +kernel
theorem c0_404 : qcd 0 404 = some (.iload_n 3, 1) := by decide +kernel
theorem c0_405 : qcd 0 405 = some (.iconst 2, 1) := by decide +kernel
theorem c0_406 : qcd 0 406 = some (.iadd, 1) := by decide +kernel
theorem c0_407 : qcd 0 407 = some (.iaload, 1) := by decide +kernel
theorem c0_408 : qcd 0 408 = some (.ifCond .eq 7, 3) := by decide +kernel
theorem c0_411 : qcd 0 411 = some (.iconst 1, 1) := by decide +kernel
theorem c0_412 : qcd 0 412 = some (.goto 4, 3) := by decide +kernel
theorem c0_415 : qcd 0 415 = some (.iconst 0, 1) := by decide +kernel
theorem c0_416 : qcd 0 416 = some (.invokevirtual 37, 3) := by decide +kernel
theorem c0_419 : qcd 0 419 = some (.aload_n 2, 1) := by decide +kernel
theorem c0_420 : qcd 0 420 = some (.aload_n 0, 1) := by decide +kernel
theorem c0_421 : qcd 0 421 = some (.iload_n 3, 1) := by decide +kernel
theorem c0_422 : qcd 0 422 = some (.iconst 1, 1) := by decide +kernel
theorem c0_423 : qcd 0 423 = some (.iadd, 1) := by decide +kernel
theorem c0_424 : qcd 0 424 = some (.iaload, 1) := by decide +kernel
theorem c0_425 : qcd 0 425 = some (.aload_n 0, 1) := by decide +kernel
theorem c0_426 : qcd 0 426 = some (.iload_n 3, 1) := by decide +kernel
theorem c0_427 : qcd 0 427 = some (.iconst 2, 1) := by decide +kernel
theorem c0_428 : qcd 0 428 = some (.iadd, 1) := by decide +kernel
theorem c0_429 : qcd 0 429 = some (.iaload, 1) := by decide +kernel
theorem c0_430 : qcd 0 430 = some (.ifCond .eq 7, 3) := by decide +kernel
theorem c0_433 : qcd 0 433 = some (.iconst 1, 1) := by decide +kernel
theorem c0_434 : qcd 0 434 = some (.goto 4, 3) := by decide +kernel
theorem c0_437 : qcd 0 437 = some (.iconst 0, 1) := by decide +kernel
theorem c0_438 : qcd 0 438 = some (.invokevirtual 41, 3) := by decide +kernel
theorem c0_441 : qcd 0 441 = some (.if_icmp .eq 1022, 3) := by decide +kernel
theorem c0_444 : qcd 0 444 = some (.iconst 0, 1) := by decide +kernel
theorem c0_445 : qcd 0 445 = some (.ireturn, 1) := by decide +kernel
theorem c0_446 : qcd 0 446 = some (.aload_n 1, 1) := by decide +kernel
theorem c0_447 : qcd 0 447 = some (.aload_n 0, 1) := by decide +kernel
theorem c0_448 : qcd 0 448 = some (.iload_n 3, 1) := by decide +kernel
theorem c0_449 : qcd 0 449 = some (.iconst 1, 1) := by decide +kernel
theorem c0_450 : qcd 0 450 = some (.iadd, 1) := by decide +kernel
theorem c0_451 : qcd 0 451 = some (.iaload, 1) := by decide +kernel
theorem c0_452 : qcd 0 452 = some (.aload_n 0, 1) := by decide +kernel
theorem c0_453 : qcd 0 453 = some (.iload_n 3, 1) := by decide +kernel
theorem c0_454 : qcd 0 454 = some (.iconst 2, 1) := by decide +kernel
theorem c0_455 : qcd 0 455 = some (.iadd, 1) := by decide +kernel
theorem c0_456 : qcd 0 456 = some (.iaload, 1) := by decide +kernel
theorem c0_457 : qcd 0 457 = some (.ifCond .eq 7, 3) := by decide +kernel
theorem c0_460 : qcd 0 460 = some (.iconst 1, 1) := by decide +kernel
theorem c0_461 : qcd 0 461 = some (.goto 4, 3) := by decide +kernel
theorem c0_464 : qcd 0 464 = some (.iconst 0, 1) := by decide +kernel
theorem c0_465 : qcd 0 465 = some (.invokevirtual 42, 3) := by decide +kernel
theorem c0_468 : qcd 0 468 = some (.aload_n 2, 1) := by decide +kernel
theorem c0_469 : qcd 0 469 = some (.aload_n 0, 1) := by decide +kernel
theorem c0_470 : qcd 0 470 = some (.iload_n 3, 1) := by decide +kernel
theorem c0_471 : qcd 0 471 = some (.iconst 1, 1) := by decide +kernel
theorem c0_472 : qcd 0 472 = some (.iadd, 1) := by decide +kernel
theorem c0_473 : qcd 0 473 = some (.iaload, 1) := by decide +kernel
theorem c0_474 : qcd 0 474 = some (.aload_n 0, 1) := by decide +kernel
theorem c0_475 : qcd 0 475 = some (.iload_n 3, 1) := by decide +kernel
theorem c0_476 : qcd 0 476 = some (.iconst 2, 1) := by decide +kernel
theorem c0_477 : qcd 0 477 = some (.iadd, 1) := by decide +kernel
theorem c0_478 : qcd 0 478 = some (.iaload, 1) := by decide +kernel
theorem c0_479 : qcd 0 479 = some (.ifCond .eq 7, 3) := by decide +kernel
theorem c0_482 : qcd 0 482 = some (.iconst 1, 1) := by decide +kernel
theorem c0_483 : qcd 0 483 = some (.goto 4, 3) := by decide +kernel
theorem c0_486 : qcd 0 486 = some (.iconst 0, 1) := by decide +kernel
theorem c0_487 : qcd 0 487 = some (.invokevirtual 45, 3) := by decide +kernel
theorem c0_490 : qcd 0 490 = some (.if_icmp .eq 973, 3) := by decide +kernel
theorem c0_493 : qcd 0 493 = some (.iconst 0, 1) := by decide +kernel
theorem c0_494 : qcd 0 494 = some (.ireturn, 1) := by decide +kernel
theorem c0_495 : qcd 0 495 = some (.aload_n 1, 1) := by decide +kernel
theorem c0_496 : qcd 0 496 = some (.aload_n 0, 1) := by decide +kernel
theorem c0_497 : qcd 0 497 = some (.iload_n 3, 1) := by decide +kernel
theorem c0_498 : qcd 0 498 = some (.iconst 1, 1) := by decide +kernel
theorem c0_499 : qcd 0 499 = some (.iadd, 1) := by decide +kernel
theorem c0_500 : qcd 0 500 = some (.iaload, 1) := by decide +kernel
theorem c0_501 : qcd 0 501 = some (.aload_n 0, 1) := by decide +kernel
theorem c0_502 : qcd 0 502 = some (.iload_n 3, 1) := by decide +kernel
theorem c0_503 : qcd 0 503 = some (.iconst 2, 1) := by decide +kernel
theorem c0_504 : qcd 0 504 = some (.iadd, 1) := by decide +kernel
theorem c0_505 : qcd 0 505 = some (.iaload, 1) := by decide +kernel
theorem c0_506 : qcd 0 506 = some (.ifCond .eq 7, 3) := by decide +kernel
theorem c0_509 : qcd 0 509 = some (.iconst 1, 1) := by decide +kernel
theorem c0_510 : qcd 0 510 = some (.goto 4, 3) := by decide +kernel
theorem c0_513 : qcd 0 513 = some (.iconst 0, 1) := by decide +kernel
theorem c0_514 : qcd 0 514 = some (.invokevirtual 46, 3) := by decide +kernel
theorem c0_517 : qcd 0 517 = some (.aload_n 2, 1) := by decide +kernel
theorem c0_518 : qcd 0 518 = some (.aload_n 0, 1) := by decide +kernel
theorem c0_519 : qcd 0 519 = some (.iload_n 3, 1) := by decide +kernel
theorem c0_520 : qcd 0 520 = some (.iconst 1, 1) := by decide +kernel
theorem c0_521 : qcd 0 521 = some (.iadd, 1) := by decide +kernel
theorem c0_522 : qcd 0 522 = some (.iaload, 1) := by decide +kernel
theorem c0_523 : qcd 0 523 = some (.aload_n 0, 1) := by decide +kernel
theorem c0_524 : qcd 0 524 = some (.iload_n 3, 1) := by decide +kernel
theorem c0_525 : qcd 0 525 = some (.iconst 2, 1) := by decide +kernel
theorem c0_526 : qcd 0 526 = some (.iadd, 1) := by decide +kernel
theorem c0_527 : qcd 0 527 = some (.iaload, 1) := by decide +kernel
theorem c0_528 : qcd 0 528 = some (.ifCond .eq 7, 3) := by decide +kernel
theorem c0_531 : qcd 0 531 = some (.iconst 1, 1) := by decide +kernel
theorem c0_532 : qcd 0 532 = some (.goto 4, 3) := by decide +kernel
theorem c0_535 : qcd 0 535 = some (.iconst 0, 1) := by decide +kernel
theorem c0_536 : qcd 0 536 = some (.invokevirtual 49, 3) := by decide +kernel
theorem c0_539 : qcd 0 539 = some (.if_icmp .eq 924, 3) := by decide +kernel
theorem c0_542 : qcd 0 542 = some (.iconst 0, 1) := by decide +kernel
theorem c0_543 : qcd 0 543 = some (.ireturn, 1) := by decide +kernel
theorem c0_544 : qcd 0 544 = some (.aload_n 1, 1) := by decide +kernel
theorem c0_545 : qcd 0 545 = some (.aload_n 0, 1) := by decide +kernel
theorem c0_546 : qcd 0 546 = some (.iload_n 3, 1) := by decide +kernel
theorem c0_547 : qcd 0 547 = some (.iconst 1, 1) := by decide +kernel
theorem c0_548 : qcd 0 548 = some (.iadd, 1) := by decide +kernel
theorem c0_549 : qcd 0 549 = some (.iaload, 1) := by decide +kernel
theorem c0_550 : qcd 0 550 = some (.aload_n 0, 1) := by decide +kernel
theorem c0_551 : qcd 0 551 = some (.iload_n 3, 1) := by decide +kernel
theorem c0_552 : qcd 0 552 = some (.iconst 2, 1) := by decide +kernel
theorem c0_553 : qcd 0 553 = some (.iadd, 1) := by decide +kernel
theorem c0_554 : qcd 0 554 = some (.iaload, 1) := by decide +kernel
theorem c0_555 : qcd 0 555 = some (.invokevirtual 50, 3) := by decide +kernel
theorem c0_558 : qcd 0 558 = some (.aload_n 2, 1) := by decide +kernel
theorem c0_559 : qcd 0 559 = some (.aload_n 0, 1) := by decide +kernel
theorem c0_560 : qcd 0 560 = some (.iload_n 3, 1) := by decide +kernel
theorem c0_561 : qcd 0 561 = some (.iconst 1, 1) := by decide +kernel
theorem c0_562 : qcd 0 562 = some (.iadd, 1) := by decide +kernel
theorem c0_563 : qcd 0 563 = some (.iaload, 1) := by decide +kernel
theorem c0_564 : qcd 0 564 = some (.aload_n 0, 1) := by decide +kernel
theorem c0_565 : qcd 0 565 = some (.iload_n 3, 1) := by decide +kernel
theorem c0_566 : qcd 0 566 = some (.iconst 2, 1) := by decide +kernel
theorem c0_567 : qcd 0 567 = some (.iadd, 1) := by decide +kernel
theorem c0_568 : qcd 0 568 = some (.iaload, 1) := by decide +kernel
theorem c0_569 : qcd 0 569 = some (.invokevirtual 53, 3) := by decide +kernel
theorem c0_572 : qcd 0 572 = some (.if_icmp .eq 891, 3) := by decide +kernel
theorem c0_575 : qcd 0 575 = some (.iconst 0, 1) := by decide +kernel
theorem c0_576 : qcd 0 576 = some (.ireturn, 1) := by decide +kernel
theorem c0_577 : qcd 0 577 = some (.aload_n 1, 1) := by decide +kernel
theorem c0_578 : qcd 0 578 = some (.aload_n 0, 1) := by decide +kernel
theorem c0_579 : qcd 0 579 = some (.iload_n 3, 1) := by decide +kernel
theorem c0_580 : qcd 0 580 = some (.iconst 1, 1) := by decide +kernel
theorem c0_581 : qcd 0 581 = some (.iadd, 1) := by decide +kernel
theorem c0_582 : qcd 0 582 = some (.iaload, 1) := by decide +kernel
theorem c0_583 : qcd 0 583 = some (.invokevirtual 54, 3) := by decide +kernel
theorem c0_586 : qcd 0 586 = some (.aload_n 2, 1) := by decide +kernel
theorem c0_587 : qcd 0 587 = some (.aload_n 0, 1) := by decide +kernel
theorem c0_588 : qcd 0 588 = some (.iload_n 3, 1) := by decide +kernel
theorem c0_589 : qcd 0 589 = some (.iconst 1, 1) := by decide +kernel
theorem c0_590 : qcd 0 590 = some (.iadd, 1) := by decide +kernel
theorem c0_591 : qcd 0 591 = some (.iaload, 1) := by decide +kernel
theorem c0_592 : qcd 0 592 = some (.invokevirtual 57, 3) := by decide +kernel
theorem c0_595 : qcd 0 595 = some (.if_icmp .eq 868, 3) := by decide +kernel
theorem c0_598 : qcd 0 598 = some (.iconst 0, 1) := by decide +kernel
theorem c0_599 : qcd 0 599 = some (.ireturn, 1) := by decide +kernel
theorem c0_600 : qcd 0 600 = some (.aload_n 1, 1) := by decide +kernel
theorem c0_601 : qcd 0 601 = some (.aload_n 0, 1) := by decide +kernel
theorem c0_602 : qcd 0 602 = some (.iload_n 3, 1) := by decide +kernel
theorem c0_603 : qcd 0 603 = some (.iconst 1, 1) := by decide +kernel
theorem c0_604 : qcd 0 604 = some (.iadd, 1) := by decide +kernel
theorem c0_605 : qcd 0 605 = some (.iaload, 1) := by decide +kernel
theorem c0_606 : qcd 0 606 = some (.aload_n 0, 1) := by decide +kernel
theorem c0_607 : qcd 0 607 = some (.iload_n 3, 1) := by decide +kernel
theorem c0_608 : qcd 0 608 = some (.iconst 2, 1) := by decide +kernel
theorem c0_609 : qcd 0 609 = some (.iadd, 1) := by decide +kernel
theorem c0_610 : qcd 0 610 = some (.iaload, 1) := by decide +kernel
theorem c0_611 : qcd 0 611 = some (.aload_n 0, 1) := by decide +kernel
theorem c0_612 : qcd 0 612 = some (.iload_n 3, 1) := by decide +kernel
theorem c0_613 : qcd 0 613 = some (.iconst 3, 1) := by decide +kernel
theorem c0_614 : qcd 0 614 = some (.iadd, 1) := by decide +kernel
theorem c0_615 : qcd 0 615 = some (.iaload, 1) := by decide +kernel
theorem c0_616 : qcd 0 616 = some (.aload_n 0, 1) := by decide +kernel
theorem c0_617 : qcd 0 617 = some (.iload_n 3, 1) := by decide +kernel
theorem c0_618 : qcd 0 618 = some (.iconst 4, 1) := by decide +kernel
theorem c0_619 : qcd 0 619 = some (.iadd, 1) := by decide +kernel
theorem c0_620 : qcd 0 620 = some (.iaload, 1) := by decide +kernel
theorem c0_621 : qcd 0 621 = some (.aload_n 0, 1) := by decide +kernel
theorem c0_622 : qcd 0 622 = some (.iload_n 3, 1) := by decide +kernel
theorem c0_623 : qcd 0 623 = some (.iconst 5, 1) := by decide +kernel
theorem c0_624 : qcd 0 624 = some (.iadd, 1) := by decide +kernel
theorem c0_625 : qcd 0 625 = some (.iaload, 1) := by decide +kernel
theorem c0_626 : qcd 0 626 = some (.invokevirtual 58, 3) := by decide +kernel
theorem c0_629 : qcd 0 629 = some (.aload_n 2, 1) := by decide +kernel
theorem c0_630 : qcd 0 630 = some (.aload_n 0, 1) := by decide +kernel
theorem c0_631 : qcd 0 631 = some (.iload_n 3, 1) := by decide +kernel
theorem c0_632 : qcd 0 632 = some (.iconst 1, 1) := by decide +kernel
theorem c0_633 : qcd 0 633 = some (.iadd, 1) := by decide +kernel
theorem c0_634 : qcd 0 634 = some (.iaload, 1) := by decide +kernel
theorem c0_635 : qcd 0 635 = some (.aload_n 0, 1) := by decide +kernel
theorem c0_636 : qcd 0 636 = some (.iload_n 3, 1) := by decide +kernel
theorem c0_637 : qcd 0 637 = some (.iconst 2, 1) := by decide +kernel
theorem c0_638 : qcd 0 638 = some (.iadd, 1) := by decide +kernel
theorem c0_639 : qcd 0 639 = some (.iaload, 1) := by decide +kernel
theorem c0_640 : qcd 0 640 = some (.aload_n 0, 1) := by decide +kernel
theorem c0_641 : qcd 0 641 = some (.iload_n 3, 1) := by decide +kernel
theorem c0_642 : qcd 0 642 = some (.iconst 3, 1) := by decide +kernel
theorem c0_643 : qcd 0 643 = some (.iadd, 1) := by decide +kernel
theorem c0_644 : qcd 0 644 = some (.iaload, 1) := by decide +kernel
theorem c0_645 : qcd 0 645 = some (.aload_n 0, 1) := by decide +kernel
theorem c0_646 : qcd 0 646 = some (.iload_n 3, 1) := by decide +kernel
theorem c0_647 : qcd 0 647 = some (.iconst 4, 1) := by decide +kernel
theorem c0_648 : qcd 0 648 = some (.iadd, 1) := by decide +kernel
theorem c0_649 : qcd 0 649 = some (.iaload, 1) := by decide +kernel
theorem c0_650 : qcd 0 650 = some (.aload_n 0, 1) := by decide +kernel
theorem c0_651 : qcd 0 651 = some (.iload_n 3, 1) := by decide +kernel
theorem c0_652 : qcd 0 652 = some (.iconst 5, 1) := by decide +kernel
theorem c0_653 : qcd 0 653 = some (.iadd, 1) := by decide +kernel
theorem c0_654 : qcd 0 654 = some (.iaload, 1) := by decide +kernel
theorem c0_655 : qcd 0 655 = some (.invokevirtual 61, 3) := by decide +kernel
theorem c0_658 : qcd 0 658 = some (.if_icmp .eq 805, 3) := by decide +kernel
theorem c0_661 : qcd 0 661 = some (.iconst 0, 1) := by decide +kernel
theorem c0_662 : qcd 0 662 = some (.ireturn, 1) := by decide +kernel
theorem c0_663 : qcd 0 663 = some (.aload_n 1, 1) := by decide +kernel
theorem c0_664 : qcd 0 664 = some (.aload_n 0, 1) := by decide +kernel
theorem c0_665 : qcd 0 665 = some (.iload_n 3, 1) := by decide +kernel
theorem c0_666 : qcd 0 666 = some (.iconst 1, 1) := by decide +kernel
theorem c0_667 : qcd 0 667 = some (.iadd, 1) := by decide +kernel
theorem c0_668 : qcd 0 668 = some (.iaload, 1) := by decide +kernel
theorem c0_669 : qcd 0 669 = some (.invokevirtual 62, 3) := by decide +kernel
theorem c0_672 : qcd 0 672 = some (.aload_n 2, 1) := by decide +kernel
theorem c0_673 : qcd 0 673 = some (.aload_n 0, 1) := by decide +kernel
theorem c0_674 : qcd 0 674 = some (.iload_n 3, 1) := by decide +kernel
theorem c0_675 : qcd 0 675 = some (.iconst 1, 1) := by decide +kernel
theorem c0_676 : qcd 0 676 = some (.iadd, 1) := by decide +kernel
theorem c0_677 : qcd 0 677 = some (.iaload, 1) := by decide +kernel
theorem c0_678 : qcd 0 678 = some (.invokevirtual 66, 3) := by decide +kernel
theorem c0_681 : qcd 0 681 = some (.if_icmp .eq 782, 3) := by decide +kernel
theorem c0_684 : qcd 0 684 = some (.iconst 0, 1) := by decide +kernel
theorem c0_685 : qcd 0 685 = some (.ireturn, 1) := by decide +kernel
theorem c0_686 : qcd 0 686 = some (.aload_n 1, 1) := by decide +kernel
theorem c0_687 : qcd 0 687 = some (.invokevirtual 67, 3) := by decide +kernel
theorem c0_690 : qcd 0 690 = some (.aload_n 2, 1) := by decide +kernel
theorem c0_691 : qcd 0 691 = some (.invokevirtual 71, 3) := by decide +kernel
theorem c0_694 : qcd 0 694 = some (.if_icmp .eq 769, 3) := by decide +kernel
theorem c0_697 : qcd 0 697 = some (.iconst 0, 1) := by decide +kernel
theorem c0_698 : qcd 0 698 = some (.ireturn, 1) := by decide +kernel
theorem c0_699 : qcd 0 699 = some (.aload_n 1, 1) := by decide +kernel
theorem c0_700 : qcd 0 700 = some (.aload_n 0, 1) := by decide +kernel
theorem c0_701 : qcd 0 701 = some (.iload_n 3, 1) := by decide +kernel
theorem c0_702 : qcd 0 702 = some (.iconst 1, 1) := by decide +kernel
theorem c0_703 : qcd 0 703 = some (.iadd, 1) := by decide +kernel
theorem c0_704 : qcd 0 704 = some (.iaload, 1) := by decide +kernel
theorem c0_705 : qcd 0 705 = some (.invokevirtual 72, 3) := by decide +kernel
theorem c0_708 : qcd 0 708 = some (.aload_n 2, 1) := by decide +kernel
theorem c0_709 : qcd 0 709 = some (.aload_n 0, 1) := by decide +kernel
theorem c0_710 : qcd 0 710 = some (.iload_n 3, 1) := by decide +kernel
theorem c0_711 : qcd 0 711 = some (.iconst 1, 1) := by decide +kernel
theorem c0_712 : qcd 0 712 = some (.iadd, 1) := by decide +kernel
theorem c0_713 : qcd 0 713 = some (.iaload, 1) := by decide +kernel
theorem c0_714 : qcd 0 714 = some (.invokevirtual 76, 3) := by decide +kernel
theorem c0_717 : qcd 0 717 = some (.lcmp, 1) := by decide +kernel
theorem c0_718 : qcd 0 718 = some (.ifCond .eq 745, 3) := by decide +kernel
theorem c0_721 : qcd 0 721 = some (.iconst 0, 1) := by decide +kernel
theorem c0_722 : qcd 0 722 = some (.ireturn, 1) := by decide +kernel
theorem c0_723 : qcd 0 723 = some (.aload_n 1, 1) := by decide +kernel
theorem c0_724 : qcd 0 724 = some (.aload_n 0, 1) := by decide +kernel
theorem c0_725 : qcd 0 725 = some (.iload_n 3, 1) := by decide +kernel
theorem c0_726 : qcd 0 726 = some (.iconst 1, 1) := by decide +kernel
theorem c0_727 : qcd 0 727 = some (.iadd, 1) := by decide +kernel
theorem c0_728 : qcd 0 728 = some (.iaload, 1) := by decide +kernel
theorem c0_729 : qcd 0 729 = some (.aload_n 0, 1) := by decide +kernel
theorem c0_730 : qcd 0 730 = some (.iload_n 3, 1) := by decide +kernel
theorem c0_731 : qcd 0 731 = some (.iconst 2, 1) := by decide +kernel
theorem c0_732 : qcd 0 732 = some (.iadd, 1) := by decide +kernel
theorem c0_733 : qcd 0 733 = some (.iaload, 1) := by decide +kernel
theorem c0_734 : qcd 0 734 = some (.invokevirtual 77, 3) := by decide +kernel
theorem c0_737 : qcd 0 737 = some (.aload_n 2, 1) := by decide +kernel
theorem c0_738 : qcd 0 738 = some (.aload_n 0, 1) := by decide +kernel
theorem c0_739 : qcd 0 739 = some (.iload_n 3, 1) := by decide +kernel
theorem c0_740 : qcd 0 740 = some (.iconst 1, 1) := by decide +kernel
theorem c0_741 : qcd 0 741 = some (.iadd, 1) := by decide +kernel
theorem c0_742 : qcd 0 742 = some (.iaload, 1) := by decide +kernel
theorem c0_743 : qcd 0 743 = some (.aload_n 0, 1) := by decide +kernel
theorem c0_744 : qcd 0 744 = some (.iload_n 3, 1) := by decide +kernel
theorem c0_745 : qcd 0 745 = some (.iconst 2, 1) := by decide +kernel
theorem c0_746 : qcd 0 746 = some (.iadd, 1) := by decide +kernel
theorem c0_747 : qcd 0 747 = some (.iaload, 1) := by decide +kernel
theorem c0_748 : qcd 0 748 = some (.invokevirtual 81, 3) := by decide +kernel
theorem c0_751 : qcd 0 751 = some (.if_icmp .eq 712, 3) := by decide +kernel
theorem c0_754 : qcd 0 754 = some (.iconst 0, 1) := by decide +kernel
theorem c0_755 : qcd 0 755 = some (.ireturn, 1) := by decide +kernel
theorem c0_756 : qcd 0 756 = some (.aload_n 1, 1) := by decide +kernel
theorem c0_757 : qcd 0 757 = some (.aload_n 0, 1) := by decide +kernel
theorem c0_758 : qcd 0 758 = some (.iload_n 3, 1) := by decide +kernel
theorem c0_759 : qcd 0 759 = some (.iconst 1, 1) := by decide +kernel
theorem c0_760 : qcd 0 760 = some (.iadd, 1) := by decide +kernel
theorem c0_761 : qcd 0 761 = some (.iaload, 1) := by decide +kernel
theorem c0_762 : qcd 0 762 = some (.aload_n 0, 1) := by decide +kernel
theorem c0_763 : qcd 0 763 = some (.iload_n 3, 1) := by decide +kernel
theorem c0_764 : qcd 0 764 = some (.iconst 2, 1) := by decide +kernel
theorem c0_765 : qcd 0 765 = some (.iadd, 1) := by decide +kernel
theorem c0_766 : qcd 0 766 = some (.iaload, 1) := by decide +kernel
theorem c0_767 : qcd 0 767 = some (.invokevirtual 82, 3) := by decide +kernel
theorem c0_770 : qcd 0 770 = some (.aload_n 2, 1) := by decide +kernel
theorem c0_771 : qcd 0 771 = some (.aload_n 0, 1) := by decide +kernel
theorem c0_772 : qcd 0 772 = some (.iload_n 3, 1) := by decide +kernel
theorem c0_773 : qcd 0 773 = some (.iconst 1, 1) := by decide +kernel
theorem c0_774 : qcd 0 774 = some (.iadd, 1) := by decide +kernel
theorem c0_775 : qcd 0 775 = some (.iaload, 1) := by decide +kernel
theorem c0_776 : qcd 0 776 = some (.aload_n 0, 1) := by decide +kernel
theorem c0_777 : qcd 0 777 = some (.iload_n 3, 1) := by decide +kernel
theorem c0_778 : qcd 0 778 = some (.iconst 2, 1) := by decide +kernel
theorem c0_779 : qcd 0 779 = some (.iadd, 1) := by decide +kernel
theorem c0_780 : qcd 0 780 = some (.iaload, 1) := by decide +kernel
theorem c0_781 : qcd 0 781 = some (.invokevirtual 85, 3) := by decide +kernel
theorem c0_784 : qcd 0 784 = some (.if_icmp .eq 679, 3) := by decide +kernel
theorem c0_787 : qcd 0 787 = some (.iconst 0, 1) := by decide +kernel
theorem c0_788 : qcd 0 788 = some (.ireturn, 1) := by decide +kernel
theorem c0_789 : qcd 0 789 = some (.aload_n 1, 1) := by decide +kernel
theorem c0_790 : qcd 0 790 = some (.aload_n 0, 1) := by decide +kernel
theorem c0_791 : qcd 0 791 = some (.iload_n 3, 1) := by decide +kernel
theorem c0_792 : qcd 0 792 = some (.iconst 1, 1) := by decide +kernel
theorem c0_793 : qcd 0 793 = some (.iadd, 1) := by decide +kernel
theorem c0_794 : qcd 0 794 = some (.iaload, 1) := by decide +kernel
theorem c0_795 : qcd 0 795 = some (.aload_n 0, 1) := by decide +kernel
theorem c0_796 : qcd 0 796 = some (.iload_n 3, 1) := by decide +kernel
theorem c0_797 : qcd 0 797 = some (.iconst 2, 1) := by decide +kernel
theorem c0_798 : qcd 0 798 = some (.iadd, 1) := by decide +kernel
theorem c0_799 : qcd 0 799 = some (.iaload, 1) := by decide +kernel
theorem c0_800 : qcd 0 800 = some (.invokevirtual 86, 3) := by decide +kernel
theorem c0_803 : qcd 0 803 = some (.aload_n 2, 1) := by decide +kernel
theorem c0_804 : qcd 0 804 = some (.aload_n 0, 1) := by decide +kernel
theorem c0_805 : qcd 0 805 = some (.iload_n 3, 1) := by decide +kernel
theorem c0_806 : qcd 0 806 = some (.iconst 1, 1) := by decide +kernel
theorem c0_807 : qcd 0 807 = some (.iadd, 1) := by decide +kernel
theorem c0_808 : qcd 0 808 = some (.iaload, 1) := by decide +kernel
theorem c0_809 : qcd 0 809 = some (.aload_n 0, 1) := by decide +kernel
theorem c0_810 : qcd 0 810 = some (.iload_n 3, 1) := by decide +kernel
theorem c0_811 : qcd 0 811 = some (.iconst 2, 1) := by decide +kernel
theorem c0_812 : qcd 0 812 = some (.iadd, 1) := by decide +kernel
theorem c0_813 : qcd 0 813 = some (.iaload, 1) := by decide +kernel
theorem c0_814 : qcd 0 814 = some (.invokevirtual 89, 3) := by decide +kernel
theorem c0_817 : qcd 0 817 = some (.if_icmp .eq 646, 3) := by decide +kernel
theorem c0_820 : qcd 0 820 = some (.iconst 0, 1) := by decide +kernel
theorem c0_821 : qcd 0 821 = some (.ireturn, 1) := by decide +kernel
theorem c0_822 : qcd 0 822 = some (.aload_n 1, 1) := by decide +kernel
theorem c0_823 : qcd 0 823 = some (.aload_n 0, 1) := by decide +kernel
theorem c0_824 : qcd 0 824 = some (.iload_n 3, 1) := by decide +kernel
theorem c0_825 : qcd 0 825 = some (.iconst 1, 1) := by decide +kernel
theorem c0_826 : qcd 0 826 = some (.iadd, 1) := by decide +kernel
theorem c0_827 : qcd 0 827 = some (.iaload, 1) := by decide +kernel
theorem c0_828 : qcd 0 828 = some (.aload_n 0, 1) := by decide +kernel
theorem c0_829 : qcd 0 829 = some (.iload_n 3, 1) := by decide +kernel
theorem c0_830 : qcd 0 830 = some (.iconst 2, 1) := by decide +kernel
theorem c0_831 : qcd 0 831 = some (.iadd, 1) := by decide +kernel
theorem c0_832 : qcd 0 832 = some (.iaload, 1) := by decide +kernel
theorem c0_833 : qcd 0 833 = some (.invokevirtual 90, 3) := by decide +kernel
theorem c0_836 : qcd 0 836 = some (.aload_n 2, 1) := by decide +kernel
theorem c0_837 : qcd 0 837 = some (.aload_n 0, 1) := by decide +kernel
theorem c0_838 : qcd 0 838 = some (.iload_n 3, 1) := by decide +kernel
theorem c0_839 : qcd 0 839 = some (.iconst 1, 1) := by decide +kernel
theorem c0_840 : qcd 0 840 = some (.iadd, 1) := by decide +kernel
theorem c0_841 : qcd 0 841 = some (.iaload, 1) := by decide +kernel
theorem c0_842 : qcd 0 842 = some (.aload_n 0, 1) := by decide +kernel
theorem c0_843 : qcd 0 843 = some (.iload_n 3, 1) := by decide +kernel
theorem c0_844 : qcd 0 844 = some (.iconst 2, 1) := by decide +kernel
theorem c0_845 : qcd 0 845 = some (.iadd, 1) := by decide +kernel
theorem c0_846 : qcd 0 846 = some (.iaload, 1) := by decide +kernel
theorem c0_847 : qcd 0 847 = some (.invokevirtual 93, 3) := by decide +kernel
theorem c0_850 : qcd 0 850 = some (.if_icmp .eq 613, 3) := by decide +kernel
theorem c0_853 : qcd 0 853 = some (.iconst 0, 1) := by decide +kernel
theorem c0_854 : qcd 0 854 = some (.ireturn, 1) := by decide +kernel
theorem c0_855 : qcd 0 855 = some (.aload_n 1, 1) := by decide +kernel
theorem c0_856 : qcd 0 856 = some (.aload_n 0, 1) := by decide +kernel
theorem c0_857 : qcd 0 857 = some (.iload_n 3, 1) := by decide +kernel
theorem c0_858 : qcd 0 858 = some (.iconst 1, 1) := by decide +kernel
theorem c0_859 : qcd 0 859 = some (.iadd, 1) := by decide +kernel
theorem c0_860 : qcd 0 860 = some (.iaload, 1) := by decide +kernel
theorem c0_861 : qcd 0 861 = some (.invokevirtual 94, 3) := by decide +kernel
theorem c0_864 : qcd 0 864 = some (.aload_n 2, 1) := by decide +kernel
theorem c0_865 : qcd 0 865 = some (.aload_n 0, 1) := by decide +kernel
theorem c0_866 : qcd 0 866 = some (.iload_n 3, 1) := by decide +kernel
theorem c0_867 : qcd 0 867 = some (.iconst 1, 1) := by decide +kernel
theorem c0_868 : qcd 0 868 = some (.iadd, 1) := by decide +kernel
theorem c0_869 : qcd 0 869 = some (.iaload, 1) := by decide +kernel
theorem c0_870 : qcd 0 870 = some (.invokevirtual 97, 3) := by decide +kernel
theorem c0_873 : qcd 0 873 = some (.if_icmp .eq 590, 3) := by decide +kernel
theorem c0_876 : qcd 0 876 = some (.iconst 0, 1) := by decide +kernel
theorem c0_877 : qcd 0 877 = some (.ireturn, 1) := by decide +kernel
theorem c0_878 : qcd 0 878 = some (.aload_n 1, 1) := by decide +kernel
theorem c0_879 : qcd 0 879 = some (.invokevirtual 98, 3) := by decide +kernel
theorem c0_882 : qcd 0 882 = some (.aload_n 2, 1) := by decide +kernel
theorem c0_883 : qcd 0 883 = some (.invokevirtual 101, 3) := by decide +kernel
theorem c0_886 : qcd 0 886 = some (.if_icmp .eq 577, 3) := by decide +kernel
theorem c0_889 : qcd 0 889 = some (.iconst 0, 1) := by decide +kernel
theorem c0_890 : qcd 0 890 = some (.ireturn, 1) := by decide +kernel
theorem c0_891 : qcd 0 891 = some (.aload_n 1, 1) := by decide +kernel
theorem c0_892 : qcd 0 892 = some (.aload_n 0, 1) := by decide +kernel
theorem c0_893 : qcd 0 893 = some (.iload_n 3, 1) := by decide +kernel
theorem c0_894 : qcd 0 894 = some (.iconst 1, 1) := by decide +kernel
theorem c0_895 : qcd 0 895 = some (.iadd, 1) := by decide +kernel
theorem c0_896 : qcd 0 896 = some (.iaload, 1) := by decide +kernel
theorem c0_897 : qcd 0 897 = some (.aload_n 0, 1) := by decide +kernel
theorem c0_898 : qcd 0 898 = some (.iload_n 3, 1) := by decide +kernel
theorem c0_899 : qcd 0 899 = some (.iconst 2, 1) := by decide +kernel
theorem c0_900 : qcd 0 900 = some (.iadd, 1) := by decide +kernel
theorem c0_901 : qcd 0 901 = some (.iaload, 1) := by decide +kernel
theorem c0_902 : qcd 0 902 = some (.ifCond .eq 7, 3) := by decide +kernel
theorem c0_905 : qcd 0 905 = some (.iconst 1, 1) := by decide +kernel
theorem c0_906 : qcd 0 906 = some (.goto 4, 3) := by decide +kernel
theorem c0_909 : qcd 0 909 = some (.iconst 0, 1) := by decide +kernel
theorem c0_910 : qcd 0 910 = some (.invokevirtual 102, 3) := by decide +kernel
theorem c0_913 : qcd 0 913 = some (.aload_n 2, 1) := by decide +kernel
theorem c0_914 : qcd 0 914 = some (.aload_n 0, 1) := by decide +kernel
theorem c0_915 : qcd 0 915 = some (.iload_n 3, 1) := by decide +kernel
theorem c0_916 : qcd 0 916 = some (.iconst 1, 1) := by decide +kernel
theorem c0_917 : qcd 0 917 = some (.iadd, 1) := by decide +kernel
theorem c0_918 : qcd 0 918 = some (.iaload, 1) := by decide +kernel
theorem c0_919 : qcd 0 919 = some (.aload_n 0, 1) := by decide +kernel
theorem c0_920 : qcd 0 920 = some (.iload_n 3, 1) := by decide +kernel
theorem c0_921 : qcd 0 921 = some (.iconst 2, 1) := by decide +kernel
theorem c0_922 : qcd 0 922 = some (.iadd, 1) := by decide +kernel
theorem c0_923 : qcd 0 923 = some (.iaload, 1) := by decide +kernel
theorem c0_924 : qcd 0 924 = some (.ifCond .eq 7, 3) := by decide +kernel
theorem c0_927 : qcd 0 927 = some (.iconst 1, 1) := by decide +kernel
theorem c0_928 : qcd 0 928 = some (.goto 4, 3) := by decide +kernel
theorem c0_931 : qcd 0 931 = some (.iconst 0, 1) := by decide +kernel
theorem c0_932 : qcd 0 932 = some (.invokevirtual 105, 3) := by decide +kernel
theorem c0_935 : qcd 0 935 = some (.if_icmp .eq 528, 3) := by decide +kernel
theorem c0_938 : qcd 0 938 = some (.iconst 0, 1) := by decide +kernel
theorem c0_939 : qcd 0 939 = some (.ireturn, 1) := by decide +kernel
theorem c0_940 : qcd 0 940 = some (.aload_n 1, 1) := by decide +kernel
theorem c0_941 : qcd 0 941 = some (.aload_n 0, 1) := by decide +kernel
theorem c0_942 : qcd 0 942 = some (.iload_n 3, 1) := by decide +kernel
theorem c0_943 : qcd 0 943 = some (.iconst 1, 1) := by decide +kernel
theorem c0_944 : qcd 0 944 = some (.iadd, 1) := by decide +kernel
theorem c0_945 : qcd 0 945 = some (.iaload, 1) := by decide +kernel
theorem c0_946 : qcd 0 946 = some (.aload_n 0, 1) := by decide +kernel
theorem c0_947 : qcd 0 947 = some (.iload_n 3, 1) := by decide +kernel
theorem c0_948 : qcd 0 948 = some (.iconst 2, 1) := by decide +kernel
theorem c0_949 : qcd 0 949 = some (.iadd, 1) := by decide +kernel
theorem c0_950 : qcd 0 950 = some (.iaload, 1) := by decide +kernel
theorem c0_951 : qcd 0 951 = some (.aload_n 0, 1) := by decide +kernel
theorem c0_952 : qcd 0 952 = some (.iload_n 3, 1) := by decide +kernel
theorem c0_953 : qcd 0 953 = some (.iconst 3, 1) := by decide +kernel
theorem c0_954 : qcd 0 954 = some (.iadd, 1) := by decide +kernel
theorem c0_955 : qcd 0 955 = some (.iaload, 1) := by decide +kernel
theorem c0_956 : qcd 0 956 = some (.invokevirtual 106, 3) := by decide +kernel
theorem c0_959 : qcd 0 959 = some (.aload_n 2, 1) := by decide +kernel
theorem c0_960 : qcd 0 960 = some (.aload_n 0, 1) := by decide +kernel
theorem c0_961 : qcd 0 961 = some (.iload_n 3, 1) := by decide +kernel
theorem c0_962 : qcd 0 962 = some (.iconst 1, 1) := by decide +kernel
theorem c0_963 : qcd 0 963 = some (.iadd, 1) := by decide +kernel
theorem c0_964 : qcd 0 964 = some (.iaload, 1) := by decide +kernel
theorem c0_965 : qcd 0 965 = some (.aload_n 0, 1) := by decide +kernel
theorem c0_966 : qcd 0 966 = some (.iload_n 3, 1) := by decide +kernel
theorem c0_967 : qcd 0 967 = some (.iconst 2, 1) := by decide +kernel
theorem c0_968 : qcd 0 968 = some (.iadd, 1) := by decide +kernel
theorem c0_969 : qcd 0 969 = some (.iaload, 1) := by decide +kernel
theorem c0_970 : qcd 0 970 = some (.aload_n 0, 1) := by decide +kernel
theorem c0_971 : qcd 0 971 = some (.iload_n 3, 1) := by decide +kernel
theorem c0_972 : qcd 0 972 = some (.iconst 3, 1) := by decide +kernel
theorem c0_973 : qcd 0 973 = some (.iadd, 1) := by decide +kernel
theorem c0_974 : qcd 0 974 = some (.iaload, 1) := by decide +kernel
theorem c0_975 : qcd 0 975 = some (.invokevirtual 110, 3) := by decide +kernel
theorem c0_978 : qcd 0 978 = some (.lcmp, 1) := by decide +kernel
theorem c0_979 : qcd 0 979 = some (.ifCond .eq 484, 3) := by decide +kernel
theorem c0_982 : qcd 0 982 = some (.iconst 0, 1) := by decide +kernel
theorem c0_983 : qcd 0 983 = some (.ireturn, 1) := by decide +kernel
theorem c0_984 : qcd 0 984 = some (.aload_n 1, 1) := by decide +kernel
theorem c0_985 : qcd 0 985 = some (.aload_n 0, 1) := by decide +kernel
theorem c0_986 : qcd 0 986 = some (.iload_n 3, 1) := by decide +kernel
theorem c0_987 : qcd 0 987 = some (.iconst 1, 1) := by decide +kernel
theorem c0_988 : qcd 0 988 = some (.iadd, 1) := by decide +kernel
theorem c0_989 : qcd 0 989 = some (.iaload, 1) := by decide +kernel
theorem c0_990 : qcd 0 990 = some (.invokevirtual 111, 3) := by decide +kernel
theorem c0_993 : qcd 0 993 = some (.aload_n 2, 1) := by decide +kernel
theorem c0_994 : qcd 0 994 = some (.aload_n 0, 1) := by decide +kernel
theorem c0_995 : qcd 0 995 = some (.iload_n 3, 1) := by decide +kernel
theorem c0_996 : qcd 0 996 = some (.iconst 1, 1) := by decide +kernel
theorem c0_997 : qcd 0 997 = some (.iadd, 1) := by decide +kernel
theorem c0_998 : qcd 0 998 = some (.iaload, 1) := by decide +kernel
theorem c0_999 : qcd 0 999 = some (.invokevirtual 114, 3) := by decide +kernel
theorem c0_1002 : qcd 0 1002 = some (.if_icmp .eq 461, 3) := by decide +kernel
theorem c0_1005 : qcd 0 1005 = some (.iconst 0, 1) := by decide +kernel
theorem c0_1006 : qcd 0 1006 = some (.ireturn, 1) := by decide +kernel
theorem c0_1007 : qcd 0 1007 = some (.aload_n 1, 1) := by decide +kernel
theorem c0_1008 : qcd 0 1008 = some (.aload_n 0, 1) := by decide +kernel
theorem c0_1009 : qcd 0 1009 = some (.iload_n 3, 1) := by decide +kernel
theorem c0_1010 : qcd 0 1010 = some (.iconst 1, 1) := by decide +kernel
theorem c0_1011 : qcd 0 1011 = some (.iadd, 1) := by decide +kernel
theorem c0_1012 : qcd 0 1012 = some (.iaload, 1) := by decide +kernel
theorem c0_1013 : qcd 0 1013 = some (.aload_n 0, 1) := by decide +kernel
theorem c0_1014 : qcd 0 1014 = some (.iload_n 3, 1) := by decide +kernel
theorem c0_1015 : qcd 0 1015 = some (.iconst 2, 1) := by decide +kernel
theorem c0_1016 : qcd 0 1016 = some (.iadd, 1) := by decide +kernel
theorem c0_1017 : qcd 0 1017 = some (.iaload, 1) := by decide +kernel
theorem c0_1018 : qcd 0 1018 = some (.aload_n 0, 1) := by decide +kernel
theorem c0_1019 : qcd 0 1019 = some (.iload_n 3, 1) := by decide +kernel
theorem c0_1020 : qcd 0 1020 = some (.iconst 3, 1) := by decide +kernel
theorem c0_1021 : qcd 0 1021 = some (.iadd, 1) := by decide +kernel
theorem c0_1022 : qcd 0 1022 = some (.iaload, 1) := by decide +kernel
theorem c0_1023 : qcd 0 1023 = some (.invokevirtual 115, 3) := by decide +kernel
theorem c0_1026 : qcd 0 1026 = some (.aload_n 2, 1) := by decide +kernel
theorem c0_1027 : qcd 0 1027 = some (.aload_n 0, 1) := by decide +kernel
theorem c0_1028 : qcd 0 1028 = some (.iload_n 3, 1) := by decide +kernel
theorem c0_1029 : qcd 0 1029 = some (.iconst 1, 1) := by decide +kernel
theorem c0_1030 : qcd 0 1030 = some (.iadd, 1) := by decide +kernel
theorem c0_1031 : qcd 0 1031 = some (.iaload, 1) := by decide +kernel
theorem c0_1032 : qcd 0 1032 = some (.aload_n 0, 1) := by decide +kernel
theorem c0_1033 : qcd 0 1033 = some (.iload_n 3, 1) := by decide +kernel
theorem c0_1034 : qcd 0 1034 = some (.iconst 2, 1) := by decide +kernel
theorem c0_1035 : qcd 0 1035 = some (.iadd, 1) := by decide +kernel
theorem c0_1036 : qcd 0 1036 = some (.iaload, 1) := by decide +kernel
theorem c0_1037 : qcd 0 1037 = some (.aload_n 0, 1) := by decide +kernel
theorem c0_1038 : qcd 0 1038 = some (.iload_n 3, 1) := by decide +kernel
theorem c0_1039 : qcd 0 1039 = some (.iconst 3, 1) := by decide +kernel
theorem c0_1040 : qcd 0 1040 = some (.iadd, 1) := by decide +kernel
theorem c0_1041 : qcd 0 1041 = some (.iaload, 1) := by decide +kernel
theorem c0_1042 : qcd 0 1042 = some (.invokevirtual 118, 3) := by decide +kernel
theorem c0_1045 : qcd 0 1045 = some (.if_icmp .eq 418, 3) := by decide +kernel
theorem c0_1048 : qcd 0 1048 = some (.iconst 0, 1) := by decide +kernel
theorem c0_1049 : qcd 0 1049 = some (.ireturn, 1) := by decide +kernel
theorem c0_1050 : qcd 0 1050 = some (.aload_n 1, 1) := by decide +kernel
theorem c0_1051 : qcd 0 1051 = some (.aload_n 0, 1) := by decide +kernel
theorem c0_1052 : qcd 0 1052 = some (.iload_n 3, 1) := by decide +kernel
theorem c0_1053 : qcd 0 1053 = some (.iconst 1, 1) := by decide +kernel
theorem c0_1054 : qcd 0 1054 = some (.iadd, 1) := by decide +kernel
theorem c0_1055 : qcd 0 1055 = some (.iaload, 1) := by decide +kernel
theorem c0_1056 : qcd 0 1056 = some (.aload_n 0, 1) := by decide +kernel
theorem c0_1057 : qcd 0 1057 = some (.iload_n 3, 1) := by decide +kernel
theorem c0_1058 : qcd 0 1058 = some (.iconst 2, 1) := by decide +kernel
theorem c0_1059 : qcd 0 1059 = some (.iadd, 1) := by decide +kernel
theorem c0_1060 : qcd 0 1060 = some (.iaload, 1) := by decide +kernel
theorem c0_1061 : qcd 0 1061 = some (.invokevirtual 119, 3) := by decide +kernel
theorem c0_1064 : qcd 0 1064 = some (.aload_n 2, 1) := by decide +kernel
theorem c0_1065 : qcd 0 1065 = some (.aload_n 0, 1) := by decide +kernel
theorem c0_1066 : qcd 0 1066 = some (.iload_n 3, 1) := by decide +kernel
theorem c0_1067 : qcd 0 1067 = some (.iconst 1, 1) := by decide +kernel
theorem c0_1068 : qcd 0 1068 = some (.iadd, 1) := by decide +kernel
theorem c0_1069 : qcd 0 1069 = some (.iaload, 1) := by decide +kernel
theorem c0_1070 : qcd 0 1070 = some (.aload_n 0, 1) := by decide +kernel
theorem c0_1071 : qcd 0 1071 = some (.iload_n 3, 1) := by decide +kernel
theorem c0_1072 : qcd 0 1072 = some (.iconst 2, 1) := by decide +kernel
theorem c0_1073 : qcd 0 1073 = some (.iadd, 1) := by decide +kernel
theorem c0_1074 : qcd 0 1074 = some (.iaload, 1) := by decide +kernel
theorem c0_1075 : qcd 0 1075 = some (.invokevirtual 122, 3) := by decide +kernel
theorem c0_1078 : qcd 0 1078 = some (.if_icmp .eq 385, 3) := by decide +kernel
theorem c0_1081 : qcd 0 1081 = some (.iconst 0, 1) := by decide +kernel
theorem c0_1082 : qcd 0 1082 = some (.ireturn, 1) := by decide +kernel
theorem c0_1083 : qcd 0 1083 = some (.aload_n 1, 1) := by decide +kernel
theorem c0_1084 : qcd 0 1084 = some (.aload_n 0, 1) := by decide +kernel
theorem c0_1085 : qcd 0 1085 = some (.iload_n 3, 1) := by decide +kernel
theorem c0_1086 : qcd 0 1086 = some (.iconst 1, 1) := by decide +kernel
theorem c0_1087 : qcd 0 1087 = some (.iadd, 1) := by decide +kernel
theorem c0_1088 : qcd 0 1088 = some (.iaload, 1) := by decide +kernel
theorem c0_1089 : qcd 0 1089 = some (.aload_n 0, 1) := by decide +kernel
theorem c0_1090 : qcd 0 1090 = some (.iload_n 3, 1) := by decide +kernel
theorem c0_1091 : qcd 0 1091 = some (.iconst 2, 1) := by decide +kernel
theorem c0_1092 : qcd 0 1092 = some (.iadd, 1) := by decide +kernel
theorem c0_1093 : qcd 0 1093 = some (.iaload, 1) := by decide +kernel
theorem c0_1094 : qcd 0 1094 = some (.invokevirtual 123, 3) := by decide +kernel
theorem c0_1097 : qcd 0 1097 = some (.aload_n 2, 1) := by decide +kernel
theorem c0_1098 : qcd 0 1098 = some (.aload_n 0, 1) := by decide +kernel
theorem c0_1099 : qcd 0 1099 = some (.iload_n 3, 1) := by decide +kernel
theorem c0_1100 : qcd 0 1100 = some (.iconst 1, 1) := by decide +kernel
theorem c0_1101 : qcd 0 1101 = some (.iadd, 1) := by decide +kernel
theorem c0_1102 : qcd 0 1102 = some (.iaload, 1) := by decide +kernel
theorem c0_1103 : qcd 0 1103 = some (.aload_n 0, 1) := by decide +kernel
theorem c0_1104 : qcd 0 1104 = some (.iload_n 3, 1) := by decide +kernel
theorem c0_1105 : qcd 0 1105 = some (.iconst 2, 1) := by decide +kernel
theorem c0_1106 : qcd 0 1106 = some (.iadd, 1) := by decide +kernel
theorem c0_1107 : qcd 0 1107 = some (.iaload, 1) := by decide +kernel
theorem c0_1108 : qcd 0 1108 = some (.invokevirtual 126, 3) := by decide +kernel
theorem c0_1111 : qcd 0 1111 = some (.if_icmp .eq 352, 3) := by decide +kernel
theorem c0_1114 : qcd 0 1114 = some (.iconst 0, 1) := by decide +kernel
theorem c0_1115 : qcd 0 1115 = some (.ireturn, 1) := by decide +kernel
theorem c0_1116 : qcd 0 1116 = some (.aload_n 1, 1) := by decide +kernel
theorem c0_1117 : qcd 0 1117 = some (.aload_n 0, 1) := by decide +kernel
theorem c0_1118 : qcd 0 1118 = some (.iload_n 3, 1) := by decide +kernel
theorem c0_1119 : qcd 0 1119 = some (.iconst 1, 1) := by decide +kernel
theorem c0_1120 : qcd 0 1120 = some (.iadd, 1) := by decide +kernel
theorem c0_1121 : qcd 0 1121 = some (.iaload, 1) := by decide +kernel
theorem c0_1122 : qcd 0 1122 = some (.aload_n 0, 1) := by decide +kernel
theorem c0_1123 : qcd 0 1123 = some (.iload_n 3, 1) := by decide +kernel
theorem c0_1124 : qcd 0 1124 = some (.iconst 2, 1) := by decide +kernel
theorem c0_1125 : qcd 0 1125 = some (.iadd, 1) := by decide +kernel
theorem c0_1126 : qcd 0 1126 = some (.iaload, 1) := by decide +kernel
theorem c0_1127 : qcd 0 1127 = some (.aload_n 0, 1) := by decide +kernel
theorem c0_1128 : qcd 0 1128 = some (.iload_n 3, 1) := by decide +kernel
theorem c0_1129 : qcd 0 1129 = some (.iconst 3, 1) := by decide +kernel
theorem c0_1130 : qcd 0 1130 = some (.iadd, 1) := by decide +kernel
theorem c0_1131 : qcd 0 1131 = some (.iaload, 1) := by decide +kernel
theorem c0_1132 : qcd 0 1132 = some (.invokevirtual 127, 3) := by decide +kernel
theorem c0_1135 : qcd 0 1135 = some (.aload_n 2, 1) := by decide +kernel
theorem c0_1136 : qcd 0 1136 = some (.aload_n 0, 1) := by decide +kernel
theorem c0_1137 : qcd 0 1137 = some (.iload_n 3, 1) := by decide +kernel
theorem c0_1138 : qcd 0 1138 = some (.iconst 1, 1) := by decide +kernel
theorem c0_1139 : qcd 0 1139 = some (.iadd, 1) := by decide +kernel
theorem c0_1140 : qcd 0 1140 = some (.iaload, 1) := by decide +kernel
theorem c0_1141 : qcd 0 1141 = some (.aload_n 0, 1) := by decide +kernel
theorem c0_1142 : qcd 0 1142 = some (.iload_n 3, 1) := by decide +kernel
theorem c0_1143 : qcd 0 1143 = some (.iconst 2, 1) := by decide +kernel
theorem c0_1144 : qcd 0 1144 = some (.iadd, 1) := by decide +kernel
theorem c0_1145 : qcd 0 1145 = some (.iaload, 1) := by decide +kernel
theorem c0_1146 : qcd 0 1146 = some (.aload_n 0, 1) := by decide +kernel
theorem c0_1147 : qcd 0 1147 = some (.iload_n 3, 1) := by decide +kernel
theorem c0_1148 : qcd 0 1148 = some (.iconst 3, 1) := by decide +kernel
theorem c0_1149 : qcd 0 1149 = some (.iadd, 1) := by decide +kernel
theorem c0_1150 : qcd 0 1150 = some (.iaload, 1) := by decide +kernel
theorem c0_1151 : qcd 0 1151 = some (.invokevirtual 131, 3) := by decide +kernel
theorem c0_1154 : qcd 0 1154 = some (.if_icmp .eq 309, 3) := by decide +kernel
theorem c0_1157 : qcd 0 1157 = some (.iconst 0, 1) := by decide +kernel
theorem c0_1158 : qcd 0 1158 = some (.ireturn, 1) := by decide +kernel
theorem c0_1159 : qcd 0 1159 = some (.aload_n 1, 1) := by decide +kernel
theorem c0_1160 : qcd 0 1160 = some (.aload_n 0, 1) := by decide +kernel
theorem c0_1161 : qcd 0 1161 = some (.iload_n 3, 1) := by decide +kernel
theorem c0_1162 : qcd 0 1162 = some (.iconst 1, 1) := by decide +kernel
theorem c0_1163 : qcd 0 1163 = some (.iadd, 1) := by decide +kernel
theorem c0_1164 : qcd 0 1164 = some (.iaload, 1) := by decide +kernel
theorem c0_1165 : qcd 0 1165 = some (.aload_n 0, 1) := by decide +kernel
theorem c0_1166 : qcd 0 1166 = some (.iload_n 3, 1) := by decide +kernel
theorem c0_1167 : qcd 0 1167 = some (.iconst 2, 1) := by decide +kernel
theorem c0_1168 : qcd 0 1168 = some (.iadd, 1) := by decide +kernel
theorem c0_1169 : qcd 0 1169 = some (.iaload, 1) := by decide +kernel
theorem c0_1170 : qcd 0 1170 = some (.invokevirtual 132, 3) := by decide +kernel
theorem c0_1173 : qcd 0 1173 = some (.aload_n 2, 1) := by decide +kernel
theorem c0_1174 : qcd 0 1174 = some (.aload_n 0, 1) := by decide +kernel
theorem c0_1175 : qcd 0 1175 = some (.iload_n 3, 1) := by decide +kernel
theorem c0_1176 : qcd 0 1176 = some (.iconst 1, 1) := by decide +kernel
theorem c0_1177 : qcd 0 1177 = some (.iadd, 1) := by decide +kernel
theorem c0_1178 : qcd 0 1178 = some (.iaload, 1) := by decide +kernel
theorem c0_1179 : qcd 0 1179 = some (.aload_n 0, 1) := by decide +kernel
theorem c0_1180 : qcd 0 1180 = some (.iload_n 3, 1) := by decide +kernel
theorem c0_1181 : qcd 0 1181 = some (.iconst 2, 1) := by decide +kernel
theorem c0_1182 : qcd 0 1182 = some (.iadd, 1) := by decide +kernel
theorem c0_1183 : qcd 0 1183 = some (.iaload, 1) := by decide +kernel
theorem c0_1184 : qcd 0 1184 = some (.invokevirtual 135, 3) := by decide +kernel
theorem c0_1187 : qcd 0 1187 = some (.if_icmp .eq 276, 3) := by decide +kernel
theorem c0_1190 : qcd 0 1190 = some (.iconst 0, 1) := by decide +kernel
theorem c0_1191 : qcd 0 1191 = some (.ireturn, 1) := by decide +kernel
theorem c0_1192 : qcd 0 1192 = some (.aload_n 1, 1) := by decide +kernel
theorem c0_1193 : qcd 0 1193 = some (.aload_n 0, 1) := by decide +kernel
theorem c0_1194 : qcd 0 1194 = some (.iload_n 3, 1) := by decide +kernel
theorem c0_1195 : qcd 0 1195 = some (.iconst 1, 1) := by decide +kernel
theorem c0_1196 : qcd 0 1196 = some (.iadd, 1) := by decide +kernel
theorem c0_1197 : qcd 0 1197 = some (.iaload, 1) := by decide +kernel
theorem c0_1198 : qcd 0 1198 = some (.aload_n 0, 1) := by decide +kernel
theorem c0_1199 : qcd 0 1199 = some (.iload_n 3, 1) := by decide +kernel
theorem c0_1200 : qcd 0 1200 = some (.iconst 2, 1) := by decide +kernel
theorem c0_1201 : qcd 0 1201 = some (.iadd, 1) := by decide +kernel
theorem c0_1202 : qcd 0 1202 = some (.iaload, 1) := by decide +kernel
theorem c0_1203 : qcd 0 1203 = some (.invokevirtual 136, 3) := by decide +kernel
theorem c0_1206 : qcd 0 1206 = some (.aload_n 2, 1) := by decide +kernel
theorem c0_1207 : qcd 0 1207 = some (.aload_n 0, 1) := by decide +kernel
theorem c0_1208 : qcd 0 1208 = some (.iload_n 3, 1) := by decide +kernel
theorem c0_1209 : qcd 0 1209 = some (.iconst 1, 1) := by decide +kernel
theorem c0_1210 : qcd 0 1210 = some (.iadd, 1) := by decide +kernel
theorem c0_1211 : qcd 0 1211 = some (.iaload, 1) := by decide +kernel
theorem c0_1212 : qcd 0 1212 = some (.aload_n 0, 1) := by decide +kernel
theorem c0_1213 : qcd 0 1213 = some (.iload_n 3, 1) := by decide +kernel
theorem c0_1214 : qcd 0 1214 = some (.iconst 2, 1) := by decide +kernel
theorem c0_1215 : qcd 0 1215 = some (.iadd, 1) := by decide +kernel
theorem c0_1216 : qcd 0 1216 = some (.iaload, 1) := by decide +kernel
theorem c0_1217 : qcd 0 1217 = some (.invokevirtual 139, 3) := by decide +kernel
theorem c0_1220 : qcd 0 1220 = some (.if_icmp .eq 243, 3) := by decide +kernel
theorem c0_1223 : qcd 0 1223 = some (.iconst 0, 1) := by decide +kernel
theorem c0_1224 : qcd 0 1224 = some (.ireturn, 1) := by decide +kernel
theorem c0_1225 : qcd 0 1225 = some (.aload_n 1, 1) := by decide +kernel
theorem c0_1226 : qcd 0 1226 = some (.aload_n 0, 1) := by decide +kernel
theorem c0_1227 : qcd 0 1227 = some (.iload_n 3, 1) := by decide +kernel
theorem c0_1228 : qcd 0 1228 = some (.iconst 1, 1) := by decide +kernel
theorem c0_1229 : qcd 0 1229 = some (.iadd, 1) := by decide +kernel
theorem c0_1230 : qcd 0 1230 = some (.iaload, 1) := by decide +kernel
theorem c0_1231 : qcd 0 1231 = some (.aload_n 0, 1) := by decide +kernel
theorem c0_1232 : qcd 0 1232 = some (.iload_n 3, 1) := by decide +kernel
theorem c0_1233 : qcd 0 1233 = some (.iconst 2, 1) := by decide +kernel
theorem c0_1234 : qcd 0 1234 = some (.iadd, 1) := by decide +kernel
theorem c0_1235 : qcd 0 1235 = some (.iaload, 1) := by decide +kernel
theorem c0_1236 : qcd 0 1236 = some (.invokevirtual 140, 3) := by decide +kernel
theorem c0_1239 : qcd 0 1239 = some (.aload_n 2, 1) := by decide +kernel
theorem c0_1240 : qcd 0 1240 = some (.aload_n 0, 1) := by decide +kernel
theorem c0_1241 : qcd 0 1241 = some (.iload_n 3, 1) := by decide +kernel
theorem c0_1242 : qcd 0 1242 = some (.iconst 1, 1) := by decide +kernel
theorem c0_1243 : qcd 0 1243 = some (.iadd, 1) := by decide +kernel
theorem c0_1244 : qcd 0 1244 = some (.iaload, 1) := by decide +kernel
theorem c0_1245 : qcd 0 1245 = some (.aload_n 0, 1) := by decide +kernel
theorem c0_1246 : qcd 0 1246 = some (.iload_n 3, 1) := by decide +kernel
theorem c0_1247 : qcd 0 1247 = some (.iconst 2, 1) := by decide +kernel
theorem c0_1248 : qcd 0 1248 = some (.iadd, 1) := by decide +kernel
theorem c0_1249 : qcd 0 1249 = some (.iaload, 1) := by decide +kernel
theorem c0_1250 : qcd 0 1250 = some (.invokevirtual 143, 3) := by decide +kernel
theorem c0_1253 : qcd 0 1253 = some (.if_icmp .eq 210, 3) := by decide +kernel
theorem c0_1256 : qcd 0 1256 = some (.iconst 0, 1) := by decide +kernel
theorem c0_1257 : qcd 0 1257 = some (.ireturn, 1) := by decide +kernel
theorem c0_1258 : qcd 0 1258 = some (.aload_n 1, 1) := by decide +kernel
theorem c0_1259 : qcd 0 1259 = some (.aload_n 0, 1) := by decide +kernel
theorem c0_1260 : qcd 0 1260 = some (.iload_n 3, 1) := by decide +kernel
theorem c0_1261 : qcd 0 1261 = some (.iconst 1, 1) := by decide +kernel
theorem c0_1262 : qcd 0 1262 = some (.iadd, 1) := by decide +kernel
theorem c0_1263 : qcd 0 1263 = some (.iaload, 1) := by decide +kernel
theorem c0_1264 : qcd 0 1264 = some (.aload_n 0, 1) := by decide +kernel
theorem c0_1265 : qcd 0 1265 = some (.iload_n 3, 1) := by decide +kernel
theorem c0_1266 : qcd 0 1266 = some (.iconst 2, 1) := by decide +kernel
theorem c0_1267 : qcd 0 1267 = some (.iadd, 1) := by decide +kernel
theorem c0_1268 : qcd 0 1268 = some (.iaload, 1) := by decide +kernel
theorem c0_1269 : qcd 0 1269 = some (.ifCond .eq 7, 3) := by decide +kernel
theorem c0_1272 : qcd 0 1272 = some (.iconst 1, 1) := by decide +kernel
theorem c0_1273 : qcd 0 1273 = some (.goto 4, 3) := by decide +kernel
theorem c0_1276 : qcd 0 1276 = some (.iconst 0, 1) := by decide +kernel
theorem c0_1277 : qcd 0 1277 = some (.aload_n 0, 1) := by decide +kernel
theorem c0_1278 : qcd 0 1278 = some (.iload_n 3, 1) := by decide +kernel
theorem c0_1279 : qcd 0 1279 = some (.iconst 3, 1) := by decide +kernel
theorem c0_1280 : qcd 0 1280 = some (.iadd, 1) := by decide +kernel
theorem c0_1281 : qcd 0 1281 = some (.iaload, 1) := by decide +kernel
theorem c0_1282 : qcd 0 1282 = some (.invokevirtual 144, 3) := by decide +kernel
theorem c0_1285 : qcd 0 1285 = some (.aload_n 2, 1) := by decide +kernel
theorem c0_1286 : qcd 0 1286 = some (.aload_n 0, 1) := by decide +kernel
theorem c0_1287 : qcd 0 1287 = some (.iload_n 3, 1) := by decide +kernel
theorem c0_1288 : qcd 0 1288 = some (.iconst 1, 1) := by decide +kernel
theorem c0_1289 : qcd 0 1289 = some (.iadd, 1) := by decide +kernel
theorem c0_1290 : qcd 0 1290 = some (.iaload, 1) := by decide +kernel
theorem c0_1291 : qcd 0 1291 = some (.aload_n 0, 1) := by decide +kernel
theorem c0_1292 : qcd 0 1292 = some (.iload_n 3, 1) := by decide +kernel
theorem c0_1293 : qcd 0 1293 = some (.iconst 2, 1) := by decide +kernel
theorem c0_1294 : qcd 0 1294 = some (.iadd, 1) := by decide +kernel
theorem c0_1295 : qcd 0 1295 = some (.iaload, 1) := by decide +kernel
theorem c0_1296 : qcd 0 1296 = some (.ifCond .eq 7, 3) := by decide +kernel
theorem c0_1299 : qcd 0 1299 = some (.iconst 1, 1) := by decide +kernel
theorem c0_1300 : qcd 0 1300 = some (.goto 4, 3) := by decide +kernel
theorem c0_1303 : qcd 0 1303 = some (.iconst 0, 1) := by decide +kernel
theorem c0_1304 : qcd 0 1304 = some (.aload_n 0, 1) := by decide +kernel
theorem c0_1305 : qcd 0 1305 = some (.iload_n 3, 1) := by decide +kernel
theorem c0_1306 : qcd 0 1306 = some (.iconst 3, 1) := by decide +kernel
theorem c0_1307 : qcd 0 1307 = some (.iadd, 1) := by decide +kernel
theorem c0_1308 : qcd 0 1308 = some (.iaload, 1) := by decide +kernel
theorem c0_1309 : qcd 0 1309 = some (.invokevirtual 148, 3) := by decide +kernel
theorem c0_1312 : qcd 0 1312 = some (.if_icmp .eq 151, 3) := by decide +kernel
theorem c0_1315 : qcd 0 1315 = some (.iconst 0, 1) := by decide +kernel
theorem c0_1316 : qcd 0 1316 = some (.ireturn, 1) := by decide +kernel
theorem c0_1317 : qcd 0 1317 = some (.aload_n 1, 1) := by decide +kernel
theorem c0_1318 : qcd 0 1318 = some (.aload_n 0, 1) := by decide +kernel
theorem c0_1319 : qcd 0 1319 = some (.iload_n 3, 1) := by decide +kernel
theorem c0_1320 : qcd 0 1320 = some (.iconst 1, 1) := by decide +kernel
theorem c0_1321 : qcd 0 1321 = some (.iadd, 1) := by decide +kernel
theorem c0_1322 : qcd 0 1322 = some (.iaload, 1) := by decide +kernel
theorem c0_1323 : qcd 0 1323 = some (.invokevirtual 149, 3) := by decide +kernel
theorem c0_1326 : qcd 0 1326 = some (.aload_n 2, 1) := by decide +kernel
theorem c0_1327 : qcd 0 1327 = some (.aload_n 0, 1) := by decide +kernel
theorem c0_1328 : qcd 0 1328 = some (.iload_n 3, 1) := by decide +kernel
theorem c0_1329 : qcd 0 1329 = some (.iconst 1, 1) := by decide +kernel
theorem c0_1330 : qcd 0 1330 = some (.iadd, 1) := by decide +kernel
theorem c0_1331 : qcd 0 1331 = some (.iaload, 1) := by decide +kernel
theorem c0_1332 : qcd 0 1332 = some (.invokevirtual 152, 3) := by decide +kernel
theorem c0_1335 : qcd 0 1335 = some (.lcmp, 1) := by decide +kernel
theorem c0_1336 : qcd 0 1336 = some (.ifCond .eq 127, 3) := by decide +kernel
theorem c0_1339 : qcd 0 1339 = some (.iconst 0, 1) := by decide +kernel
theorem c0_1340 : qcd 0 1340 = some (.ireturn, 1) := by decide +kernel
theorem c0_1341 : qcd 0 1341 = some (.aload_n 1, 1) := by decide +kernel
theorem c0_1342 : qcd 0 1342 = some (.aload_n 0, 1) := by decide +kernel
theorem c0_1343 : qcd 0 1343 = some (.iload_n 3, 1) := by decide +kernel
theorem c0_1344 : qcd 0 1344 = some (.iconst 1, 1) := by decide +kernel
theorem c0_1345 : qcd 0 1345 = some (.iadd, 1) := by decide +kernel
theorem c0_1346 : qcd 0 1346 = some (.iaload, 1) := by decide +kernel
theorem c0_1347 : qcd 0 1347 = some (.aload_n 0, 1) := by decide +kernel
theorem c0_1348 : qcd 0 1348 = some (.iload_n 3, 1) := by decide +kernel
theorem c0_1349 : qcd 0 1349 = some (.iconst 2, 1) := by decide +kernel
theorem c0_1350 : qcd 0 1350 = some (.iadd, 1) := by decide +kernel
theorem c0_1351 : qcd 0 1351 = some (.iaload, 1) := by decide +kernel
theorem c0_1352 : qcd 0 1352 = some (.invokevirtual 153, 3) := by decide +kernel
theorem c0_1355 : qcd 0 1355 = some (.aload_n 2, 1) := by decide +kernel
theorem c0_1356 : qcd 0 1356 = some (.aload_n 0, 1) := by decide +kernel
theorem c0_1357 : qcd 0 1357 = some (.iload_n 3, 1) := by decide +kernel
theorem c0_1358 : qcd 0 1358 = some (.iconst 1, 1) := by decide +kernel
theorem c0_1359 : qcd 0 1359 = some (.iadd, 1) := by decide +kernel
theorem c0_1360 : qcd 0 1360 = some (.iaload, 1) := by decide +kernel
theorem c0_1361 : qcd 0 1361 = some (.aload_n 0, 1) := by decide +kernel
theorem c0_1362 : qcd 0 1362 = some (.iload_n 3, 1) := by decide +kernel
theorem c0_1363 : qcd 0 1363 = some (.iconst 2, 1) := by decide +kernel
theorem c0_1364 : qcd 0 1364 = some (.iadd, 1) := by decide +kernel
theorem c0_1365 : qcd 0 1365 = some (.iaload, 1) := by decide +kernel
theorem c0_1366 : qcd 0 1366 = some (.invokevirtual 156, 3) := by decide +kernel
theorem c0_1369 : qcd 0 1369 = some (.if_icmp .eq 94, 3) := by decide +kernel
theorem c0_1372 : qcd 0 1372 = some (.iconst 0, 1) := by decide +kernel
theorem c0_1373 : qcd 0 1373 = some (.ireturn, 1) := by decide +kernel
theorem c0_1374 : qcd 0 1374 = some (.aload_n 1, 1) := by decide +kernel
theorem c0_1375 : qcd 0 1375 = some (.aload_n 0, 1) := by decide +kernel
theorem c0_1376 : qcd 0 1376 = some (.iload_n 3, 1) := by decide +kernel
theorem c0_1377 : qcd 0 1377 = some (.iconst 1, 1) := by decide +kernel
theorem c0_1378 : qcd 0 1378 = some (.iadd, 1) := by decide +kernel
theorem c0_1379 : qcd 0 1379 = some (.iaload, 1) := by decide +kernel
theorem c0_1380 : qcd 0 1380 = some (.aload_n 0, 1) := by decide +kernel
theorem c0_1381 : qcd 0 1381 = some (.iload_n 3, 1) := by decide +kernel
theorem c0_1382 : qcd 0 1382 = some (.iconst 2, 1) := by decide +kernel
theorem c0_1383 : qcd 0 1383 = some (.iadd, 1) := by decide +kernel
theorem c0_1384 : qcd 0 1384 = some (.iaload, 1) := by decide +kernel
theorem c0_1385 : qcd 0 1385 = some (.aload_n 0, 1) := by decide +kernel
theorem c0_1386 : qcd 0 1386 = some (.iload_n 3, 1) := by decide +kernel
theorem c0_1387 : qcd 0 1387 = some (.iconst 3, 1) := by decide +kernel
theorem c0_1388 : qcd 0 1388 = some (.iadd, 1) := by decide +kernel
theorem c0_1389 : qcd 0 1389 = some (.iaload, 1) := by decide +kernel
theorem c0_1390 : qcd 0 1390 = some (.invokevirtual 157, 3) := by decide +kernel
theorem c0_1393 : qcd 0 1393 = some (.aload_n 2, 1) := by decide +kernel
theorem c0_1394 : qcd 0 1394 = some (.aload_n 0, 1) := by decide +kernel
theorem c0_1395 : qcd 0 1395 = some (.iload_n 3, 1) := by decide +kernel
theorem c0_1396 : qcd 0 1396 = some (.iconst 1, 1) := by decide +kernel
theorem c0_1397 : qcd 0 1397 = some (.iadd, 1) := by decide +kernel
theorem c0_1398 : qcd 0 1398 = some (.iaload, 1) := by decide +kernel
theorem c0_1399 : qcd 0 1399 = some (.aload_n 0, 1) := by decide +kernel
theorem c0_1400 : qcd 0 1400 = some (.iload_n 3, 1) := by decide +kernel
theorem c0_1401 : qcd 0 1401 = some (.iconst 2, 1) := by decide +kernel
theorem c0_1402 : qcd 0 1402 = some (.iadd, 1) := by decide +kernel
theorem c0_1403 : qcd 0 1403 = some (.iaload, 1) := by decide +kernel
theorem c0_1404 : qcd 0 1404 = some (.aload_n 0, 1) := by decide +kernel
theorem c0_1405 : qcd 0 1405 = some (.iload_n 3, 1) := by decide +kernel
theorem c0_1406 : qcd 0 1406 = some (.iconst 3, 1) := by decide +kernel
theorem c0_1407 : qcd 0 1407 = some (.iadd, 1) := by decide +kernel
theorem c0_1408 : qcd 0 1408 = some (.iaload, 1) := by decide +kernel
theorem c0_1409 : qcd 0 1409 = some (.invokevirtual 160, 3) := by decide +kernel
theorem c0_1412 : qcd 0 1412 = some (.if_icmp .eq 51, 3) := by decide +kernel
theorem c0_1415 : qcd 0 1415 = some (.iconst 0, 1) := by decide +kernel
theorem c0_1416 : qcd 0 1416 = some (.ireturn, 1) := by decide +kernel
theorem c0_1417 : qcd 0 1417 = some (.aload_n 1, 1) := by decide +kernel
theorem c0_1418 : qcd 0 1418 = some (.aload_n 0, 1) := by decide +kernel
theorem c0_1419 : qcd 0 1419 = some (.iload_n 3, 1) := by decide +kernel
theorem c0_1420 : qcd 0 1420 = some (.iconst 1, 1) := by decide +kernel
theorem c0_1421 : qcd 0 1421 = some (.iadd, 1) := by decide +kernel
theorem c0_1422 : qcd 0 1422 = some (.iaload, 1) := by decide +kernel
theorem c0_1423 : qcd 0 1423 = some (.invokevirtual 161, 3) := by decide +kernel
theorem c0_1426 : qcd 0 1426 = some (.aload_n 2, 1) := by decide +kernel
theorem c0_1427 : qcd 0 1427 = some (.aload_n 0, 1) := by decide +kernel
theorem c0_1428 : qcd 0 1428 = some (.iload_n 3, 1) := by decide +kernel
theorem c0_1429 : qcd 0 1429 = some (.iconst 1, 1) := by decide +kernel
theorem c0_1430 : qcd 0 1430 = some (.iadd, 1) := by decide +kernel
theorem c0_1431 : qcd 0 1431 = some (.iaload, 1) := by decide +kernel
theorem c0_1432 : qcd 0 1432 = some (.invokevirtual 164, 3) := by decide +kernel
theorem c0_1435 : qcd 0 1435 = some (.if_icmp .eq 28, 3) := by decide +kernel
theorem c0_1438 : qcd 0 1438 = some (.iconst 0, 1) := by decide +kernel
theorem c0_1439 : qcd 0 1439 = some (.ireturn, 1) := by decide +kernel
theorem c0_1440 : qcd 0 1440 = some (.aload_n 1, 1) := by decide +kernel
theorem c0_1441 : qcd 0 1441 = some (.aload_n 0, 1) := by decide +kernel
theorem c0_1442 : qcd 0 1442 = some (.iload_n 3, 1) := by decide +kernel
theorem c0_1443 : qcd 0 1443 = some (.iconst 1, 1) := by decide +kernel
theorem c0_1444 : qcd 0 1444 = some (.iadd, 1) := by decide +kernel
theorem c0_1445 : qcd 0 1445 = some (.iaload, 1) := by decide +kernel
theorem c0_1446 : qcd 0 1446 = some (.invokevirtual 165, 3) := by decide +kernel
theorem c0_1449 : qcd 0 1449 = some (.aload_n 2, 1) := by decide +kernel
theorem c0_1450 : qcd 0 1450 = some (.aload_n 0, 1) := by decide +kernel
theorem c0_1451 : qcd 0 1451 = some (.iload_n 3, 1) := by decide +kernel
theorem c0_1452 : qcd 0 1452 = some (.iconst 1, 1) := by decide +kernel
theorem c0_1453 : qcd 0 1453 = some (.iadd, 1) := by decide +kernel
theorem c0_1454 : qcd 0 1454 = some (.iaload, 1) := by decide +kernel
theorem c0_1455 : qcd 0 1455 = some (.invokevirtual 168, 3) := by decide +kernel
theorem c0_1458 : qcd 0 1458 = some (.if_icmp .eq 5, 3) := by decide +kernel
theorem c0_1461 : qcd 0 1461 = some (.iconst 0, 1) := by decide +kernel
theorem c0_1462 : qcd 0 1462 = some (.ireturn, 1) := by decide +kernel
theorem c0_1463 : qcd 0 1463 = some (.iinc 3 6, 3) := by decide +kernel
theorem c0_1466 : qcd 0 1466 = some (.goto (-1448), 3) := by decide +kernel
theorem c0_1469 : qcd 0 1469 = some (.iconst 1, 1) := by decide +kernel
theorem c0_1470 : qcd 0 1470 = some (.ireturn, 1) := by decide +kernel
