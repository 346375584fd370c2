theorem dL_law_0 : decode code 0 = .ok (.new 7, 3) := by decide +kernel
theorem dL_law_3 : decode code 3 = .ok (.dup, 1) := by decide +kernel
theorem dL_law_4 : decode code 4 = .ok (.invokespecial 9, 3) := by decide +kernel
theorem dL_law_7 : decode code 7 = .ok (.astore_n 1, 1) := by decide +kernel
theorem dL_law_8 : decode code 8 = .ok (.new 10, 3) := by decide +kernel
theorem dL_law_11 : decode code 11 = .ok (.dup, 1) := by decide +kernel
theorem dL_law_12 : decode code 12 = .ok (.invokespecial 12, 3) := by decide +kernel
theorem dL_law_15 : decode code 15 = .ok (.astore_n 2, 1) := by decide +kernel
theorem dL_law_16 : decode code 16 = .ok (.iconst 0, 1) := by decide +kernel
theorem dL_law_17 : decode code 17 = .ok (.istore_n 3, 1) := by decide +kernel
theorem dL_law_18 : decode code 18 = .ok (.iload_n 3, 1) := by decide +kernel
theorem dL_law_19 : decode code 19 = .ok (.aload_n 0, 1) := by decide +kernel
theorem dL_law_20 : decode code 20 = .ok (.arraylength, 1) := by decide +kernel
theorem dL_law_21 : decode code 21 = .ok (.bipush 8, 2) := by decide +kernel
theorem dL_law_23 : decode code 23 = .ok (.isub, 1) := by decide +kernel
theorem dL_law_24 : decode code 24 = .ok (.if_icmp .gt 1419, 3) := by decide +kernel
theorem dL_law_27 : decode code 27 = .ok (.aload_n 0, 1) := by decide +kernel
theorem dL_law_28 : decode code 28 = .ok (.iload_n 3, 1) := by decide +kernel
theorem dL_law_29 : decode code 29 = .ok (.iaload, 1) := by decide +kernel
theorem dL_law_30 : decode code 30 = .ok (.bipush 31, 2) := by decide +kernel
theorem dL_law_32 : decode code 32 = .ok (.iand, 1) := by decide +kernel
theorem dL_law_33 : decode code 33 = .ok (.tableswitch 1404 0 31 #[143, 166, 179, 212, 245, 268, 291, 324, 367, 430, 453, 476, 499, 512, 535, 558, 581, 604, 657, 680, 713, 736, 789, 832, 875, 898, 982, 1045, 1120, 1207, 1294, 1381], 143) := by decide +kernel
theorem dL_law_176 : decode code 176 = .ok (.aload_n 1, 1) := by decide +kernel
theorem dL_law_177 : decode code 177 = .ok (.aload_n 0, 1) := by decide +kernel
theorem dL_law_178 : decode code 178 = .ok (.iload_n 3, 1) := by decide +kernel
theorem dL_law_179 : decode code 179 = .ok (.iconst 1, 1) := by decide +kernel
theorem dL_law_180 : decode code 180 = .ok (.iadd, 1) := by decide +kernel
theorem dL_law_181 : decode code 181 = .ok (.iaload, 1) := by decide +kernel
theorem dL_law_182 : decode code 182 = .ok (.invokevirtual 13, 3) := by decide +kernel
theorem dL_law_185 : decode code 185 = .ok (.aload_n 2, 1) := by decide +kernel
theorem dL_law_186 : decode code 186 = .ok (.aload_n 0, 1) := by decide +kernel
theorem dL_law_187 : decode code 187 = .ok (.iload_n 3, 1) := by decide +kernel
theorem dL_law_188 : decode code 188 = .ok (.iconst 1, 1) := by decide +kernel
theorem dL_law_189 : decode code 189 = .ok (.iadd, 1) := by decide +kernel
theorem dL_law_190 : decode code 190 = .ok (.iaload, 1) := by decide +kernel
theorem dL_law_191 : decode code 191 = .ok (.invokevirtual 17, 3) := by decide +kernel
theorem dL_law_194 : decode code 194 = .ok (.if_icmp .eq 1243, 3) := by decide +kernel
theorem dL_law_197 : decode code 197 = .ok (.iconst 0, 1) := by decide +kernel
theorem dL_law_198 : decode code 198 = .ok (.ireturn, 1) := by decide +kernel
theorem dL_law_199 : decode code 199 = .ok (.aload_n 1, 1) := by decide +kernel
theorem dL_law_200 : decode code 200 = .ok (.invokevirtual 18, 3) := by decide +kernel
theorem dL_law_203 : decode code 203 = .ok (.aload_n 2, 1) := by decide +kernel
theorem dL_law_204 : decode code 204 = .ok (.invokevirtual 22, 3) := by decide +kernel
theorem dL_law_207 : decode code 207 = .ok (.if_icmp .eq 1230, 3) := by decide +kernel
theorem dL_law_210 : decode code 210 = .ok (.iconst 0, 1) := by decide +kernel
theorem dL_law_211 : decode code 211 = .ok (.ireturn, 1) := by decide +kernel
theorem dL_law_212 : decode code 212 = .ok (.aload_n 1, 1) := by decide +kernel
theorem dL_law_213 : decode code 213 = .ok (.aload_n 0, 1) := by decide +kernel
theorem dL_law_214 : decode code 214 = .ok (.iload_n 3, 1) := by decide +kernel
theorem dL_law_215 : decode code 215 = .ok (.iconst 1, 1) := by decide +kernel
theorem dL_law_216 : decode code 216 = .ok (.iadd, 1) := by decide +kernel
theorem dL_law_217 : decode code 217 = .ok (.iaload, 1) := by decide +kernel
theorem dL_law_218 : decode code 218 = .ok (.aload_n 0, 1) := by decide +kernel
theorem dL_law_219 : decode code 219 = .ok (.iload_n 3, 1) := by decide +kernel
theorem dL_law_220 : decode code 220 = .ok (.iconst 2, 1) := by decide +kernel
theorem dL_law_221 : decode code 221 = .ok (.iadd, 1) := by decide +kernel
theorem dL_law_222 : decode code 222 = .ok (.iaload, 1) := by decide +kernel
theorem dL_law_223 : decode code 223 = .ok (.invokevirtual 23, 3) := by decide +kernel
theorem dL_law_226 : decode code 226 = .ok (.aload_n 2, 1) := by decide +kernel
theorem dL_law_227 : decode code 227 = .ok (.aload_n 0, 1) := by decide +kernel
theorem dL_law_228 : decode code 228 = .ok (.iload_n 3, 1) := by decide +kernel
theorem dL_law_229 : decode code 229 = .ok (.iconst 1, 1) := by decide +kernel
theorem dL_law_230 : decode code 230 = .ok (.iadd, 1) := by decide +kernel
theorem dL_law_231 : decode code 231 = .ok (.iaload, 1) := by decide +kernel
theorem dL_law_232 : decode code 232 = .ok (.aload_n 0, 1) := by decide +kernel
theorem dL_law_233 : decode code 233 = .ok (.iload_n 3, 1) := by decide +kernel
theorem dL_law_234 : decode code 234 = .ok (.iconst 2, 1) := by decide +kernel
theorem dL_law_235 : decode code 235 = .ok (.iadd, 1) := by decide +kernel
theorem dL_law_236 : decode code 236 = .ok (.iaload, 1) := by decide +kernel
theorem dL_law_237 : decode code 237 = .ok (.invokevirtual 27, 3) := by decide +kernel
theorem dL_law_240 : decode code 240 = .ok (.if_icmp .eq 1197, 3) := by decide +kernel
theorem dL_law_243 : decode code 243 = .ok (.iconst 0, 1) := by decide +kernel
theorem dL_law_244 : decode code 244 = .ok (.ireturn, 1) := by decide +kernel
theorem dL_law_245 : decode code 245 = .ok (.aload_n 1, 1) := by decide +kernel
theorem dL_law_246 : decode code 246 = .ok (.aload_n 0, 1) := by decide +kernel
theorem dL_law_247 : decode code 247 = .ok (.iload_n 3, 1) := by decide +kernel
theorem dL_law_248 : decode code 248 = .ok (.iconst 1, 1) := by decide +kernel
theorem dL_law_249 : decode code 249 = .ok (.iadd, 1) := by decide +kernel
theorem dL_law_250 : decode code 250 = .ok (.iaload, 1) := by decide +kernel
theorem dL_law_251 : decode code 251 = .ok (.aload_n 0, 1) := by decide +kernel
theorem dL_law_252 : decode code 252 = .ok (.iload_n 3, 1) := by decide +kernel
theorem dL_law_253 : decode code 253 = .ok (.iconst 2, 1) := by decide +kernel
theorem dL_law_254 : decode code 254 = .ok (.iadd, 1) := by decide +kernel
theorem dL_law_255 : decode code 255 = .ok (.iaload, 1) := by decide +kernel
theorem dL_law_256 : decode code 256 = .ok (.invokevirtual 28, 3) := by decide +kernel
theorem dL_law_259 : decode code 259 = .ok (.aload_n 2, 1) := by decide +kernel
theorem dL_law_260 : decode code 260 = .ok (.aload_n 0, 1) := by decide +kernel
theorem dL_law_261 : decode code 261 = .ok (.iload_n 3, 1) := by decide +kernel
theorem dL_law_262 : decode code 262 = .ok (.iconst 1, 1) := by decide +kernel
theorem dL_law_263 : decode code 263 = .ok (.iadd, 1) := by decide +kernel
theorem dL_law_264 : decode code 264 = .ok (.iaload, 1) := by decide +kernel
theorem dL_law_265 : decode code 265 = .ok (.aload_n 0, 1) := by decide +kernel
theorem dL_law_266 : decode code 266 = .ok (.iload_n 3, 1) := by decide +kernel
theorem dL_law_267 : decode code 267 = .ok (.iconst 2, 1) := by decide +kernel
theorem dL_law_268 : decode code 268 = .ok (.iadd, 1) := by decide +kernel
theorem dL_law_269 : decode code 269 = .ok (.iaload, 1) := by decide +kernel
theorem dL_law_270 : decode code 270 = .ok (.invokevirtual 31, 3) := by decide +kernel
theorem dL_law_273 : decode code 273 = .ok (.if_icmp .eq 1164, 3) := by decide +kernel
theorem dL_law_276 : decode code 276 = .ok (.iconst 0, 1) := by decide +kernel
theorem dL_law_277 : decode code 277 = .ok (.ireturn, 1) := by decide +kernel
theorem dL_law_278 : decode code 278 = .ok (.aload_n 1, 1) := by decide +kernel
theorem dL_law_279 : decode code 279 = .ok (.aload_n 0, 1) := by decide +kernel
theorem dL_law_280 : decode code 280 = .ok (.iload_n 3, 1) := by decide +kernel
theorem dL_law_281 : decode code 281 = .ok (.iconst 1, 1) := by decide +kernel
theorem dL_law_282 : decode code 282 = .ok (.iadd, 1) := by decide +kernel
theorem dL_law_283 : decode code 283 = .ok (.iaload, 1) := by decide +kernel
theorem dL_law_284 : decode code 284 = .ok (.invokevirtual 32, 3) := by decide +kernel
theorem dL_law_287 : decode code 287 = .ok (.aload_n 2, 1) := by decide +kernel
theorem dL_law_288 : decode code 288 = .ok (.aload_n 0, 1) := by decide +kernel
theorem dL_law_289 : decode code 289 = .ok (.iload_n 3, 1) := by decide +kernel
theorem dL_law_290 : decode code 290 = .ok (.iconst 1, 1) := by decide +kernel
theorem dL_law_291 : decode code 291 = .ok (.iadd, 1) := by decide +kernel
theorem dL_law_292 : decode code 292 = .ok (.iaload, 1) := by decide +kernel
theorem dL_law_293 : decode code 293 = .ok (.invokevirtual 35, 3) := by decide +kernel
theorem dL_law_296 : decode code 296 = .ok (.if_icmp .eq 1141, 3) := by decide +kernel
theorem dL_law_299 : decode code 299 = .ok (.iconst 0, 1) := by decide +kernel
theorem dL_law_300 : decode code 300 = .ok (.ireturn, 1) := by decide +kernel
theorem dL_law_301 : decode code 301 = .ok (.aload_n 1, 1) := by decide +kernel
theorem dL_law_302 : decode code 302 = .ok (.aload_n 0, 1) := by decide +kernel
theorem dL_law_303 : decode code 303 = .ok (.iload_n 3, 1) := by decide +kernel
theorem dL_law_304 : decode code 304 = .ok (.iconst 1, 1) := by decide +kernel
theorem dL_law_305 : decode code 305 = .ok (.iadd, 1) := by decide +kernel
theorem dL_law_306 : decode code 306 = .ok (.iaload, 1) := by decide +kernel
theorem dL_law_307 : decode code 307 = .ok (.invokevirtual 36, 3) := by decide +kernel
theorem dL_law_310 : decode code 310 = .ok (.aload_n 2, 1) := by decide +kernel
theorem dL_law_311 : decode code 311 = .ok (.aload_n 0, 1) := by decide +kernel
theorem dL_law_312 : decode code 312 = .ok (.iload_n 3, 1) := by decide +kernel
theorem dL_law_313 : decode code 313 = .ok (.iconst 1, 1) := by decide +kernel
theorem dL_law_314 : decode code 314 = .ok (.iadd, 1) := by decide +kernel
theorem dL_law_315 : decode code 315 = .ok (.iaload, 1) := by decide +kernel
theorem dL_law_316 : decode code 316 = .ok (.invokevirtual 39, 3) := by decide +kernel
theorem dL_law_319 : decode code 319 = .ok (.if_icmp .eq 1118, 3) := by decide +kernel
theorem dL_law_322 : decode code 322 = .ok (.iconst 0, 1) := by decide +kernel
theorem dL_law_323 : decode code 323 = .ok (.ireturn, 1) := by decide +kernel
theorem dL_law_324 : decode code 324 = .ok (.aload_n 1, 1) := by decide +kernel
theorem dL_law_325 : decode code 325 = .ok (.aload_n 0, 1) := by decide +kernel
theorem dL_law_326 : decode code 326 = .ok (.iload_n 3, 1) := by decide +kernel
theorem dL_law_327 : decode code 327 = .ok (.iconst 1, 1) := by decide +kernel
theorem dL_law_328 : decode code 328 = .ok (.iadd, 1) := by decide +kernel
theorem dL_law_329 : decode code 329 = .ok (.iaload, 1) := by decide +kernel
theorem dL_law_330 : decode code 330 = .ok (.aload_n 0, 1) := by decide +kernel
theorem dL_law_331 : decode code 331 = .ok (.iload_n 3, 1) := by decide +kernel
theorem dL_law_332 : decode code 332 = .ok (.iconst 2, 1) := by decide +kernel
theorem dL_law_333 : decode code 333 = .ok (.iadd, 1) := by decide +kernel
theorem dL_law_334 : decode code 334 = .ok (.iaload, 1) := by decide +kernel
theorem dL_law_335 : decode code 335 = .ok (.invokevirtual 40, 3) := by decide +kernel
theorem dL_law_338 : decode code 338 = .ok (.aload_n 2, 1) := by decide +kernel
theorem dL_law_339 : decode code 339 = .ok (.aload_n 0, 1) := by decide +kernel
theorem dL_law_340 : decode code 340 = .ok (.iload_n 3, 1) := by decide +kernel
theorem dL_law_341 : decode code 341 = .ok (.iconst 1, 1) := by decide +kernel
theorem dL_law_342 : decode code 342 = .ok (.iadd, 1) := by decide +kernel
theorem dL_law_343 : decode code 343 = .ok (.iaload, 1) := by decide +kernel
theorem dL_law_344 : decode code 344 = .ok (.aload_n 0, 1) := by decide +kernel
theorem dL_law_345 : decode code 345 = .ok (.iload_n 3, 1) := by decide +kernel
theorem dL_law_346 : decode code 346 = .ok (.iconst 2, 1) := by decide +kernel
theorem dL_law_347 : decode code 347 = .ok (.iadd, 1) := by decide +kernel
theorem dL_law_348 : decode code 348 = .ok (.iaload, 1) := by decide +kernel
theorem dL_law_349 : decode code 349 = .ok (.invokevirtual 43, 3) := by decide +kernel
theorem dL_law_352 : decode code 352 = .ok (.if_icmp .eq 1085, 3) := by decide +kernel
theorem dL_law_355 : decode code 355 = .ok (.iconst 0, 1) := by decide +kernel
theorem dL_law_356 : decode code 356 = .ok (.ireturn, 1) := by decide +kernel
theorem dL_law_357 : decode code 357 = .ok (.aload_n 1, 1) := by decide +kernel
theorem dL_law_358 : decode code 358 = .ok (.aload_n 0, 1) := by decide +kernel
theorem dL_law_359 : decode code 359 = .ok (.iload_n 3, 1) := by decide +kernel
theorem dL_law_360 : decode code 360 = .ok (.iconst 1, 1) := by decide +kernel
theorem dL_law_361 : decode code 361 = .ok (.iadd, 1) := by decide +kernel
theorem dL_law_362 : decode code 362 = .ok (.iaload, 1) := by decide +kernel
theorem dL_law_363 : decode code 363 = .ok (.aload_n 0, 1) := by decide +kernel
theorem dL_law_364 : decode code 364 = .ok (.iload_n 3, 1) := by decide +kernel
theorem dL_law_365 : decode code 365 = .ok (.iconst 2, 1) := by decide +kernel
theorem dL_law_366 : decode code 366 = .ok (.iadd, 1) := by decide +kernel
theorem dL_law_367 : decode code 367 = .ok (.iaload, 1) := by decide +kernel
theorem dL_law_368 : decode code 368 = .ok (.aload_n 0, 1) := by decide +kernel
theorem dL_law_369 : decode code 369 = .ok (.iload_n 3, 1) := by decide +kernel
theorem dL_law_370 : decode code 370 = .ok (.iconst 3, 1) := by decide +kernel
theorem dL_law_371 : decode code 371 = .ok (.iadd, 1) := by decide +kernel
theorem dL_law_372 : decode code 372 = .ok (.iaload, 1) := by decide +kernel
theorem dL_law_373 : decode code 373 = .ok (.invokevirtual 44, 3) := by decide +kernel
theorem dL_law_376 : decode code 376 = .ok (.aload_n 2, 1) := by decide +kernel
theorem dL_law_377 : decode code 377 = .ok (.aload_n 0, 1) := by decide +kernel
theorem dL_law_378 : decode code 378 = .ok (.iload_n 3, 1) := by decide +kernel
theorem dL_law_379 : decode code 379 = .ok (.iconst 1, 1) := by decide +kernel
theorem dL_law_380 : decode code 380 = .ok (.iadd, 1) := by decide +kernel
theorem dL_law_381 : decode code 381 = .ok (.iaload, 1) := by decide +kernel
theorem dL_law_382 : decode code 382 = .ok (.aload_n 0, 1) := by decide +kernel
theorem dL_law_383 : decode code 383 = .ok (.iload_n 3, 1) := by decide +kernel
theorem dL_law_384 : decode code 384 = .ok (.iconst 2, 1) := by decide +kernel
theorem dL_law_385 : decode code 385 = .ok (.iadd, 1) := by decide +kernel
theorem dL_law_386 : decode code 386 = .ok (.iaload, 1) := by decide +kernel
theorem dL_law_387 : decode code 387 = .ok (.aload_n 0, 1) := by decide +kernel
theorem dL_law_388 : decode code 388 = .ok (.iload_n 3, 1) := by decide +kernel
theorem dL_law_389 : decode code 389 = .ok (.iconst 3, 1) := by decide +kernel
theorem dL_law_390 : decode code 390 = .ok (.iadd, 1) := by decide +kernel
theorem dL_law_391 : decode code 391 = .ok (.iaload, 1) := by decide +kernel
theorem dL_law_392 : decode code 392 = .ok (.invokevirtual 48, 3) := by decide +kernel
theorem dL_law_395 : decode code 395 = .ok (.if_icmp .eq 1042, 3) := by decide +kernel
theorem dL_law_398 : decode code 398 = .ok (.iconst 0, 1) := by decide +kernel
theorem dL_law_399 : decode code 399 = .ok (.ireturn, 1) := by decide +kernel
theorem dL_law_400 : decode code 400 = .ok (.aload_n 1, 1) := by decide +kernel
theorem dL_law_401 : decode code 401 = .ok (.aload_n 0, 1) := by decide +kernel
theorem dL_law_402 : decode code 402 = .ok (.iload_n 3, 1) := by decide +kernel
theorem dL_law_403 : decode code 403 = .ok (.iconst 1, 1) := by decide +kernel
theorem dL_law_404 : decode code 404 = .ok (.iadd, 1) := by decide +kernel
theorem dL_law_405 : decode code 405 = .ok (.iaload, 1) := by decide +kernel
theorem dL_law_406 : decode code 406 = .ok (.aload_n 0, 1) := by decide +kernel
theorem dL_law_407 : decode code 407 = .ok (.iload_n 3, 1) := by decide +kernel
theorem dL_law_408 : decode code 408 = .ok (.iconst 2, 1) := by decide +kernel
theorem dL_law_409 : decode code 409 = .ok (.iadd, 1) := by decide +kernel
theorem dL_law_410 : decode code 410 = .ok (.iaload, 1) := by decide +kernel
theorem dL_law_411 : decode code 411 = .ok (.aload_n 0, 1) := by decide +kernel
theorem dL_law_412 : decode code 412 = .ok (.iload_n 3, 1) := by decide +kernel
theorem dL_law_413 : decode code 413 = .ok (.iconst 3, 1) := by decide +kernel
theorem dL_law_414 : decode code 414 = .ok (.iadd, 1) := by decide +kernel
theorem dL_law_415 : decode code 415 = .ok (.iaload, 1) := by decide +kernel
theorem dL_law_416 : decode code 416 = .ok (.aload_n 0, 1) := by decide +kernel
theorem dL_law_417 : decode code 417 = .ok (.iload_n 3, 1) := by decide +kernel
theorem dL_law_418 : decode code 418 = .ok (.iconst 4, 1) := by decide +kernel
theorem dL_law_419 : decode code 419 = .ok (.iadd, 1) := by decide +kernel
theorem dL_law_420 : decode code 420 = .ok (.iaload, 1) := by decide +kernel
theorem dL_law_421 : decode code 421 = .ok (.aload_n 0, 1) := by decide +kernel
theorem dL_law_422 : decode code 422 = .ok (.iload_n 3, 1) := by decide +kernel
theorem dL_law_423 : decode code 423 = .ok (.iconst 5, 1) := by decide +kernel
theorem dL_law_424 : decode code 424 = .ok (.iadd, 1) := by decide +kernel
theorem dL_law_425 : decode code 425 = .ok (.iaload, 1) := by decide +kernel
theorem dL_law_426 : decode code 426 = .ok (.invokevirtual 49, 3) := by decide +kernel
theorem dL_law_429 : decode code 429 = .ok (.aload_n 2, 1) := by decide +kernel
theorem dL_law_430 : decode code 430 = .ok (.aload_n 0, 1) := by decide +kernel
theorem dL_law_431 : decode code 431 = .ok (.iload_n 3, 1) := by decide +kernel
theorem dL_law_432 : decode code 432 = .ok (.iconst 1, 1) := by decide +kernel
theorem dL_law_433 : decode code 433 = .ok (.iadd, 1) := by decide +kernel
theorem dL_law_434 : decode code 434 = .ok (.iaload, 1) := by decide +kernel
theorem dL_law_435 : decode code 435 = .ok (.aload_n 0, 1) := by decide +kernel
theorem dL_law_436 : decode code 436 = .ok (.iload_n 3, 1) := by decide +kernel
theorem dL_law_437 : decode code 437 = .ok (.iconst 2, 1) := by decide +kernel
theorem dL_law_438 : decode code 438 = .ok (.iadd, 1) := by decide +kernel
theorem dL_law_439 : decode code 439 = .ok (.iaload, 1) := by decide +kernel
theorem dL_law_440 : decode code 440 = .ok (.aload_n 0, 1) := by decide +kernel
theorem dL_law_441 : decode code 441 = .ok (.iload_n 3, 1) := by decide +kernel
theorem dL_law_442 : decode code 442 = .ok (.iconst 3, 1) := by decide +kernel
theorem dL_law_443 : decode code 443 = .ok (.iadd, 1) := by decide +kernel
theorem dL_law_444 : decode code 444 = .ok (.iaload, 1) := by decide +kernel
theorem dL_law_445 : decode code 445 = .ok (.aload_n 0, 1) := by decide +kernel
theorem dL_law_446 : decode code 446 = .ok (.iload_n 3, 1) := by decide +kernel
theorem dL_law_447 : decode code 447 = .ok (.iconst 4, 1) := by decide +kernel
theorem dL_law_448 : decode code 448 = .ok (.iadd, 1) := by decide +kernel
theorem dL_law_449 : decode code 449 = .ok (.iaload, 1) := by decide +kernel
theorem dL_law_450 : decode code 450 = .ok (.aload_n 0, 1) := by decide +kernel
theorem dL_law_451 : decode code 451 = .ok (.iload_n 3, 1) := by decide +kernel
theorem dL_law_452 : decode code 452 = .ok (.iconst 5, 1) := by decide +kernel
theorem dL_law_453 : decode code 453 = .ok (.iadd, 1) := by decide +kernel
theorem dL_law_454 : decode code 454 = .ok (.iaload, 1) := by decide +kernel
theorem dL_law_455 : decode code 455 = .ok (.invokevirtual 53, 3) := by decide +kernel
theorem dL_law_458 : decode code 458 = .ok (.if_icmp .eq 979, 3) := by decide +kernel
theorem dL_law_461 : decode code 461 = .ok (.iconst 0, 1) := by decide +kernel
theorem dL_law_462 : decode code 462 = .ok (.ireturn, 1) := by decide +kernel
theorem dL_law_463 : decode code 463 = .ok (.aload_n 1, 1) := by decide +kernel
theorem dL_law_464 : decode code 464 = .ok (.aload_n 0, 1) := by decide +kernel
theorem dL_law_465 : decode code 465 = .ok (.iload_n 3, 1) := by decide +kernel
theorem dL_law_466 : decode code 466 = .ok (.iconst 1, 1) := by decide +kernel
theorem dL_law_467 : decode code 467 = .ok (.iadd, 1) := by decide +kernel
theorem dL_law_468 : decode code 468 = .ok (.iaload, 1) := by decide +kernel
theorem dL_law_469 : decode code 469 = .ok (.invokevirtual 54, 3) := by decide +kernel
theorem dL_law_472 : decode code 472 = .ok (.aload_n 2, 1) := by decide +kernel
theorem dL_law_473 : decode code 473 = .ok (.aload_n 0, 1) := by decide +kernel
theorem dL_law_474 : decode code 474 = .ok (.iload_n 3, 1) := by decide +kernel
theorem dL_law_475 : decode code 475 = .ok (.iconst 1, 1) := by decide +kernel
theorem dL_law_476 : decode code 476 = .ok (.iadd, 1) := by decide +kernel
theorem dL_law_477 : decode code 477 = .ok (.iaload, 1) := by decide +kernel
theorem dL_law_478 : decode code 478 = .ok (.invokevirtual 57, 3) := by decide +kernel
theorem dL_law_481 : decode code 481 = .ok (.if_icmp .eq 956, 3) := by decide +kernel
theorem dL_law_484 : decode code 484 = .ok (.iconst 0, 1) := by decide +kernel
theorem dL_law_485 : decode code 485 = .ok (.ireturn, 1) := by decide +kernel
theorem dL_law_486 : decode code 486 = .ok (.aload_n 1, 1) := by decide +kernel
theorem dL_law_487 : decode code 487 = .ok (.aload_n 0, 1) := by decide +kernel
theorem dL_law_488 : decode code 488 = .ok (.iload_n 3, 1) := by decide +kernel
theorem dL_law_489 : decode code 489 = .ok (.iconst 1, 1) := by decide +kernel
theorem dL_law_490 : decode code 490 = .ok (.iadd, 1) := by decide +kernel
theorem dL_law_491 : decode code 491 = .ok (.iaload, 1) := by decide +kernel
theorem dL_law_492 : decode code 492 = .ok (.invokevirtual 58, 3) := by decide +kernel
theorem dL_law_495 : decode code 495 = .ok (.aload_n 2, 1) := by decide +kernel
theorem dL_law_496 : decode code 496 = .ok (.aload_n 0, 1) := by decide +kernel
theorem dL_law_497 : decode code 497 = .ok (.iload_n 3, 1) := by decide +kernel
theorem dL_law_498 : decode code 498 = .ok (.iconst 1, 1) := by decide +kernel
theorem dL_law_499 : decode code 499 = .ok (.iadd, 1) := by decide +kernel
theorem dL_law_500 : decode code 500 = .ok (.iaload, 1) := by decide +kernel
theorem dL_law_501 : decode code 501 = .ok (.invokevirtual 61, 3) := by decide +kernel
theorem dL_law_504 : decode code 504 = .ok (.if_icmp .eq 933, 3) := by decide +kernel
theorem dL_law_507 : decode code 507 = .ok (.iconst 0, 1) := by decide +kernel
theorem dL_law_508 : decode code 508 = .ok (.ireturn, 1) := by decide +kernel
theorem dL_law_509 : decode code 509 = .ok (.aload_n 1, 1) := by decide +kernel
theorem dL_law_510 : decode code 510 = .ok (.aload_n 0, 1) := by decide +kernel
theorem dL_law_511 : decode code 511 = .ok (.iload_n 3, 1) := by decide +kernel
theorem dL_law_512 : decode code 512 = .ok (.iconst 1, 1) := by decide +kernel
theorem dL_law_513 : decode code 513 = .ok (.iadd, 1) := by decide +kernel
theorem dL_law_514 : decode code 514 = .ok (.iaload, 1) := by decide +kernel
theorem dL_law_515 : decode code 515 = .ok (.invokevirtual 62, 3) := by decide +kernel
theorem dL_law_518 : decode code 518 = .ok (.aload_n 2, 1) := by decide +kernel
theorem dL_law_519 : decode code 519 = .ok (.aload_n 0, 1) := by decide +kernel
theorem dL_law_520 : decode code 520 = .ok (.iload_n 3, 1) := by decide +kernel
theorem dL_law_521 : decode code 521 = .ok (.iconst 1, 1) := by decide +kernel
theorem dL_law_522 : decode code 522 = .ok (.iadd, 1) := by decide +kernel
theorem dL_law_523 : decode code 523 = .ok (.iaload, 1) := by decide +kernel
theorem dL_law_524 : decode code 524 = .ok (.invokevirtual 65, 3) := by decide +kernel
theorem dL_law_527 : decode code 527 = .ok (.if_icmp .eq 910, 3) := by decide +kernel
theorem dL_law_530 : decode code 530 = .ok (.iconst 0, 1) := by decide +kernel
theorem dL_law_531 : decode code 531 = .ok (.ireturn, 1) := by decide +kernel
theorem dL_law_532 : decode code 532 = .ok (.aload_n 1, 1) := by decide +kernel
theorem dL_law_533 : decode code 533 = .ok (.invokevirtual 66, 3) := by decide +kernel
theorem dL_law_536 : decode code 536 = .ok (.aload_n 2, 1) := by decide +kernel
theorem dL_law_537 : decode code 537 = .ok (.invokevirtual 69, 3) := by decide +kernel
theorem dL_law_540 : decode code 540 = .ok (.if_icmp .eq 897, 3) := by decide +kernel
theorem dL_law_543 : decode code 543 = .ok (.iconst 0, 1) := by decide +kernel
theorem dL_law_544 : decode code 544 = .ok (.ireturn, 1) := by decide +kernel
theorem dL_law_545 : decode code 545 = .ok (.aload_n 1, 1) := by decide +kernel
theorem dL_law_546 : decode code 546 = .ok (.aload_n 0, 1) := by decide +kernel
theorem dL_law_547 : decode code 547 = .ok (.iload_n 3, 1) := by decide +kernel
theorem dL_law_548 : decode code 548 = .ok (.iconst 1, 1) := by decide +kernel
theorem dL_law_549 : decode code 549 = .ok (.iadd, 1) := by decide +kernel
theorem dL_law_550 : decode code 550 = .ok (.iaload, 1) := by decide +kernel
theorem dL_law_551 : decode code 551 = .ok (.invokevirtual 70, 3) := by decide +kernel
theorem dL_law_554 : decode code 554 = .ok (.aload_n 2, 1) := by decide +kernel
theorem dL_law_555 : decode code 555 = .ok (.aload_n 0, 1) := by decide +kernel
theorem dL_law_556 : decode code 556 = .ok (.iload_n 3, 1) := by decide +kernel
theorem dL_law_557 : decode code 557 = .ok (.iconst 1, 1) := by decide +kernel
theorem dL_law_558 : decode code 558 = .ok (.iadd, 1) := by decide +kernel
theorem dL_law_559 : decode code 559 = .ok (.iaload, 1) := by decide +kernel
theorem dL_law_560 : decode code 560 = .ok (.invokevirtual 73, 3) := by decide +kernel
theorem dL_law_563 : decode code 563 = .ok (.if_icmp .eq 874, 3) := by decide +kernel
theorem dL_law_566 : decode code 566 = .ok (.iconst 0, 1) := by decide +kernel
theorem dL_law_567 : decode code 567 = .ok (.ireturn, 1) := by decide +kernel
theorem dL_law_568 : decode code 568 = .ok (.aload_n 1, 1) := by decide +kernel
theorem dL_law_569 : decode code 569 = .ok (.aload_n 0, 1) := by decide +kernel
theorem dL_law_570 : decode code 570 = .ok (.iload_n 3, 1) := by decide +kernel
theorem dL_law_571 : decode code 571 = .ok (.iconst 1, 1) := by decide +kernel
theorem dL_law_572 : decode code 572 = .ok (.iadd, 1) := by decide +kernel
theorem dL_law_573 : decode code 573 = .ok (.iaload, 1) := by decide +kernel
theorem dL_law_574 : decode code 574 = .ok (.invokevirtual 74, 3) := by decide +kernel
theorem dL_law_577 : decode code 577 = .ok (.aload_n 2, 1) := by decide +kernel
theorem dL_law_578 : decode code 578 = .ok (.aload_n 0, 1) := by decide +kernel
theorem dL_law_579 : decode code 579 = .ok (.iload_n 3, 1) := by decide +kernel
theorem dL_law_580 : decode code 580 = .ok (.iconst 1, 1) := by decide +kernel
theorem dL_law_581 : decode code 581 = .ok (.iadd, 1) := by decide +kernel
theorem dL_law_582 : decode code 582 = .ok (.iaload, 1) := by decide +kernel
theorem dL_law_583 : decode code 583 = .ok (.invokevirtual 77, 3) := by decide +kernel
theorem dL_law_586 : decode code 586 = .ok (.if_icmp .eq 851, 3) := by decide +kernel
theorem dL_law_589 : decode code 589 = .ok (.iconst 0, 1) := by decide +kernel
theorem dL_law_590 : decode code 590 = .ok (.ireturn, 1) := by decide +kernel
theorem dL_law_591 : decode code 591 = .ok (.aload_n 1, 1) := by decide +kernel
theorem dL_law_592 : decode code 592 = .ok (.aload_n 0, 1) := by decide +kernel
theorem dL_law_593 : decode code 593 = .ok (.iload_n 3, 1) := by decide +kernel
theorem dL_law_594 : decode code 594 = .ok (.iconst 1, 1) := by decide +kernel
theorem dL_law_595 : decode code 595 = .ok (.iadd, 1) := by decide +kernel
theorem dL_law_596 : decode code 596 = .ok (.iaload, 1) := by decide +kernel
theorem dL_law_597 : decode code 597 = .ok (.invokevirtual 78, 3) := by decide +kernel
theorem dL_law_600 : decode code 600 = .ok (.aload_n 2, 1) := by decide +kernel
theorem dL_law_601 : decode code 601 = .ok (.aload_n 0, 1) := by decide +kernel
theorem dL_law_602 : decode code 602 = .ok (.iload_n 3, 1) := by decide +kernel
theorem dL_law_603 : decode code 603 = .ok (.iconst 1, 1) := by decide +kernel
theorem dL_law_604 : decode code 604 = .ok (.iadd, 1) := by decide +kernel
theorem dL_law_605 : decode code 605 = .ok (.iaload, 1) := by decide +kernel
theorem dL_law_606 : decode code 606 = .ok (.invokevirtual 81, 3) := by decide +kernel
theorem dL_law_609 : decode code 609 = .ok (.if_icmp .eq 828, 3) := by decide +kernel
theorem dL_law_612 : decode code 612 = .ok (.iconst 0, 1) := by decide +kernel
theorem dL_law_613 : decode code 613 = .ok (.ireturn, 1) := by decide +kernel
theorem dL_law_614 : decode code 614 = .ok (.aload_n 1, 1) := by decide +kernel
theorem dL_law_615 : decode code 615 = .ok (.aload_n 0, 1) := by decide +kernel
theorem dL_law_616 : decode code 616 = .ok (.iload_n 3, 1) := by decide +kernel
theorem dL_law_617 : decode code 617 = .ok (.iconst 1, 1) := by decide +kernel
theorem dL_law_618 : decode code 618 = .ok (.iadd, 1) := by decide +kernel
theorem dL_law_619 : decode code 619 = .ok (.iaload, 1) := by decide +kernel
theorem dL_law_620 : decode code 620 = .ok (.invokevirtual 82, 3) := by decide +kernel
theorem dL_law_623 : decode code 623 = .ok (.aload_n 2, 1) := by decide +kernel
theorem dL_law_624 : decode code 624 = .ok (.aload_n 0, 1) := by decide +kernel
theorem dL_law_625 : decode code 625 = .ok (.iload_n 3, 1) := by decide +kernel
theorem dL_law_626 : decode code 626 = .ok (.iconst 1, 1) := by decide +kernel
theorem dL_law_627 : decode code 627 = .ok (.iadd, 1) := by decide +kernel
theorem dL_law_628 : decode code 628 = .ok (.iaload, 1) := by decide +kernel
theorem dL_law_629 : decode code 629 = .ok (.invokevirtual 85, 3) := by decide +kernel
theorem dL_law_632 : decode code 632 = .ok (.if_icmp .eq 805, 3) := by decide +kernel
theorem dL_law_635 : decode code 635 = .ok (.iconst 0, 1) := by decide +kernel
theorem dL_law_636 : decode code 636 = .ok (.ireturn, 1) := by decide +kernel
theorem dL_law_637 : decode code 637 = .ok (.aload_n 1, 1) := by decide +kernel
theorem dL_law_638 : decode code 638 = .ok (.aload_n 0, 1) := by decide +kernel
theorem dL_law_639 : decode code 639 = .ok (.iload_n 3, 1) := by decide +kernel
theorem dL_law_640 : decode code 640 = .ok (.iconst 1, 1) := by decide +kernel
theorem dL_law_641 : decode code 641 = .ok (.iadd, 1) := by decide +kernel
theorem dL_law_642 : decode code 642 = .ok (.iaload, 1) := by decide +kernel
theorem dL_law_643 : decode code 643 = .ok (.aload_n 0, 1) := by decide +kernel
theorem dL_law_644 : decode code 644 = .ok (.iload_n 3, 1) := by decide +kernel
theorem dL_law_645 : decode code 645 = .ok (.iconst 2, 1) := by decide +kernel
theorem dL_law_646 : decode code 646 = .ok (.iadd, 1) := by decide +kernel
theorem dL_law_647 : decode code 647 = .ok (.iaload, 1) := by decide +kernel
theorem dL_law_648 : decode code 648 = .ok (.aload_n 0, 1) := by decide +kernel
theorem dL_law_649 : decode code 649 = .ok (.iload_n 3, 1) := by decide +kernel
theorem dL_law_650 : decode code 650 = .ok (.iconst 3, 1) := by decide +kernel
theorem dL_law_651 : decode code 651 = .ok (.iadd, 1) := by decide +kernel
theorem dL_law_652 : decode code 652 = .ok (.iaload, 1) := by decide +kernel
theorem dL_law_653 : decode code 653 = .ok (.aload_n 0, 1) := by decide +kernel
theorem dL_law_654 : decode code 654 = .ok (.iload_n 3, 1) := by decide +kernel
theorem dL_law_655 : decode code 655 = .ok (.iconst 4, 1) := by decide +kernel
theorem dL_law_656 : decode code 656 = .ok (.iadd, 1) := by decide +kernel
theorem dL_law_657 : decode code 657 = .ok (.iaload, 1) := by decide +kernel
theorem dL_law_658 : decode code 658 = .ok (.invokevirtual 86, 3) := by decide +kernel
theorem dL_law_661 : decode code 661 = .ok (.aload_n 2, 1) := by decide +kernel
theorem dL_law_662 : decode code 662 = .ok (.aload_n 0, 1) := by decide +kernel
theorem dL_law_663 : decode code 663 = .ok (.iload_n 3, 1) := by decide +kernel
theorem dL_law_664 : decode code 664 = .ok (.iconst 1, 1) := by decide +kernel
theorem dL_law_665 : decode code 665 = .ok (.iadd, 1) := by decide +kernel
theorem dL_law_666 : decode code 666 = .ok (.iaload, 1) := by decide +kernel
theorem dL_law_667 : decode code 667 = .ok (.aload_n 0, 1) := by decide +kernel
theorem dL_law_668 : decode code 668 = .ok (.iload_n 3, 1) := by decide +kernel
theorem dL_law_669 : decode code 669 = .ok (.iconst 2, 1) := by decide +kernel
theorem dL_law_670 : decode code 670 = .ok (.iadd, 1) := by decide +kernel
theorem dL_law_671 : decode code 671 = .ok (.iaload, 1) := by decide +kernel
theorem dL_law_672 : decode code 672 = .ok (.aload_n 0, 1) := by decide +kernel
theorem dL_law_673 : decode code 673 = .ok (.iload_n 3, 1) := by decide +kernel
theorem dL_law_674 : decode code 674 = .ok (.iconst 3, 1) := by decide +kernel
theorem dL_law_675 : decode code 675 = .ok (.iadd, 1) := by decide +kernel
theorem dL_law_676 : decode code 676 = .ok (.iaload, 1) := by decide +kernel
theorem dL_law_677 : decode code 677 = .ok (.aload_n 0, 1) := by decide +kernel
theorem dL_law_678 : decode code 678 = .ok (.iload_n 3, 1) := by decide +kernel
theorem dL_law_679 : decode code 679 = .ok (.iconst 4, 1) := by decide +kernel
theorem dL_law_680 : decode code 680 = .ok (.iadd, 1) := by decide +kernel
theorem dL_law_681 : decode code 681 = .ok (.iaload, 1) := by decide +kernel
theorem dL_law_682 : decode code 682 = .ok (.invokevirtual 90, 3) := by decide +kernel
theorem dL_law_685 : decode code 685 = .ok (.if_icmp .eq 752, 3) := by decide +kernel
theorem dL_law_688 : decode code 688 = .ok (.iconst 0, 1) := by decide +kernel
theorem dL_law_689 : decode code 689 = .ok (.ireturn, 1) := by decide +kernel
theorem dL_law_690 : decode code 690 = .ok (.aload_n 1, 1) := by decide +kernel
theorem dL_law_691 : decode code 691 = .ok (.aload_n 0, 1) := by decide +kernel
theorem dL_law_692 : decode code 692 = .ok (.iload_n 3, 1) := by decide +kernel
theorem dL_law_693 : decode code 693 = .ok (.iconst 1, 1) := by decide +kernel
theorem dL_law_694 : decode code 694 = .ok (.iadd, 1) := by decide +kernel
theorem dL_law_695 : decode code 695 = .ok (.iaload, 1) := by decide +kernel
theorem dL_law_696 : decode code 696 = .ok (.invokevirtual 91, 3) := by decide +kernel
theorem dL_law_699 : decode code 699 = .ok (.aload_n 2, 1) := by decide +kernel
theorem dL_law_700 : decode code 700 = .ok (.aload_n 0, 1) := by decide +kernel
theorem dL_law_701 : decode code 701 = .ok (.iload_n 3, 1) := by decide +kernel
theorem dL_law_702 : decode code 702 = .ok (.iconst 1, 1) := by decide +kernel
theorem dL_law_703 : decode code 703 = .ok (.iadd, 1) := by decide +kernel
theorem dL_law_704 : decode code 704 = .ok (.iaload, 1) := by decide +kernel
theorem dL_law_705 : decode code 705 = .ok (.invokevirtual 94, 3) := by decide +kernel
theorem dL_law_708 : decode code 708 = .ok (.if_icmp .eq 729, 3) := by decide +kernel
theorem dL_law_711 : decode code 711 = .ok (.iconst 0, 1) := by decide +kernel
theorem dL_law_712 : decode code 712 = .ok (.ireturn, 1) := by decide +kernel
theorem dL_law_713 : decode code 713 = .ok (.aload_n 1, 1) := by decide +kernel
theorem dL_law_714 : decode code 714 = .ok (.aload_n 0, 1) := by decide +kernel
theorem dL_law_715 : decode code 715 = .ok (.iload_n 3, 1) := by decide +kernel
theorem dL_law_716 : decode code 716 = .ok (.iconst 1, 1) := by decide +kernel
theorem dL_law_717 : decode code 717 = .ok (.iadd, 1) := by decide +kernel
theorem dL_law_718 : decode code 718 = .ok (.iaload, 1) := by decide +kernel
theorem dL_law_719 : decode code 719 = .ok (.aload_n 0, 1) := by decide +kernel
theorem dL_law_720 : decode code 720 = .ok (.iload_n 3, 1) := by decide +kernel
theorem dL_law_721 : decode code 721 = .ok (.iconst 2, 1) := by decide +kernel
theorem dL_law_722 : decode code 722 = .ok (.iadd, 1) := by decide +kernel
theorem dL_law_723 : decode code 723 = .ok (.iaload, 1) := by decide +kernel
theorem dL_law_724 : decode code 724 = .ok (.invokevirtual 95, 3) := by decide +kernel
theorem dL_law_727 : decode code 727 = .ok (.aload_n 2, 1) := by decide +kernel
theorem dL_law_728 : decode code 728 = .ok (.aload_n 0, 1) := by decide +kernel
theorem dL_law_729 : decode code 729 = .ok (.iload_n 3, 1) := by decide +kernel
theorem dL_law_730 : decode code 730 = .ok (.iconst 1, 1) := by decide +kernel
theorem dL_law_731 : decode code 731 = .ok (.iadd, 1) := by decide +kernel
theorem dL_law_732 : decode code 732 = .ok (.iaload, 1) := by decide +kernel
theorem dL_law_733 : decode code 733 = .ok (.aload_n 0, 1) := by decide +kernel
theorem dL_law_734 : decode code 734 = .ok (.iload_n 3, 1) := by decide +kernel
theorem dL_law_735 : decode code 735 = .ok (.iconst 2, 1) := by decide +kernel
theorem dL_law_736 : decode code 736 = .ok (.iadd, 1) := by decide +kernel
theorem dL_law_737 : decode code 737 = .ok (.iaload, 1) := by decide +kernel
theorem dL_law_738 : decode code 738 = .ok (.invokevirtual 98, 3) := by decide +kernel
theorem dL_law_741 : decode code 741 = .ok (.if_icmp .eq 696, 3) := by decide +kernel
theorem dL_law_744 : decode code 744 = .ok (.iconst 0, 1) := by decide +kernel
theorem dL_law_745 : decode code 745 = .ok (.ireturn, 1) := by decide +kernel
theorem dL_law_746 : decode code 746 = .ok (.aload_n 1, 1) := by decide +kernel
theorem dL_law_747 : decode code 747 = .ok (.aload_n 0, 1) := by decide +kernel
theorem dL_law_748 : decode code 748 = .ok (.iload_n 3, 1) := by decide +kernel
theorem dL_law_749 : decode code 749 = .ok (.iconst 1, 1) := by decide +kernel
theorem dL_law_750 : decode code 750 = .ok (.iadd, 1) := by decide +kernel
theorem dL_law_751 : decode code 751 = .ok (.iaload, 1) := by decide +kernel
theorem dL_law_752 : decode code 752 = .ok (.invokevirtual 99, 3) := by decide +kernel
theorem dL_law_755 : decode code 755 = .ok (.aload_n 2, 1) := by decide +kernel
theorem dL_law_756 : decode code 756 = .ok (.aload_n 0, 1) := by decide +kernel
theorem dL_law_757 : decode code 757 = .ok (.iload_n 3, 1) := by decide +kernel
theorem dL_law_758 : decode code 758 = .ok (.iconst 1, 1) := by decide +kernel
theorem dL_law_759 : decode code 759 = .ok (.iadd, 1) := by decide +kernel
theorem dL_law_760 : decode code 760 = .ok (.iaload, 1) := by decide +kernel
theorem dL_law_761 : decode code 761 = .ok (.invokevirtual 102, 3) := by decide +kernel
theorem dL_law_764 : decode code 764 = .ok (.if_icmp .eq 673, 3) := by decide +kernel
theorem dL_law_767 : decode code 767 = .ok (.iconst 0, 1) := by decide +kernel
theorem dL_law_768 : decode code 768 = .ok (.ireturn, 1) := by decide +kernel
theorem dL_law_769 : decode code 769 = .ok (.aload_n 1, 1) := by decide +kernel
theorem dL_law_770 : decode code 770 = .ok (.aload_n 0, 1) := by decide +kernel
theorem dL_law_771 : decode code 771 = .ok (.iload_n 3, 1) := by decide +kernel
theorem dL_law_772 : decode code 772 = .ok (.iconst 1, 1) := by decide +kernel
theorem dL_law_773 : decode code 773 = .ok (.iadd, 1) := by decide +kernel
theorem dL_law_774 : decode code 774 = .ok (.iaload, 1) := by decide +kernel
theorem dL_law_775 : decode code 775 = .ok (.aload_n 0, 1) := by decide +kernel
theorem dL_law_776 : decode code 776 = .ok (.iload_n 3, 1) := by decide +kernel
theorem dL_law_777 : decode code 777 = .ok (.iconst 2, 1) := by decide +kernel
theorem dL_law_778 : decode code 778 = .ok (.iadd, 1) := by decide +kernel
theorem dL_law_779 : decode code 779 = .ok (.iaload, 1) := by decide +kernel
theorem dL_law_780 : decode code 780 = .ok (.aload_n 0, 1) := by decide +kernel
theorem dL_law_781 : decode code 781 = .ok (.iload_n 3, 1) := by decide +kernel
theorem dL_law_782 : decode code 782 = .ok (.iconst 3, 1) := by decide +kernel
theorem dL_law_783 : decode code 783 = .ok (.iadd, 1) := by decide +kernel
theorem dL_law_784 : decode code 784 = .ok (.iaload, 1) := by decide +kernel
theorem dL_law_785 : decode code 785 = .ok (.aload_n 0, 1) := by decide +kernel
theorem dL_law_786 : decode code 786 = .ok (.iload_n 3, 1) := by decide +kernel
theorem dL_law_787 : decode code 787 = .ok (.iconst 4, 1) := by decide +kernel
theorem dL_law_788 : decode code 788 = .ok (.iadd, 1) := by decide +kernel
theorem dL_law_789 : decode code 789 = .ok (.iaload, 1) := by decide +kernel
theorem dL_law_790 : decode code 790 = .ok (.invokevirtual 103, 3) := by decide +kernel
theorem dL_law_793 : decode code 793 = .ok (.aload_n 2, 1) := by decide +kernel
theorem dL_law_794 : decode code 794 = .ok (.aload_n 0, 1) := by decide +kernel
theorem dL_law_795 : decode code 795 = .ok (.iload_n 3, 1) := by decide +kernel
theorem dL_law_796 : decode code 796 = .ok (.iconst 1, 1) := by decide +kernel
theorem dL_law_797 : decode code 797 = .ok (.iadd, 1) := by decide +kernel
theorem dL_law_798 : decode code 798 = .ok (.iaload, 1) := by decide +kernel
theorem dL_law_799 : decode code 799 = .ok (.aload_n 0, 1) := by decide +kernel
theorem dL_law_800 : decode code 800 = .ok (.iload_n 3, 1) := by decide +kernel
theorem dL_law_801 : decode code 801 = .ok (.iconst 2, 1) := by decide +kernel
theorem dL_law_802 : decode code 802 = .ok (.iadd, 1) := by decide +kernel
theorem dL_law_803 : decode code 803 = .ok (.iaload, 1) := by decide +kernel
theorem dL_law_804 : decode code 804 = .ok (.aload_n 0, 1) := by decide +kernel
theorem dL_law_805 : decode code 805 = .ok (.iload_n 3, 1) := by decide +kernel
theorem dL_law_806 : decode code 806 = .ok (.iconst 3, 1) := by decide +kernel
theorem dL_law_807 : decode code 807 = .ok (.iadd, 1) := by decide +kernel
theorem dL_law_808 : decode code 808 = .ok (.iaload, 1) := by decide +kernel
theorem dL_law_809 : decode code 809 = .ok (.aload_n 0, 1) := by decide +kernel
theorem dL_law_810 : decode code 810 = .ok (.iload_n 3, 1) := by decide +kernel
theorem dL_law_811 : decode code 811 = .ok (.iconst 4, 1) := by decide +kernel
theorem dL_law_812 : decode code 812 = .ok (.iadd, 1) := by decide +kernel
theorem dL_law_813 : decode code 813 = .ok (.iaload, 1) := by decide +kernel
theorem dL_law_814 : decode code 814 = .ok (.invokevirtual 106, 3) := by decide +kernel
theorem dL_law_817 : decode code 817 = .ok (.if_icmp .eq 620, 3) := by decide +kernel
theorem dL_law_820 : decode code 820 = .ok (.iconst 0, 1) := by decide +kernel
theorem dL_law_821 : decode code 821 = .ok (.ireturn, 1) := by decide +kernel
theorem dL_law_822 : decode code 822 = .ok (.aload_n 1, 1) := by decide +kernel
theorem dL_law_823 : decode code 823 = .ok (.aload_n 0, 1) := by decide +kernel
theorem dL_law_824 : decode code 824 = .ok (.iload_n 3, 1) := by decide +kernel
theorem dL_law_825 : decode code 825 = .ok (.iconst 1, 1) := by decide +kernel
theorem dL_law_826 : decode code 826 = .ok (.iadd, 1) := by decide +kernel
theorem dL_law_827 : decode code 827 = .ok (.iaload, 1) := by decide +kernel
theorem dL_law_828 : decode code 828 = .ok (.aload_n 0, 1) := by decide +kernel
theorem dL_law_829 : decode code 829 = .ok (.iload_n 3, 1) := by decide +kernel
theorem dL_law_830 : decode code 830 = .ok (.iconst 2, 1) := by decide +kernel
theorem dL_law_831 : decode code 831 = .ok (.iadd, 1) := by decide +kernel
theorem dL_law_832 : decode code 832 = .ok (.iaload, 1) := by decide +kernel
theorem dL_law_833 : decode code 833 = .ok (.aload_n 0, 1) := by decide +kernel
theorem dL_law_834 : decode code 834 = .ok (.iload_n 3, 1) := by decide +kernel
theorem dL_law_835 : decode code 835 = .ok (.iconst 3, 1) := by decide +kernel
theorem dL_law_836 : decode code 836 = .ok (.iadd, 1) := by decide +kernel
theorem dL_law_837 : decode code 837 = .ok (.iaload, 1) := by decide +kernel
theorem dL_law_838 : decode code 838 = .ok (.invokevirtual 107, 3) := by decide +kernel
theorem dL_law_841 : decode code 841 = .ok (.aload_n 2, 1) := by decide +kernel
theorem dL_law_842 : decode code 842 = .ok (.aload_n 0, 1) := by decide +kernel
theorem dL_law_843 : decode code 843 = .ok (.iload_n 3, 1) := by decide +kernel
theorem dL_law_844 : decode code 844 = .ok (.iconst 1, 1) := by decide +kernel
theorem dL_law_845 : decode code 845 = .ok (.iadd, 1) := by decide +kernel
theorem dL_law_846 : decode code 846 = .ok (.iaload, 1) := by decide +kernel
theorem dL_law_847 : decode code 847 = .ok (.aload_n 0, 1) := by decide +kernel
theorem dL_law_848 : decode code 848 = .ok (.iload_n 3, 1) := by decide +kernel
theorem dL_law_849 : decode code 849 = .ok (.iconst 2, 1) := by decide +kernel
theorem dL_law_850 : decode code 850 = .ok (.iadd, 1) := by decide +kernel
theorem dL_law_851 : decode code 851 = .ok (.iaload, 1) := by decide +kernel
theorem dL_law_852 : decode code 852 = .ok (.aload_n 0, 1) := by decide +kernel
theorem dL_law_853 : decode code 853 = .ok (.iload_n 3, 1) := by decide +kernel
theorem dL_law_854 : decode code 854 = .ok (.iconst 3, 1) := by decide +kernel
theorem dL_law_855 : decode code 855 = .ok (.iadd, 1) := by decide +kernel
theorem dL_law_856 : decode code 856 = .ok (.iaload, 1) := by decide +kernel
theorem dL_law_857 : decode code 857 = .ok (.invokevirtual 110, 3) := by decide +kernel
theorem dL_law_860 : decode code 860 = .ok (.if_icmp .eq 577, 3) := by decide +kernel
theorem dL_law_863 : decode code 863 = .ok (.iconst 0, 1) := by decide +kernel
theorem dL_law_864 : decode code 864 = .ok (.ireturn, 1) := by decide +kernel
theorem dL_law_865 : decode code 865 = .ok (.aload_n 1, 1) := by decide +kernel
theorem dL_law_866 : decode code 866 = .ok (.aload_n 0, 1) := by decide +kernel
theorem dL_law_867 : decode code 867 = .ok (.iload_n 3, 1) := by decide +kernel
theorem dL_law_868 : decode code 868 = .ok (.iconst 1, 1) := by decide +kernel
theorem dL_law_869 : decode code 869 = .ok (.iadd, 1) := by decide +kernel
theorem dL_law_870 : decode code 870 = .ok (.iaload, 1) := by decide +kernel
theorem dL_law_871 : decode code 871 = .ok (.aload_n 0, 1) := by decide +kernel
theorem dL_law_872 : decode code 872 = .ok (.iload_n 3, 1) := by decide +kernel
theorem dL_law_873 : decode code 873 = .ok (.iconst 2, 1) := by decide +kernel
theorem dL_law_874 : decode code 874 = .ok (.iadd, 1) := by decide +kernel
theorem dL_law_875 : decode code 875 = .ok (.iaload, 1) := by decide +kernel
theorem dL_law_876 : decode code 876 = .ok (.aload_n 0, 1) := by decide +kernel
theorem dL_law_877 : decode code 877 = .ok (.iload_n 3, 1) := by decide +kernel
theorem dL_law_878 : decode code 878 = .ok (.iconst 3, 1) := by decide +kernel
theorem dL_law_879 : decode code 879 = .ok (.iadd, 1) := by decide +kernel
theorem dL_law_880 : decode code 880 = .ok (.iaload, 1) := by decide +kernel
theorem dL_law_881 : decode code 881 = .ok (.invokevirtual 111, 3) := by decide +kernel
theorem dL_law_884 : decode code 884 = .ok (.aload_n 2, 1) := by decide +kernel
theorem dL_law_885 : decode code 885 = .ok (.aload_n 0, 1) := by decide +kernel
theorem dL_law_886 : decode code 886 = .ok (.iload_n 3, 1) := by decide +kernel
theorem dL_law_887 : decode code 887 = .ok (.iconst 1, 1) := by decide +kernel
theorem dL_law_888 : decode code 888 = .ok (.iadd, 1) := by decide +kernel
theorem dL_law_889 : decode code 889 = .ok (.iaload, 1) := by decide +kernel
theorem dL_law_890 : decode code 890 = .ok (.aload_n 0, 1) := by decide +kernel
theorem dL_law_891 : decode code 891 = .ok (.iload_n 3, 1) := by decide +kernel
theorem dL_law_892 : decode code 892 = .ok (.iconst 2, 1) := by decide +kernel
theorem dL_law_893 : decode code 893 = .ok (.iadd, 1) := by decide +kernel
theorem dL_law_894 : decode code 894 = .ok (.iaload, 1) := by decide +kernel
theorem dL_law_895 : decode code 895 = .ok (.aload_n 0, 1) := by decide +kernel
theorem dL_law_896 : decode code 896 = .ok (.iload_n 3, 1) := by decide +kernel
theorem dL_law_897 : decode code 897 = .ok (.iconst 3, 1) := by decide +kernel
theorem dL_law_898 : decode code 898 = .ok (.iadd, 1) := by decide +kernel
theorem dL_law_899 : decode code 899 = .ok (.iaload, 1) := by decide +kernel
theorem dL_law_900 : decode code 900 = .ok (.invokevirtual 114, 3) := by decide +kernel
theorem dL_law_903 : decode code 903 = .ok (.if_icmp .eq 534, 3) := by decide +kernel
theorem dL_law_906 : decode code 906 = .ok (.iconst 0, 1) := by decide +kernel
theorem dL_law_907 : decode code 907 = .ok (.ireturn, 1) := by decide +kernel
theorem dL_law_908 : decode code 908 = .ok (.aload_n 1, 1) := by decide +kernel
theorem dL_law_909 : decode code 909 = .ok (.aload_n 0, 1) := by decide +kernel
theorem dL_law_910 : decode code 910 = .ok (.iload_n 3, 1) := by decide +kernel
theorem dL_law_911 : decode code 911 = .ok (.iconst 1, 1) := by decide +kernel
theorem dL_law_912 : decode code 912 = .ok (.iadd, 1) := by decide +kernel
theorem dL_law_913 : decode code 913 = .ok (.iaload, 1) := by decide +kernel
theorem dL_law_914 : decode code 914 = .ok (.invokevirtual 115, 3) := by decide +kernel
theorem dL_law_917 : decode code 917 = .ok (.aload_n 2, 1) := by decide +kernel
theorem dL_law_918 : decode code 918 = .ok (.aload_n 0, 1) := by decide +kernel
theorem dL_law_919 : decode code 919 = .ok (.iload_n 3, 1) := by decide +kernel
theorem dL_law_920 : decode code 920 = .ok (.iconst 1, 1) := by decide +kernel
theorem dL_law_921 : decode code 921 = .ok (.iadd, 1) := by decide +kernel
theorem dL_law_922 : decode code 922 = .ok (.iaload, 1) := by decide +kernel
theorem dL_law_923 : decode code 923 = .ok (.invokevirtual 118, 3) := by decide +kernel
theorem dL_law_926 : decode code 926 = .ok (.if_icmp .eq 511, 3) := by decide +kernel
theorem dL_law_929 : decode code 929 = .ok (.iconst 0, 1) := by decide +kernel
theorem dL_law_930 : decode code 930 = .ok (.ireturn, 1) := by decide +kernel
theorem dL_law_931 : decode code 931 = .ok (.aload_n 1, 1) := by decide +kernel
theorem dL_law_932 : decode code 932 = .ok (.aload_n 0, 1) := by decide +kernel
theorem dL_law_933 : decode code 933 = .ok (.iload_n 3, 1) := by decide +kernel
theorem dL_law_934 : decode code 934 = .ok (.iconst 1, 1) := by decide +kernel
theorem dL_law_935 : decode code 935 = .ok (.iadd, 1) := by decide +kernel
theorem dL_law_936 : decode code 936 = .ok (.iaload, 1) := by decide +kernel
theorem dL_law_937 : decode code 937 = .ok (.aload_n 0, 1) := by decide +kernel
theorem dL_law_938 : decode code 938 = .ok (.iload_n 3, 1) := by decide +kernel
theorem dL_law_939 : decode code 939 = .ok (.iconst 2, 1) := by decide +kernel
theorem dL_law_940 : decode code 940 = .ok (.iadd, 1) := by decide +kernel
theorem dL_law_941 : decode code 941 = .ok (.iaload, 1) := by decide +kernel
theorem dL_law_942 : decode code 942 = .ok (.aload_n 0, 1) := by decide +kernel
theorem dL_law_943 : decode code 943 = .ok (.iload_n 3, 1) := by decide +kernel
theorem dL_law_944 : decode code 944 = .ok (.iconst 3, 1) := by decide +kernel
theorem dL_law_945 : decode code 945 = .ok (.iadd, 1) := by decide +kernel
theorem dL_law_946 : decode code 946 = .ok (.iaload, 1) := by decide +kernel
theorem dL_law_947 : decode code 947 = .ok (.aload_n 0, 1) := by decide +kernel
theorem dL_law_948 : decode code 948 = .ok (.iload_n 3, 1) := by decide +kernel
theorem dL_law_949 : decode code 949 = .ok (.iconst 4, 1) := by decide +kernel
theorem dL_law_950 : decode code 950 = .ok (.iadd, 1) := by decide +kernel
theorem dL_law_951 : decode code 951 = .ok (.iaload, 1) := by decide +kernel
theorem dL_law_952 : decode code 952 = .ok (.i2l, 1) := by decide +kernel
theorem dL_law_953 : decode code 953 = .ok (.bipush 32, 2) := by decide +kernel
theorem dL_law_955 : decode code 955 = .ok (.lshl, 1) := by decide +kernel
theorem dL_law_956 : decode code 956 = .ok (.aload_n 0, 1) := by decide +kernel
theorem dL_law_957 : decode code 957 = .ok (.iload_n 3, 1) := by decide +kernel
theorem dL_law_958 : decode code 958 = .ok (.iconst 5, 1) := by decide +kernel
theorem dL_law_959 : decode code 959 = .ok (.iadd, 1) := by decide +kernel
theorem dL_law_960 : decode code 960 = .ok (.iaload, 1) := by decide +kernel
theorem dL_law_961 : decode code 961 = .ok (.i2l, 1) := by decide +kernel
theorem dL_law_962 : decode code 962 = .ok (.ldc2_w 119, 3) := by decide +kernel
theorem dL_law_965 : decode code 965 = .ok (.land, 1) := by decide +kernel
theorem dL_law_966 : decode code 966 = .ok (.lor, 1) := by decide +kernel
theorem dL_law_967 : decode code 967 = .ok (.invokevirtual 121, 3) := by decide +kernel
theorem dL_law_970 : decode code 970 = .ok (.aload_n 2, 1) := by decide +kernel
theorem dL_law_971 : decode code 971 = .ok (.aload_n 0, 1) := by decide +kernel
theorem dL_law_972 : decode code 972 = .ok (.iload_n 3, 1) := by decide +kernel
theorem dL_law_973 : decode code 973 = .ok (.iconst 1, 1) := by decide +kernel
theorem dL_law_974 : decode code 974 = .ok (.iadd, 1) := by decide +kernel
theorem dL_law_975 : decode code 975 = .ok (.iaload, 1) := by decide +kernel
theorem dL_law_976 : decode code 976 = .ok (.aload_n 0, 1) := by decide +kernel
theorem dL_law_977 : decode code 977 = .ok (.iload_n 3, 1) := by decide +kernel
theorem dL_law_978 : decode code 978 = .ok (.iconst 2, 1) := by decide +kernel
theorem dL_law_979 : decode code 979 = .ok (.iadd, 1) := by decide +kernel
theorem dL_law_980 : decode code 980 = .ok (.iaload, 1) := by decide +kernel
theorem dL_law_981 : decode code 981 = .ok (.aload_n 0, 1) := by decide +kernel
theorem dL_law_982 : decode code 982 = .ok (.iload_n 3, 1) := by decide +kernel
theorem dL_law_983 : decode code 983 = .ok (.iconst 3, 1) := by decide +kernel
theorem dL_law_984 : decode code 984 = .ok (.iadd, 1) := by decide +kernel
theorem dL_law_985 : decode code 985 = .ok (.iaload, 1) := by decide +kernel
theorem dL_law_986 : decode code 986 = .ok (.aload_n 0, 1) := by decide +kernel
theorem dL_law_987 : decode code 987 = .ok (.iload_n 3, 1) := by decide +kernel
theorem dL_law_988 : decode code 988 = .ok (.iconst 4, 1) := by decide +kernel
theorem dL_law_989 : decode code 989 = .ok (.iadd, 1) := by decide +kernel
theorem dL_law_990 : decode code 990 = .ok (.iaload, 1) := by decide +kernel
theorem dL_law_991 : decode code 991 = .ok (.i2l, 1) := by decide +kernel
theorem dL_law_992 : decode code 992 = .ok (.bipush 32, 2) := by decide +kernel
theorem dL_law_994 : decode code 994 = .ok (.lshl, 1) := by decide +kernel
theorem dL_law_995 : decode code 995 = .ok (.aload_n 0, 1) := by decide +kernel
theorem dL_law_996 : decode code 996 = .ok (.iload_n 3, 1) := by decide +kernel
theorem dL_law_997 : decode code 997 = .ok (.iconst 5, 1) := by decide +kernel
theorem dL_law_998 : decode code 998 = .ok (.iadd, 1) := by decide +kernel
theorem dL_law_999 : decode code 999 = .ok (.iaload, 1) := by decide +kernel
theorem dL_law_1000 : decode code 1000 = .ok (.i2l, 1) := by decide +kernel
theorem dL_law_1001 : decode code 1001 = .ok (.ldc2_w 119, 3) := by decide +kernel
theorem dL_law_1004 : decode code 1004 = .ok (.land, 1) := by decide +kernel
theorem dL_law_1005 : decode code 1005 = .ok (.lor, 1) := by decide +kernel
theorem dL_law_1006 : decode code 1006 = .ok (.invokevirtual 125, 3) := by decide +kernel
theorem dL_law_1009 : decode code 1009 = .ok (.lcmp, 1) := by decide +kernel
theorem dL_law_1010 : decode code 1010 = .ok (.ifCond .eq 427, 3) := by decide +kernel
theorem dL_law_1013 : decode code 1013 = .ok (.iconst 0, 1) := by decide +kernel
theorem dL_law_1014 : decode code 1014 = .ok (.ireturn, 1) := by decide +kernel
theorem dL_law_1015 : decode code 1015 = .ok (.aload_n 1, 1) := by decide +kernel
theorem dL_law_1016 : decode code 1016 = .ok (.aload_n 0, 1) := by decide +kernel
theorem dL_law_1017 : decode code 1017 = .ok (.iload_n 3, 1) := by decide +kernel
theorem dL_law_1018 : decode code 1018 = .ok (.iconst 1, 1) := by decide +kernel
theorem dL_law_1019 : decode code 1019 = .ok (.iadd, 1) := by decide +kernel
theorem dL_law_1020 : decode code 1020 = .ok (.iaload, 1) := by decide +kernel
theorem dL_law_1021 : decode code 1021 = .ok (.aload_n 0, 1) := by decide +kernel
theorem dL_law_1022 : decode code 1022 = .ok (.iload_n 3, 1) := by decide +kernel
theorem dL_law_1023 : decode code 1023 = .ok (.iconst 2, 1) := by decide +kernel
theorem dL_law_1024 : decode code 1024 = .ok (.iadd, 1) := by decide +kernel
theorem dL_law_1025 : decode code 1025 = .ok (.iaload, 1) := by decide +kernel
theorem dL_law_1026 : decode code 1026 = .ok (.aload_n 0, 1) := by decide +kernel
theorem dL_law_1027 : decode code 1027 = .ok (.iload_n 3, 1) := by decide +kernel
theorem dL_law_1028 : decode code 1028 = .ok (.iconst 3, 1) := by decide +kernel
theorem dL_law_1029 : decode code 1029 = .ok (.iadd, 1) := by decide +kernel
theorem dL_law_1030 : decode code 1030 = .ok (.iaload, 1) := by decide +kernel
theorem dL_law_1031 : decode code 1031 = .ok (.aload_n 0, 1) := by decide +kernel
theorem dL_law_1032 : decode code 1032 = .ok (.iload_n 3, 1) := by decide +kernel
theorem dL_law_1033 : decode code 1033 = .ok (.iconst 4, 1) := by decide +kernel
theorem dL_law_1034 : decode code 1034 = .ok (.iadd, 1) := by decide +kernel
theorem dL_law_1035 : decode code 1035 = .ok (.iaload, 1) := by decide +kernel
theorem dL_law_1036 : decode code 1036 = .ok (.aload_n 0, 1) := by decide +kernel
theorem dL_law_1037 : decode code 1037 = .ok (.iload_n 3, 1) := by decide +kernel
theorem dL_law_1038 : decode code 1038 = .ok (.iconst 5, 1) := by decide +kernel
theorem dL_law_1039 : decode code 1039 = .ok (.iadd, 1) := by decide +kernel
theorem dL_law_1040 : decode code 1040 = .ok (.iaload, 1) := by decide +kernel
theorem dL_law_1041 : decode code 1041 = .ok (.invokevirtual 126, 3) := by decide +kernel
theorem dL_law_1044 : decode code 1044 = .ok (.aload_n 2, 1) := by decide +kernel
theorem dL_law_1045 : decode code 1045 = .ok (.aload_n 0, 1) := by decide +kernel
theorem dL_law_1046 : decode code 1046 = .ok (.iload_n 3, 1) := by decide +kernel
theorem dL_law_1047 : decode code 1047 = .ok (.iconst 1, 1) := by decide +kernel
theorem dL_law_1048 : decode code 1048 = .ok (.iadd, 1) := by decide +kernel
theorem dL_law_1049 : decode code 1049 = .ok (.iaload, 1) := by decide +kernel
theorem dL_law_1050 : decode code 1050 = .ok (.aload_n 0, 1) := by decide +kernel
theorem dL_law_1051 : decode code 1051 = .ok (.iload_n 3, 1) := by decide +kernel
theorem dL_law_1052 : decode code 1052 = .ok (.iconst 2, 1) := by decide +kernel
theorem dL_law_1053 : decode code 1053 = .ok (.iadd, 1) := by decide +kernel
theorem dL_law_1054 : decode code 1054 = .ok (.iaload, 1) := by decide +kernel
theorem dL_law_1055 : decode code 1055 = .ok (.aload_n 0, 1) := by decide +kernel
theorem dL_law_1056 : decode code 1056 = .ok (.iload_n 3, 1) := by decide +kernel
theorem dL_law_1057 : decode code 1057 = .ok (.iconst 3, 1) := by decide +kernel
theorem dL_law_1058 : decode code 1058 = .ok (.iadd, 1) := by decide +kernel
theorem dL_law_1059 : decode code 1059 = .ok (.iaload, 1) := by decide +kernel
theorem dL_law_1060 : decode code 1060 = .ok (.aload_n 0, 1) := by decide +kernel
theorem dL_law_1061 : decode code 1061 = .ok (.iload_n 3, 1) := by decide +kernel
theorem dL_law_1062 : decode code 1062 = .ok (.iconst 4, 1) := by decide +kernel
theorem dL_law_1063 : decode code 1063 = .ok (.iadd, 1) := by decide +kernel
theorem dL_law_1064 : decode code 1064 = .ok (.iaload, 1) := by decide +kernel
theorem dL_law_1065 : decode code 1065 = .ok (.aload_n 0, 1) := by decide +kernel
theorem dL_law_1066 : decode code 1066 = .ok (.iload_n 3, 1) := by decide +kernel
theorem dL_law_1067 : decode code 1067 = .ok (.iconst 5, 1) := by decide +kernel
theorem dL_law_1068 : decode code 1068 = .ok (.iadd, 1) := by decide +kernel
theorem dL_law_1069 : decode code 1069 = .ok (.iaload, 1) := by decide +kernel
theorem dL_law_1070 : decode code 1070 = .ok (.invokevirtual 129, 3) := by decide +kernel
theorem dL_law_1073 : decode code 1073 = .ok (.if_icmp .eq 364, 3) := by decide +kernel
theorem dL_law_1076 : decode code 1076 = .ok (.iconst 0, 1) := by decide +kernel
theorem dL_law_1077 : decode code 1077 = .ok (.ireturn, 1) := by decide +kernel
theorem dL_law_1078 : decode code 1078 = .ok (.aload_n 1, 1) := by decide +kernel
theorem dL_law_1079 : decode code 1079 = .ok (.aload_n 0, 1) := by decide +kernel
theorem dL_law_1080 : decode code 1080 = .ok (.iload_n 3, 1) := by decide +kernel
theorem dL_law_1081 : decode code 1081 = .ok (.iconst 1, 1) := by decide +kernel
theorem dL_law_1082 : decode code 1082 = .ok (.iadd, 1) := by decide +kernel
theorem dL_law_1083 : decode code 1083 = .ok (.iaload, 1) := by decide +kernel
theorem dL_law_1084 : decode code 1084 = .ok (.aload_n 0, 1) := by decide +kernel
theorem dL_law_1085 : decode code 1085 = .ok (.iload_n 3, 1) := by decide +kernel
theorem dL_law_1086 : decode code 1086 = .ok (.iconst 2, 1) := by decide +kernel
theorem dL_law_1087 : decode code 1087 = .ok (.iadd, 1) := by decide +kernel
theorem dL_law_1088 : decode code 1088 = .ok (.iaload, 1) := by decide +kernel
theorem dL_law_1089 : decode code 1089 = .ok (.aload_n 0, 1) := by decide +kernel
theorem dL_law_1090 : decode code 1090 = .ok (.iload_n 3, 1) := by decide +kernel
theorem dL_law_1091 : decode code 1091 = .ok (.iconst 3, 1) := by decide +kernel
theorem dL_law_1092 : decode code 1092 = .ok (.iadd, 1) := by decide +kernel
theorem dL_law_1093 : decode code 1093 = .ok (.iaload, 1) := by decide +kernel
theorem dL_law_1094 : decode code 1094 = .ok (.aload_n 0, 1) := by decide +kernel
theorem dL_law_1095 : decode code 1095 = .ok (.iload_n 3, 1) := by decide +kernel
theorem dL_law_1096 : decode code 1096 = .ok (.iconst 4, 1) := by decide +kernel
theorem dL_law_1097 : decode code 1097 = .ok (.iadd, 1) := by decide +kernel
theorem dL_law_1098 : decode code 1098 = .ok (.iaload, 1) := by decide +kernel
theorem dL_law_1099 : decode code 1099 = .ok (.aload_n 0, 1) := by decide +kernel
theorem dL_law_1100 : decode code 1100 = .ok (.iload_n 3, 1) := by decide +kernel
theorem dL_law_1101 : decode code 1101 = .ok (.iconst 5, 1) := by decide +kernel
theorem dL_law_1102 : decode code 1102 = .ok (.iadd, 1) := by decide +kernel
theorem dL_law_1103 : decode code 1103 = .ok (.iaload, 1) := by decide +kernel
theorem dL_law_1104 : decode code 1104 = .ok (.aload_n 0, 1) := by decide +kernel
theorem dL_law_1105 : decode code 1105 = .ok (.iload_n 3, 1) := by decide +kernel
theorem dL_law_1106 : decode code 1106 = .ok (.bipush 6, 2) := by decide +kernel
theorem dL_law_1108 : decode code 1108 = .ok (.iadd, 1) := by decide +kernel
theorem dL_law_1109 : decode code 1109 = .ok (.iaload, 1) := by decide +kernel
theorem dL_law_1110 : decode code 1110 = .ok (.invokevirtual 130, 3) := by decide +kernel
theorem dL_law_1113 : decode code 1113 = .ok (.aload_n 2, 1) := by decide +kernel
theorem dL_law_1114 : decode code 1114 = .ok (.aload_n 0, 1) := by decide +kernel
theorem dL_law_1115 : decode code 1115 = .ok (.iload_n 3, 1) := by decide +kernel
theorem dL_law_1116 : decode code 1116 = .ok (.iconst 1, 1) := by decide +kernel
theorem dL_law_1117 : decode code 1117 = .ok (.iadd, 1) := by decide +kernel
theorem dL_law_1118 : decode code 1118 = .ok (.iaload, 1) := by decide +kernel
theorem dL_law_1119 : decode code 1119 = .ok (.aload_n 0, 1) := by decide +kernel
theorem dL_law_1120 : decode code 1120 = .ok (.iload_n 3, 1) := by decide +kernel
theorem dL_law_1121 : decode code 1121 = .ok (.iconst 2, 1) := by decide +kernel
theorem dL_law_1122 : decode code 1122 = .ok (.iadd, 1) := by decide +kernel
theorem dL_law_1123 : decode code 1123 = .ok (.iaload, 1) := by decide +kernel
theorem dL_law_1124 : decode code 1124 = .ok (.aload_n 0, 1) := by decide +kernel
theorem dL_law_1125 : decode code 1125 = .ok (.iload_n 3, 1) := by decide +kernel
theorem dL_law_1126 : decode code 1126 = .ok (.iconst 3, 1) := by decide +kernel
theorem dL_law_1127 : decode code 1127 = .ok (.iadd, 1) := by decide +kernel
theorem dL_law_1128 : decode code 1128 = .ok (.iaload, 1) := by decide +kernel
theorem dL_law_1129 : decode code 1129 = .ok (.aload_n 0, 1) := by decide +kernel
theorem dL_law_1130 : decode code 1130 = .ok (.iload_n 3, 1) := by decide +kernel
theorem dL_law_1131 : decode code 1131 = .ok (.iconst 4, 1) := by decide +kernel
theorem dL_law_1132 : decode code 1132 = .ok (.iadd, 1) := by decide +kernel
theorem dL_law_1133 : decode code 1133 = .ok (.iaload, 1) := by decide +kernel
theorem dL_law_1134 : decode code 1134 = .ok (.aload_n 0, 1) := by decide +kernel
theorem dL_law_1135 : decode code 1135 = .ok (.iload_n 3, 1) := by decide +kernel
theorem dL_law_1136 : decode code 1136 = .ok (.iconst 5, 1) := by decide +kernel
theorem dL_law_1137 : decode code 1137 = .ok (.iadd, 1) := by decide +kernel
theorem dL_law_1138 : decode code 1138 = .ok (.iaload, 1) := by decide +kernel
theorem dL_law_1139 : decode code 1139 = .ok (.aload_n 0, 1) := by decide +kernel
theorem dL_law_1140 : decode code 1140 = .ok (.iload_n 3, 1) := by decide +kernel
theorem dL_law_1141 : decode code 1141 = .ok (.bipush 6, 2) := by decide +kernel
theorem dL_law_1143 : decode code 1143 = .ok (.iadd, 1) := by decide +kernel
theorem dL_law_1144 : decode code 1144 = .ok (.iaload, 1) := by decide +kernel
theorem dL_law_1145 : decode code 1145 = .ok (.invokevirtual 134, 3) := by decide +kernel
theorem dL_law_1148 : decode code 1148 = .ok (.if_icmp .eq 289, 3) := by decide +kernel
theorem dL_law_1151 : decode code 1151 = .ok (.iconst 0, 1) := by decide +kernel
theorem dL_law_1152 : decode code 1152 = .ok (.ireturn, 1) := by decide +kernel
theorem dL_law_1153 : decode code 1153 = .ok (.aload_n 1, 1) := by decide +kernel
theorem dL_law_1154 : decode code 1154 = .ok (.aload_n 0, 1) := by decide +kernel
theorem dL_law_1155 : decode code 1155 = .ok (.iload_n 3, 1) := by decide +kernel
theorem dL_law_1156 : decode code 1156 = .ok (.iconst 1, 1) := by decide +kernel
theorem dL_law_1157 : decode code 1157 = .ok (.iadd, 1) := by decide +kernel
theorem dL_law_1158 : decode code 1158 = .ok (.iaload, 1) := by decide +kernel
theorem dL_law_1159 : decode code 1159 = .ok (.aload_n 0, 1) := by decide +kernel
theorem dL_law_1160 : decode code 1160 = .ok (.iload_n 3, 1) := by decide +kernel
theorem dL_law_1161 : decode code 1161 = .ok (.iconst 2, 1) := by decide +kernel
theorem dL_law_1162 : decode code 1162 = .ok (.iadd, 1) := by decide +kernel
theorem dL_law_1163 : decode code 1163 = .ok (.iaload, 1) := by decide +kernel
theorem dL_law_1164 : decode code 1164 = .ok (.aload_n 0, 1) := by decide +kernel
theorem dL_law_1165 : decode code 1165 = .ok (.iload_n 3, 1) := by decide +kernel
theorem dL_law_1166 : decode code 1166 = .ok (.iconst 3, 1) := by decide +kernel
theorem dL_law_1167 : decode code 1167 = .ok (.iadd, 1) := by decide +kernel
theorem dL_law_1168 : decode code 1168 = .ok (.iaload, 1) := by decide +kernel
theorem dL_law_1169 : decode code 1169 = .ok (.aload_n 0, 1) := by decide +kernel
theorem dL_law_1170 : decode code 1170 = .ok (.iload_n 3, 1) := by decide +kernel
theorem dL_law_1171 : decode code 1171 = .ok (.iconst 4, 1) := by decide +kernel
theorem dL_law_1172 : decode code 1172 = .ok (.iadd, 1) := by decide +kernel
theorem dL_law_1173 : decode code 1173 = .ok (.iaload, 1) := by decide +kernel
theorem dL_law_1174 : decode code 1174 = .ok (.aload_n 0, 1) := by decide +kernel
theorem dL_law_1175 : decode code 1175 = .ok (.iload_n 3, 1) := by decide +kernel
theorem dL_law_1176 : decode code 1176 = .ok (.iconst 5, 1) := by decide +kernel
theorem dL_law_1177 : decode code 1177 = .ok (.iadd, 1) := by decide +kernel
theorem dL_law_1178 : decode code 1178 = .ok (.iaload, 1) := by decide +kernel
theorem dL_law_1179 : decode code 1179 = .ok (.aload_n 0, 1) := by decide +kernel
theorem dL_law_1180 : decode code 1180 = .ok (.iload_n 3, 1) := by decide +kernel
theorem dL_law_1181 : decode code 1181 = .ok (.bipush 6, 2) := by decide +kernel
theorem dL_law_1183 : decode code 1183 = .ok (.iadd, 1) := by decide +kernel
theorem dL_law_1184 : decode code 1184 = .ok (.iaload, 1) := by decide +kernel
theorem dL_law_1185 : decode code 1185 = .ok (.aload_n 0, 1) := by decide +kernel
theorem dL_law_1186 : decode code 1186 = .ok (.iload_n 3, 1) := by decide +kernel
theorem dL_law_1187 : decode code 1187 = .ok (.bipush 7, 2) := by decide +kernel
theorem dL_law_1189 : decode code 1189 = .ok (.iadd, 1) := by decide +kernel
theorem dL_law_1190 : decode code 1190 = .ok (.iaload, 1) := by decide +kernel
theorem dL_law_1191 : decode code 1191 = .ok (.invokevirtual 135, 3) := by decide +kernel
theorem dL_law_1194 : decode code 1194 = .ok (.aload_n 2, 1) := by decide +kernel
theorem dL_law_1195 : decode code 1195 = .ok (.aload_n 0, 1) := by decide +kernel
theorem dL_law_1196 : decode code 1196 = .ok (.iload_n 3, 1) := by decide +kernel
theorem dL_law_1197 : decode code 1197 = .ok (.iconst 1, 1) := by decide +kernel
theorem dL_law_1198 : decode code 1198 = .ok (.iadd, 1) := by decide +kernel
theorem dL_law_1199 : decode code 1199 = .ok (.iaload, 1) := by decide +kernel
theorem dL_law_1200 : decode code 1200 = .ok (.aload_n 0, 1) := by decide +kernel
theorem dL_law_1201 : decode code 1201 = .ok (.iload_n 3, 1) := by decide +kernel
theorem dL_law_1202 : decode code 1202 = .ok (.iconst 2, 1) := by decide +kernel
theorem dL_law_1203 : decode code 1203 = .ok (.iadd, 1) := by decide +kernel
theorem dL_law_1204 : decode code 1204 = .ok (.iaload, 1) := by decide +kernel
theorem dL_law_1205 : decode code 1205 = .ok (.aload_n 0, 1) := by decide +kernel
theorem dL_law_1206 : decode code 1206 = .ok (.iload_n 3, 1) := by decide +kernel
theorem dL_law_1207 : decode code 1207 = .ok (.iconst 3, 1) := by decide +kernel
theorem dL_law_1208 : decode code 1208 = .ok (.iadd, 1) := by decide +kernel
theorem dL_law_1209 : decode code 1209 = .ok (.iaload, 1) := by decide +kernel
theorem dL_law_1210 : decode code 1210 = .ok (.aload_n 0, 1) := by decide +kernel
theorem dL_law_1211 : decode code 1211 = .ok (.iload_n 3, 1) := by decide +kernel
theorem dL_law_1212 : decode code 1212 = .ok (.iconst 4, 1) := by decide +kernel
theorem dL_law_1213 : decode code 1213 = .ok (.iadd, 1) := by decide +kernel
theorem dL_law_1214 : decode code 1214 = .ok (.iaload, 1) := by decide +kernel
theorem dL_law_1215 : decode code 1215 = .ok (.aload_n 0, 1) := by decide +kernel
theorem dL_law_1216 : decode code 1216 = .ok (.iload_n 3, 1) := by decide +kernel
theorem dL_law_1217 : decode code 1217 = .ok (.iconst 5, 1) := by decide +kernel
theorem dL_law_1218 : decode code 1218 = .ok (.iadd, 1) := by decide +kernel
theorem dL_law_1219 : decode code 1219 = .ok (.iaload, 1) := by decide +kernel
theorem dL_law_1220 : decode code 1220 = .ok (.aload_n 0, 1) := by decide +kernel
theorem dL_law_1221 : decode code 1221 = .ok (.iload_n 3, 1) := by decide +kernel
theorem dL_law_1222 : decode code 1222 = .ok (.bipush 6, 2) := by decide +kernel
theorem dL_law_1224 : decode code 1224 = .ok (.iadd, 1) := by decide +kernel
theorem dL_law_1225 : decode code 1225 = .ok (.iaload, 1) := by decide +kernel
theorem dL_law_1226 : decode code 1226 = .ok (.aload_n 0, 1) := by decide +kernel
theorem dL_law_1227 : decode code 1227 = .ok (.iload_n 3, 1) := by decide +kernel
theorem dL_law_1228 : decode code 1228 = .ok (.bipush 7, 2) := by decide +kernel
theorem dL_law_1230 : decode code 1230 = .ok (.iadd, 1) := by decide +kernel
theorem dL_law_1231 : decode code 1231 = .ok (.iaload, 1) := by decide +kernel
theorem dL_law_1232 : decode code 1232 = .ok (.invokevirtual 139, 3) := by decide +kernel
theorem dL_law_1235 : decode code 1235 = .ok (.if_icmp .eq 202, 3) := by decide +kernel
theorem dL_law_1238 : decode code 1238 = .ok (.iconst 0, 1) := by decide +kernel
theorem dL_law_1239 : decode code 1239 = .ok (.ireturn, 1) := by decide +kernel
theorem dL_law_1240 : decode code 1240 = .ok (.aload_n 1, 1) := by decide +kernel
theorem dL_law_1241 : decode code 1241 = .ok (.aload_n 0, 1) := by decide +kernel
theorem dL_law_1242 : decode code 1242 = .ok (.iload_n 3, 1) := by decide +kernel
theorem dL_law_1243 : decode code 1243 = .ok (.iconst 1, 1) := by decide +kernel
theorem dL_law_1244 : decode code 1244 = .ok (.iadd, 1) := by decide +kernel
theorem dL_law_1245 : decode code 1245 = .ok (.iaload, 1) := by decide +kernel
theorem dL_law_1246 : decode code 1246 = .ok (.aload_n 0, 1) := by decide +kernel
theorem dL_law_1247 : decode code 1247 = .ok (.iload_n 3, 1) := by decide +kernel
theorem dL_law_1248 : decode code 1248 = .ok (.iconst 2, 1) := by decide +kernel
theorem dL_law_1249 : decode code 1249 = .ok (.iadd, 1) := by decide +kernel
theorem dL_law_1250 : decode code 1250 = .ok (.iaload, 1) := by decide +kernel
theorem dL_law_1251 : decode code 1251 = .ok (.aload_n 0, 1) := by decide +kernel
theorem dL_law_1252 : decode code 1252 = .ok (.iload_n 3, 1) := by decide +kernel
theorem dL_law_1253 : decode code 1253 = .ok (.iconst 3, 1) := by decide +kernel
theorem dL_law_1254 : decode code 1254 = .ok (.iadd, 1) := by decide +kernel
theorem dL_law_1255 : decode code 1255 = .ok (.iaload, 1) := by decide +kernel
theorem dL_law_1256 : decode code 1256 = .ok (.aload_n 0, 1) := by decide +kernel
theorem dL_law_1257 : decode code 1257 = .ok (.iload_n 3, 1) := by decide +kernel
theorem dL_law_1258 : decode code 1258 = .ok (.iconst 4, 1) := by decide +kernel
theorem dL_law_1259 : decode code 1259 = .ok (.iadd, 1) := by decide +kernel
theorem dL_law_1260 : decode code 1260 = .ok (.iaload, 1) := by decide +kernel
theorem dL_law_1261 : decode code 1261 = .ok (.aload_n 0, 1) := by decide +kernel
theorem dL_law_1262 : decode code 1262 = .ok (.iload_n 3, 1) := by decide +kernel
theorem dL_law_1263 : decode code 1263 = .ok (.iconst 5, 1) := by decide +kernel
theorem dL_law_1264 : decode code 1264 = .ok (.iadd, 1) := by decide +kernel
theorem dL_law_1265 : decode code 1265 = .ok (.iaload, 1) := by decide +kernel
theorem dL_law_1266 : decode code 1266 = .ok (.aload_n 0, 1) := by decide +kernel
theorem dL_law_1267 : decode code 1267 = .ok (.iload_n 3, 1) := by decide +kernel
theorem dL_law_1268 : decode code 1268 = .ok (.bipush 6, 2) := by decide +kernel
theorem dL_law_1270 : decode code 1270 = .ok (.iadd, 1) := by decide +kernel
theorem dL_law_1271 : decode code 1271 = .ok (.iaload, 1) := by decide +kernel
theorem dL_law_1272 : decode code 1272 = .ok (.aload_n 0, 1) := by decide +kernel
theorem dL_law_1273 : decode code 1273 = .ok (.iload_n 3, 1) := by decide +kernel
theorem dL_law_1274 : decode code 1274 = .ok (.bipush 7, 2) := by decide +kernel
theorem dL_law_1276 : decode code 1276 = .ok (.iadd, 1) := by decide +kernel
theorem dL_law_1277 : decode code 1277 = .ok (.iaload, 1) := by decide +kernel
theorem dL_law_1278 : decode code 1278 = .ok (.invokevirtual 140, 3) := by decide +kernel
theorem dL_law_1281 : decode code 1281 = .ok (.aload_n 2, 1) := by decide +kernel
theorem dL_law_1282 : decode code 1282 = .ok (.aload_n 0, 1) := by decide +kernel
theorem dL_law_1283 : decode code 1283 = .ok (.iload_n 3, 1) := by decide +kernel
theorem dL_law_1284 : decode code 1284 = .ok (.iconst 1, 1) := by decide +kernel
theorem dL_law_1285 : decode code 1285 = .ok (.iadd, 1) := by decide +kernel
theorem dL_law_1286 : decode code 1286 = .ok (.iaload, 1) := by decide +kernel
theorem dL_law_1287 : decode code 1287 = .ok (.aload_n 0, 1) := by decide +kernel
theorem dL_law_1288 : decode code 1288 = .ok (.iload_n 3, 1) := by decide +kernel
theorem dL_law_1289 : decode code 1289 = .ok (.iconst 2, 1) := by decide +kernel
theorem dL_law_1290 : decode code 1290 = .ok (.iadd, 1) := by decide +kernel
theorem dL_law_1291 : decode code 1291 = .ok (.iaload, 1) := by decide +kernel
theorem dL_law_1292 : decode code 1292 = .ok (.aload_n 0, 1) := by decide +kernel
theorem dL_law_1293 : decode code 1293 = .ok (.iload_n 3, 1) := by decide +kernel
theorem dL_law_1294 : decode code 1294 = .ok (.iconst 3, 1) := by decide +kernel
theorem dL_law_1295 : decode code 1295 = .ok (.iadd, 1) := by decide +kernel
theorem dL_law_1296 : decode code 1296 = .ok (.iaload, 1) := by decide +kernel
theorem dL_law_1297 : decode code 1297 = .ok (.aload_n 0, 1) := by decide +kernel
theorem dL_law_1298 : decode code 1298 = .ok (.iload_n 3, 1) := by decide +kernel
theorem dL_law_1299 : decode code 1299 = .ok (.iconst 4, 1) := by decide +kernel
theorem dL_law_1300 : decode code 1300 = .ok (.iadd, 1) := by decide +kernel
theorem dL_law_1301 : decode code 1301 = .ok (.iaload, 1) := by decide +kernel
theorem dL_law_1302 : decode code 1302 = .ok (.aload_n 0, 1) := by decide +kernel
theorem dL_law_1303 : decode code 1303 = .ok (.iload_n 3, 1) := by decide +kernel
theorem dL_law_1304 : decode code 1304 = .ok (.iconst 5, 1) := by decide +kernel
theorem dL_law_1305 : decode code 1305 = .ok (.iadd, 1) := by decide +kernel
theorem dL_law_1306 : decode code 1306 = .ok (.iaload, 1) := by decide +kernel
theorem dL_law_1307 : decode code 1307 = .ok (.aload_n 0, 1) := by decide +kernel
theorem dL_law_1308 : decode code 1308 = .ok (.iload_n 3, 1) := by decide +kernel
theorem dL_law_1309 : decode code 1309 = .ok (.bipush 6, 2) := by decide +kernel
theorem dL_law_1311 : decode code 1311 = .ok (.iadd, 1) := by decide +kernel
theorem dL_law_1312 : decode code 1312 = .ok (.iaload, 1) := by decide +kernel
theorem dL_law_1313 : decode code 1313 = .ok (.aload_n 0, 1) := by decide +kernel
theorem dL_law_1314 : decode code 1314 = .ok (.iload_n 3, 1) := by decide +kernel
theorem dL_law_1315 : decode code 1315 = .ok (.bipush 7, 2) := by decide +kernel
theorem dL_law_1317 : decode code 1317 = .ok (.iadd, 1) := by decide +kernel
theorem dL_law_1318 : decode code 1318 = .ok (.iaload, 1) := by decide +kernel
theorem dL_law_1319 : decode code 1319 = .ok (.invokevirtual 143, 3) := by decide +kernel
theorem dL_law_1322 : decode code 1322 = .ok (.if_icmp .eq 115, 3) := by decide +kernel
theorem dL_law_1325 : decode code 1325 = .ok (.iconst 0, 1) := by decide +kernel
theorem dL_law_1326 : decode code 1326 = .ok (.ireturn, 1) := by decide +kernel
theorem dL_law_1327 : decode code 1327 = .ok (.aload_n 1, 1) := by decide +kernel
theorem dL_law_1328 : decode code 1328 = .ok (.aload_n 0, 1) := by decide +kernel
theorem dL_law_1329 : decode code 1329 = .ok (.iload_n 3, 1) := by decide +kernel
theorem dL_law_1330 : decode code 1330 = .ok (.iconst 1, 1) := by decide +kernel
theorem dL_law_1331 : decode code 1331 = .ok (.iadd, 1) := by decide +kernel
theorem dL_law_1332 : decode code 1332 = .ok (.iaload, 1) := by decide +kernel
theorem dL_law_1333 : decode code 1333 = .ok (.aload_n 0, 1) := by decide +kernel
theorem dL_law_1334 : decode code 1334 = .ok (.iload_n 3, 1) := by decide +kernel
theorem dL_law_1335 : decode code 1335 = .ok (.iconst 2, 1) := by decide +kernel
theorem dL_law_1336 : decode code 1336 = .ok (.iadd, 1) := by decide +kernel
theorem dL_law_1337 : decode code 1337 = .ok (.iaload, 1) := by decide +kernel
theorem dL_law_1338 : decode code 1338 = .ok (.aload_n 0, 1) := by decide +kernel
theorem dL_law_1339 : decode code 1339 = .ok (.iload_n 3, 1) := by decide +kernel
theorem dL_law_1340 : decode code 1340 = .ok (.iconst 3, 1) := by decide +kernel
theorem dL_law_1341 : decode code 1341 = .ok (.iadd, 1) := by decide +kernel
theorem dL_law_1342 : decode code 1342 = .ok (.iaload, 1) := by decide +kernel
theorem dL_law_1343 : decode code 1343 = .ok (.aload_n 0, 1) := by decide +kernel
theorem dL_law_1344 : decode code 1344 = .ok (.iload_n 3, 1) := by decide +kernel
theorem dL_law_1345 : decode code 1345 = .ok (.iconst 4, 1) := by decide +kernel
theorem dL_law_1346 : decode code 1346 = .ok (.iadd, 1) := by decide +kernel
theorem dL_law_1347 : decode code 1347 = .ok (.iaload, 1) := by decide +kernel
theorem dL_law_1348 : decode code 1348 = .ok (.aload_n 0, 1) := by decide +kernel
theorem dL_law_1349 : decode code 1349 = .ok (.iload_n 3, 1) := by decide +kernel
theorem dL_law_1350 : decode code 1350 = .ok (.iconst 5, 1) := by decide +kernel
theorem dL_law_1351 : decode code 1351 = .ok (.iadd, 1) := by decide +kernel
theorem dL_law_1352 : decode code 1352 = .ok (.iaload, 1) := by decide +kernel
theorem dL_law_1353 : decode code 1353 = .ok (.aload_n 0, 1) := by decide +kernel
theorem dL_law_1354 : decode code 1354 = .ok (.iload_n 3, 1) := by decide +kernel
theorem dL_law_1355 : decode code 1355 = .ok (.bipush 6, 2) := by decide +kernel
theorem dL_law_1357 : decode code 1357 = .ok (.iadd, 1) := by decide +kernel
theorem dL_law_1358 : decode code 1358 = .ok (.iaload, 1) := by decide +kernel
theorem dL_law_1359 : decode code 1359 = .ok (.aload_n 0, 1) := by decide +kernel
theorem dL_law_1360 : decode code 1360 = .ok (.iload_n 3, 1) := by decide +kernel
theorem dL_law_1361 : decode code 1361 = .ok (.bipush 7, 2) := by decide +kernel
theorem dL_law_1363 : decode code 1363 = .ok (.iadd, 1) := by decide +kernel
theorem dL_law_1364 : decode code 1364 = .ok (.iaload, 1) := by decide +kernel
theorem dL_law_1365 : decode code 1365 = .ok (.invokevirtual 144, 3) := by decide +kernel
theorem dL_law_1368 : decode code 1368 = .ok (.aload_n 2, 1) := by decide +kernel
theorem dL_law_1369 : decode code 1369 = .ok (.aload_n 0, 1) := by decide +kernel
theorem dL_law_1370 : decode code 1370 = .ok (.iload_n 3, 1) := by decide +kernel
theorem dL_law_1371 : decode code 1371 = .ok (.iconst 1, 1) := by decide +kernel
theorem dL_law_1372 : decode code 1372 = .ok (.iadd, 1) := by decide +kernel
theorem dL_law_1373 : decode code 1373 = .ok (.iaload, 1) := by decide +kernel
theorem dL_law_1374 : decode code 1374 = .ok (.aload_n 0, 1) := by decide +kernel
theorem dL_law_1375 : decode code 1375 = .ok (.iload_n 3, 1) := by decide +kernel
theorem dL_law_1376 : decode code 1376 = .ok (.iconst 2, 1) := by decide +kernel
theorem dL_law_1377 : decode code 1377 = .ok (.iadd, 1) := by decide +kernel
theorem dL_law_1378 : decode code 1378 = .ok (.iaload, 1) := by decide +kernel
theorem dL_law_1379 : decode code 1379 = .ok (.aload_n 0, 1) := by decide +kernel
theorem dL_law_1380 : decode code 1380 = .ok (.iload_n 3, 1) := by decide +kernel
theorem dL_law_1381 : decode code 1381 = .ok (.iconst 3, 1) := by decide +kernel
theorem dL_law_1382 : decode code 1382 = .ok (.iadd, 1) := by decide +kernel
theorem dL_law_1383 : decode code 1383 = .ok (.iaload, 1) := by decide +kernel
theorem dL_law_1384 : decode code 1384 = .ok (.aload_n 0, 1) := by decide +kernel
theorem dL_law_1385 : decode code 1385 = .ok (.iload_n 3, 1) := by decide +kernel
theorem dL_law_1386 : decode code 1386 = .ok (.iconst 4, 1) := by decide +kernel
theorem dL_law_1387 : decode code 1387 = .ok (.iadd, 1) := by decide +kernel
theorem dL_law_1388 : decode code 1388 = .ok (.iaload, 1) := by decide +kernel
theorem dL_law_1389 : decode code 1389 = .ok (.aload_n 0, 1) := by decide +kernel
theorem dL_law_1390 : decode code 1390 = .ok (.iload_n 3, 1) := by decide +kernel
theorem dL_law_1391 : decode code 1391 = .ok (.iconst 5, 1) := by decide +kernel
theorem dL_law_1392 : decode code 1392 = .ok (.iadd, 1) := by decide +kernel
theorem dL_law_1393 : decode code 1393 = .ok (.iaload, 1) := by decide +kernel
theorem dL_law_1394 : decode code 1394 = .ok (.aload_n 0, 1) := by decide +kernel
theorem dL_law_1395 : decode code 1395 = .ok (.iload_n 3, 1) := by decide +kernel
theorem dL_law_1396 : decode code 1396 = .ok (.bipush 6, 2) := by decide +kernel
theorem dL_law_1398 : decode code 1398 = .ok (.iadd, 1) := by decide +kernel
theorem dL_law_1399 : decode code 1399 = .ok (.iaload, 1) := by decide +kernel
theorem dL_law_1400 : decode code 1400 = .ok (.aload_n 0, 1) := by decide +kernel
theorem dL_law_1401 : decode code 1401 = .ok (.iload_n 3, 1) := by decide +kernel
theorem dL_law_1402 : decode code 1402 = .ok (.bipush 7, 2) := by decide +kernel
theorem dL_law_1404 : decode code 1404 = .ok (.iadd, 1) := by decide +kernel
theorem dL_law_1405 : decode code 1405 = .ok (.iaload, 1) := by decide +kernel
theorem dL_law_1406 : decode code 1406 = .ok (.invokevirtual 147, 3) := by decide +kernel
theorem dL_law_1409 : decode code 1409 = .ok (.if_icmp .eq 28, 3) := by decide +kernel
theorem dL_law_1412 : decode code 1412 = .ok (.iconst 0, 1) := by decide +kernel
theorem dL_law_1413 : decode code 1413 = .ok (.ireturn, 1) := by decide +kernel
theorem dL_law_1414 : decode code 1414 = .ok (.aload_n 1, 1) := by decide +kernel
theorem dL_law_1415 : decode code 1415 = .ok (.aload_n 0, 1) := by decide +kernel
theorem dL_law_1416 : decode code 1416 = .ok (.iload_n 3, 1) := by decide +kernel
theorem dL_law_1417 : decode code 1417 = .ok (.iconst 1, 1) := by decide +kernel
theorem dL_law_1418 : decode code 1418 = .ok (.iadd, 1) := by decide +kernel
theorem dL_law_1419 : decode code 1419 = .ok (.iaload, 1) := by decide +kernel
theorem dL_law_1420 : decode code 1420 = .ok (.invokevirtual 148, 3) := by decide +kernel
theorem dL_law_1423 : decode code 1423 = .ok (.aload_n 2, 1) := by decide +kernel
theorem dL_law_1424 : decode code 1424 = .ok (.aload_n 0, 1) := by decide +kernel
theorem dL_law_1425 : decode code 1425 = .ok (.iload_n 3, 1) := by decide +kernel
theorem dL_law_1426 : decode code 1426 = .ok (.iconst 1, 1) := by decide +kernel
theorem dL_law_1427 : decode code 1427 = .ok (.iadd, 1) := by decide +kernel
theorem dL_law_1428 : decode code 1428 = .ok (.iaload, 1) := by decide +kernel
theorem dL_law_1429 : decode code 1429 = .ok (.invokevirtual 151, 3) := by decide +kernel
theorem dL_law_1432 : decode code 1432 = .ok (.if_icmp .eq 5, 3) := by decide +kernel
theorem dL_law_1435 : decode code 1435 = .ok (.iconst 0, 1) := by decide +kernel
theorem dL_law_1436 : decode code 1436 = .ok (.ireturn, 1) := by decide +kernel
theorem dL_law_1437 : decode code 1437 = .ok (.iinc 3 8, 3) := by decide +kernel
theorem dL_law_1440 : decode code 1440 = .ok (.goto (-1422), 3) := by decide +kernel
theorem dL_law_1443 : decode code 1443 = .ok (.iconst 1, 1) := by decide +kernel
theorem dL_law_1444 : decode code 1444 = .ok (.ireturn, 1) := by decide +kernel
