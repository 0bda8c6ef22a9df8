theorem d_L_law_23 : decode code 23 = .ok (.iload 4, 2) := by decide +kernel
theorem d_L_law_25 : decode code 25 = .ok (.aload_n 0, 1) := by decide +kernel
theorem d_L_law_26 : decode code 26 = .ok (.arraylength, 1) := by decide +kernel
theorem d_L_law_27 : decode code 27 = .ok (.bipush 6, 2) := by decide +kernel
theorem d_L_law_29 : decode code 29 = .ok (.isub, 1) := by decide +kernel
theorem d_L_law_30 : decode code 30 = .ok (.if_icmp .gt 1498, 3) := by decide +kernel
theorem d_L_law_33 : decode code 33 = .ok (.aload_n 0, 1) := by decide +kernel
theorem d_L_law_34 : decode code 34 = .ok (.iload 4, 2) := by decide +kernel
theorem d_L_law_36 : decode code 36 = .ok (.iaload, 1) := by decide +kernel
theorem d_L_law_37 : decode code 37 = .ok (.bipush 31, 2) := by decide +kernel
theorem d_L_law_39 : decode code 39 = .ok (.iand, 1) := by decide +kernel
theorem d_L_law_40 : decode code 40 = .ok (.tableswitch 1482 0 24 #[116, 189, 214, 258, 326, 339, 395, 451, 507, 575, 643, 711, 736, 828, 932, 1000, 1080, 1136, 1204, 1284, 1340, 1365, 1433, 1444, 1457], 116) := by decide +kernel
theorem d_L_law_156 : decode code 156 = .ok (.aload_n 1, 1) := by decide +kernel
theorem d_L_law_157 : decode code 157 = .ok (.aload_n 0, 1) := by decide +kernel
theorem d_L_law_158 : decode code 158 = .ok (.iload 4, 2) := by decide +kernel
theorem d_L_law_160 : decode code 160 = .ok (.iconst 1, 1) := by decide +kernel
theorem d_L_law_161 : decode code 161 = .ok (.iadd, 1) := by decide +kernel
theorem d_L_law_162 : decode code 162 = .ok (.iaload, 1) := by decide +kernel
theorem d_L_law_163 : decode code 163 = .ok (.aload_n 0, 1) := by decide +kernel
theorem d_L_law_164 : decode code 164 = .ok (.iload 4, 2) := by decide +kernel
theorem d_L_law_166 : decode code 166 = .ok (.iconst 2, 1) := by decide +kernel
theorem d_L_law_167 : decode code 167 = .ok (.iadd, 1) := by decide +kernel
theorem d_L_law_168 : decode code 168 = .ok (.iaload, 1) := by decide +kernel
theorem d_L_law_169 : decode code 169 = .ok (.aload_n 0, 1) := by decide +kernel
theorem d_L_law_170 : decode code 170 = .ok (.iload 4, 2) := by decide +kernel
theorem d_L_law_172 : decode code 172 = .ok (.iconst 3, 1) := by decide +kernel
theorem d_L_law_173 : decode code 173 = .ok (.iadd, 1) := by decide +kernel
theorem d_L_law_174 : decode code 174 = .ok (.iaload, 1) := by decide +kernel
theorem d_L_law_175 : decode code 175 = .ok (.aload_n 0, 1) := by decide +kernel
theorem d_L_law_176 : decode code 176 = .ok (.iload 4, 2) := by decide +kernel
theorem d_L_law_178 : decode code 178 = .ok (.iconst 4, 1) := by decide +kernel
theorem d_L_law_179 : decode code 179 = .ok (.iadd, 1) := by decide +kernel
theorem d_L_law_180 : decode code 180 = .ok (.iaload, 1) := by decide +kernel
theorem d_L_law_181 : decode code 181 = .ok (.aload_n 0, 1) := by decide +kernel
theorem d_L_law_182 : decode code 182 = .ok (.iload 4, 2) := by decide +kernel
theorem d_L_law_184 : decode code 184 = .ok (.iconst 5, 1) := by decide +kernel
theorem d_L_law_185 : decode code 185 = .ok (.iadd, 1) := by decide +kernel
theorem d_L_law_186 : decode code 186 = .ok (.iaload, 1) := by decide +kernel
theorem d_L_law_187 : decode code 187 = .ok (.invokevirtual 78, 3) := by decide +kernel
theorem d_L_law_190 : decode code 190 = .ok (.aload_n 2, 1) := by decide +kernel
theorem d_L_law_191 : decode code 191 = .ok (.aload_n 0, 1) := by decide +kernel
theorem d_L_law_192 : decode code 192 = .ok (.iload 4, 2) := by decide +kernel
theorem d_L_law_194 : decode code 194 = .ok (.iconst 1, 1) := by decide +kernel
theorem d_L_law_195 : decode code 195 = .ok (.iadd, 1) := by decide +kernel
theorem d_L_law_196 : decode code 196 = .ok (.iaload, 1) := by decide +kernel
theorem d_L_law_197 : decode code 197 = .ok (.aload_n 0, 1) := by decide +kernel
theorem d_L_law_198 : decode code 198 = .ok (.iload 4, 2) := by decide +kernel
theorem d_L_law_200 : decode code 200 = .ok (.iconst 2, 1) := by decide +kernel
theorem d_L_law_201 : decode code 201 = .ok (.iadd, 1) := by decide +kernel
theorem d_L_law_202 : decode code 202 = .ok (.iaload, 1) := by decide +kernel
theorem d_L_law_203 : decode code 203 = .ok (.aload_n 0, 1) := by decide +kernel
theorem d_L_law_204 : decode code 204 = .ok (.iload 4, 2) := by decide +kernel
theorem d_L_law_206 : decode code 206 = .ok (.iconst 3, 1) := by decide +kernel
theorem d_L_law_207 : decode code 207 = .ok (.iadd, 1) := by decide +kernel
theorem d_L_law_208 : decode code 208 = .ok (.iaload, 1) := by decide +kernel
theorem d_L_law_209 : decode code 209 = .ok (.aload_n 0, 1) := by decide +kernel
theorem d_L_law_210 : decode code 210 = .ok (.iload 4, 2) := by decide +kernel
theorem d_L_law_212 : decode code 212 = .ok (.iconst 4, 1) := by decide +kernel
theorem d_L_law_213 : decode code 213 = .ok (.iadd, 1) := by decide +kernel
theorem d_L_law_214 : decode code 214 = .ok (.iaload, 1) := by decide +kernel
theorem d_L_law_215 : decode code 215 = .ok (.aload_n 0, 1) := by decide +kernel
theorem d_L_law_216 : decode code 216 = .ok (.iload 4, 2) := by decide +kernel
theorem d_L_law_218 : decode code 218 = .ok (.iconst 5, 1) := by decide +kernel
theorem d_L_law_219 : decode code 219 = .ok (.iadd, 1) := by decide +kernel
theorem d_L_law_220 : decode code 220 = .ok (.iaload, 1) := by decide +kernel
theorem d_L_law_221 : decode code 221 = .ok (.invokevirtual 81, 3) := by decide +kernel
theorem d_L_law_224 : decode code 224 = .ok (.if_icmp .eq 1298, 3) := by decide +kernel
theorem d_L_law_227 : decode code 227 = .ok (.iconst 0, 1) := by decide +kernel
theorem d_L_law_228 : decode code 228 = .ok (.ireturn, 1) := by decide +kernel
theorem d_L_law_229 : decode code 229 = .ok (.aload_n 1, 1) := by decide +kernel
theorem d_L_law_230 : decode code 230 = .ok (.aload_n 0, 1) := by decide +kernel
theorem d_L_law_231 : decode code 231 = .ok (.iload 4, 2) := by decide +kernel
theorem d_L_law_233 : decode code 233 = .ok (.iconst 1, 1) := by decide +kernel
theorem d_L_law_234 : decode code 234 = .ok (.iadd, 1) := by decide +kernel
theorem d_L_law_235 : decode code 235 = .ok (.iaload, 1) := by decide +kernel
theorem d_L_law_236 : decode code 236 = .ok (.invokevirtual 82, 3) := by decide +kernel
theorem d_L_law_239 : decode code 239 = .ok (.aload_n 2, 1) := by decide +kernel
theorem d_L_law_240 : decode code 240 = .ok (.aload_n 0, 1) := by decide +kernel
theorem d_L_law_241 : decode code 241 = .ok (.iload 4, 2) := by decide +kernel
theorem d_L_law_243 : decode code 243 = .ok (.iconst 1, 1) := by decide +kernel
theorem d_L_law_244 : decode code 244 = .ok (.iadd, 1) := by decide +kernel
theorem d_L_law_245 : decode code 245 = .ok (.iaload, 1) := by decide +kernel
theorem d_L_law_246 : decode code 246 = .ok (.invokevirtual 86, 3) := by decide +kernel
theorem d_L_law_249 : decode code 249 = .ok (.if_icmp .eq 1273, 3) := by decide +kernel
theorem d_L_law_252 : decode code 252 = .ok (.iconst 0, 1) := by decide +kernel
theorem d_L_law_253 : decode code 253 = .ok (.ireturn, 1) := by decide +kernel
theorem d_L_law_254 : decode code 254 = .ok (.aload_n 1, 1) := by decide +kernel
theorem d_L_law_255 : decode code 255 = .ok (.aload_n 3, 1) := by decide +kernel
theorem d_L_law_256 : decode code 256 = .ok (.invokestatic 87, 3) := by decide +kernel
theorem d_L_law_259 : decode code 259 = .ok (.istore 5, 2) := by decide +kernel
theorem d_L_law_261 : decode code 261 = .ok (.aload_n 2, 1) := by decide +kernel
theorem d_L_law_262 : decode code 262 = .ok (.invokevirtual 92, 3) := by decide +kernel
theorem d_L_law_265 : decode code 265 = .ok (.istore 6, 2) := by decide +kernel
theorem d_L_law_267 : decode code 267 = .ok (.aload_n 2, 1) := by decide +kernel
theorem d_L_law_268 : decode code 268 = .ok (.invokevirtual 93, 3) := by decide +kernel
theorem d_L_law_271 : decode code 271 = .ok (.iload 5, 2) := by decide +kernel
theorem d_L_law_273 : decode code 273 = .ok (.if_icmp .eq 5, 3) := by decide +kernel
theorem d_L_law_276 : decode code 276 = .ok (.iconst 0, 1) := by decide +kernel
theorem d_L_law_277 : decode code 277 = .ok (.ireturn, 1) := by decide +kernel
theorem d_L_law_278 : decode code 278 = .ok (.iload 5, 2) := by decide +kernel
theorem d_L_law_280 : decode code 280 = .ok (.ifCond .ne 15, 3) := by decide +kernel
theorem d_L_law_283 : decode code 283 = .ok (.aload_n 3, 1) := by decide +kernel
theorem d_L_law_284 : decode code 284 = .ok (.iconst 0, 1) := by decide +kernel
theorem d_L_law_285 : decode code 285 = .ok (.laload, 1) := by decide +kernel
theorem d_L_law_286 : decode code 286 = .ok (.iload 6, 2) := by decide +kernel
theorem d_L_law_288 : decode code 288 = .ok (.i2l, 1) := by decide +kernel
theorem d_L_law_289 : decode code 289 = .ok (.lcmp, 1) := by decide +kernel
theorem d_L_law_290 : decode code 290 = .ok (.ifCond .eq 5, 3) := by decide +kernel
theorem d_L_law_293 : decode code 293 = .ok (.iconst 0, 1) := by decide +kernel
theorem d_L_law_294 : decode code 294 = .ok (.ireturn, 1) := by decide +kernel
theorem d_L_law_295 : decode code 295 = .ok (.goto 1227, 3) := by decide +kernel
theorem d_L_law_298 : decode code 298 = .ok (.aload_n 1, 1) := by decide +kernel
theorem d_L_law_299 : decode code 299 = .ok (.aload_n 0, 1) := by decide +kernel
theorem d_L_law_300 : decode code 300 = .ok (.iload 4, 2) := by decide +kernel
theorem d_L_law_302 : decode code 302 = .ok (.iconst 1, 1) := by decide +kernel
theorem d_L_law_303 : decode code 303 = .ok (.iadd, 1) := by decide +kernel
theorem d_L_law_304 : decode code 304 = .ok (.iaload, 1) := by decide +kernel
theorem d_L_law_305 : decode code 305 = .ok (.aload_n 0, 1) := by decide +kernel
theorem d_L_law_306 : decode code 306 = .ok (.iload 4, 2) := by decide +kernel
theorem d_L_law_308 : decode code 308 = .ok (.iconst 2, 1) := by decide +kernel
theorem d_L_law_309 : decode code 309 = .ok (.iadd, 1) := by decide +kernel
theorem d_L_law_310 : decode code 310 = .ok (.iaload, 1) := by decide +kernel
theorem d_L_law_311 : decode code 311 = .ok (.aload_n 3, 1) := by decide +kernel
theorem d_L_law_312 : decode code 312 = .ok (.invokestatic 96, 3) := by decide +kernel
theorem d_L_law_315 : decode code 315 = .ok (.istore 5, 2) := by decide +kernel
theorem d_L_law_317 : decode code 317 = .ok (.aload_n 2, 1) := by decide +kernel
theorem d_L_law_318 : decode code 318 = .ok (.aload_n 0, 1) := by decide +kernel
theorem d_L_law_319 : decode code 319 = .ok (.iload 4, 2) := by decide +kernel
theorem d_L_law_321 : decode code 321 = .ok (.iconst 1, 1) := by decide +kernel
theorem d_L_law_322 : decode code 322 = .ok (.iadd, 1) := by decide +kernel
theorem d_L_law_323 : decode code 323 = .ok (.iaload, 1) := by decide +kernel
theorem d_L_law_324 : decode code 324 = .ok (.aload_n 0, 1) := by decide +kernel
theorem d_L_law_325 : decode code 325 = .ok (.iload 4, 2) := by decide +kernel
theorem d_L_law_327 : decode code 327 = .ok (.iconst 2, 1) := by decide +kernel
theorem d_L_law_328 : decode code 328 = .ok (.iadd, 1) := by decide +kernel
theorem d_L_law_329 : decode code 329 = .ok (.iaload, 1) := by decide +kernel
theorem d_L_law_330 : decode code 330 = .ok (.invokevirtual 99, 3) := by decide +kernel
theorem d_L_law_333 : decode code 333 = .ok (.istore 6, 2) := by decide +kernel
theorem d_L_law_335 : decode code 335 = .ok (.aload_n 2, 1) := by decide +kernel
theorem d_L_law_336 : decode code 336 = .ok (.invokevirtual 93, 3) := by decide +kernel
theorem d_L_law_339 : decode code 339 = .ok (.iload 5, 2) := by decide +kernel
theorem d_L_law_341 : decode code 341 = .ok (.if_icmp .eq 5, 3) := by decide +kernel
theorem d_L_law_344 : decode code 344 = .ok (.iconst 0, 1) := by decide +kernel
theorem d_L_law_345 : decode code 345 = .ok (.ireturn, 1) := by decide +kernel
theorem d_L_law_346 : decode code 346 = .ok (.iload 5, 2) := by decide +kernel
theorem d_L_law_348 : decode code 348 = .ok (.ifCond .ne 15, 3) := by decide +kernel
theorem d_L_law_351 : decode code 351 = .ok (.aload_n 3, 1) := by decide +kernel
theorem d_L_law_352 : decode code 352 = .ok (.iconst 0, 1) := by decide +kernel
theorem d_L_law_353 : decode code 353 = .ok (.laload, 1) := by decide +kernel
theorem d_L_law_354 : decode code 354 = .ok (.iload 6, 2) := by decide +kernel
theorem d_L_law_356 : decode code 356 = .ok (.i2l, 1) := by decide +kernel
theorem d_L_law_357 : decode code 357 = .ok (.lcmp, 1) := by decide +kernel
theorem d_L_law_358 : decode code 358 = .ok (.ifCond .eq 5, 3) := by decide +kernel
theorem d_L_law_361 : decode code 361 = .ok (.iconst 0, 1) := by decide +kernel
theorem d_L_law_362 : decode code 362 = .ok (.ireturn, 1) := by decide +kernel
theorem d_L_law_363 : decode code 363 = .ok (.goto 1159, 3) := by decide +kernel
theorem d_L_law_366 : decode code 366 = .ok (.aload_n 1, 1) := by decide +kernel
theorem d_L_law_367 : decode code 367 = .ok (.invokevirtual 100, 3) := by decide +kernel
theorem d_L_law_370 : decode code 370 = .ok (.aload_n 2, 1) := by decide +kernel
theorem d_L_law_371 : decode code 371 = .ok (.invokevirtual 103, 3) := by decide +kernel
theorem d_L_law_374 : decode code 374 = .ok (.if_icmp .eq 1148, 3) := by decide +kernel
theorem d_L_law_377 : decode code 377 = .ok (.iconst 0, 1) := by decide +kernel
theorem d_L_law_378 : decode code 378 = .ok (.ireturn, 1) := by decide +kernel
theorem d_L_law_379 : decode code 379 = .ok (.aload_n 1, 1) := by decide +kernel
theorem d_L_law_380 : decode code 380 = .ok (.aload_n 0, 1) := by decide +kernel
theorem d_L_law_381 : decode code 381 = .ok (.iload 4, 2) := by decide +kernel
theorem d_L_law_383 : decode code 383 = .ok (.iconst 1, 1) := by decide +kernel
theorem d_L_law_384 : decode code 384 = .ok (.iadd, 1) := by decide +kernel
theorem d_L_law_385 : decode code 385 = .ok (.iaload, 1) := by decide +kernel
theorem d_L_law_386 : decode code 386 = .ok (.aload_n 3, 1) := by decide +kernel
theorem d_L_law_387 : decode code 387 = .ok (.invokestatic 104, 3) := by decide +kernel
theorem d_L_law_390 : decode code 390 = .ok (.istore 5, 2) := by decide +kernel
theorem d_L_law_392 : decode code 392 = .ok (.aload_n 2, 1) := by decide +kernel
theorem d_L_law_393 : decode code 393 = .ok (.aload_n 0, 1) := by decide +kernel
theorem d_L_law_394 : decode code 394 = .ok (.iload 4, 2) := by decide +kernel
theorem d_L_law_396 : decode code 396 = .ok (.iconst 1, 1) := by decide +kernel
theorem d_L_law_397 : decode code 397 = .ok (.iadd, 1) := by decide +kernel
theorem d_L_law_398 : decode code 398 = .ok (.iaload, 1) := by decide +kernel
theorem d_L_law_399 : decode code 399 = .ok (.invokevirtual 107, 3) := by decide +kernel
theorem d_L_law_402 : decode code 402 = .ok (.istore 6, 2) := by decide +kernel
theorem d_L_law_404 : decode code 404 = .ok (.aload_n 2, 1) := by decide +kernel
theorem d_L_law_405 : decode code 405 = .ok (.invokevirtual 93, 3) := by decide +kernel
theorem d_L_law_408 : decode code 408 = .ok (.iload 5, 2) := by decide +kernel
theorem d_L_law_410 : decode code 410 = .ok (.if_icmp .eq 5, 3) := by decide +kernel
theorem d_L_law_413 : decode code 413 = .ok (.iconst 0, 1) := by decide +kernel
theorem d_L_law_414 : decode code 414 = .ok (.ireturn, 1) := by decide +kernel
theorem d_L_law_415 : decode code 415 = .ok (.iload 5, 2) := by decide +kernel
theorem d_L_law_417 : decode code 417 = .ok (.ifCond .ne 15, 3) := by decide +kernel
theorem d_L_law_420 : decode code 420 = .ok (.aload_n 3, 1) := by decide +kernel
theorem d_L_law_421 : decode code 421 = .ok (.iconst 0, 1) := by decide +kernel
theorem d_L_law_422 : decode code 422 = .ok (.laload, 1) := by decide +kernel
theorem d_L_law_423 : decode code 423 = .ok (.iload 6, 2) := by decide +kernel
theorem d_L_law_425 : decode code 425 = .ok (.i2l, 1) := by decide +kernel
theorem d_L_law_426 : decode code 426 = .ok (.lcmp, 1) := by decide +kernel
theorem d_L_law_427 : decode code 427 = .ok (.ifCond .eq 5, 3) := by decide +kernel
theorem d_L_law_430 : decode code 430 = .ok (.iconst 0, 1) := by decide +kernel
theorem d_L_law_431 : decode code 431 = .ok (.ireturn, 1) := by decide +kernel
theorem d_L_law_432 : decode code 432 = .ok (.goto 1090, 3) := by decide +kernel
theorem d_L_law_435 : decode code 435 = .ok (.aload_n 1, 1) := by decide +kernel
theorem d_L_law_436 : decode code 436 = .ok (.aload_n 0, 1) := by decide +kernel
theorem d_L_law_437 : decode code 437 = .ok (.iload 4, 2) := by decide +kernel
theorem d_L_law_439 : decode code 439 = .ok (.iconst 1, 1) := by decide +kernel
theorem d_L_law_440 : decode code 440 = .ok (.iadd, 1) := by decide +kernel
theorem d_L_law_441 : decode code 441 = .ok (.iaload, 1) := by decide +kernel
theorem d_L_law_442 : decode code 442 = .ok (.aload_n 3, 1) := by decide +kernel
theorem d_L_law_443 : decode code 443 = .ok (.invokestatic 108, 3) := by decide +kernel
theorem d_L_law_446 : decode code 446 = .ok (.istore 5, 2) := by decide +kernel
theorem d_L_law_448 : decode code 448 = .ok (.aload_n 2, 1) := by decide +kernel
theorem d_L_law_449 : decode code 449 = .ok (.aload_n 0, 1) := by decide +kernel
theorem d_L_law_450 : decode code 450 = .ok (.iload 4, 2) := by decide +kernel
theorem d_L_law_452 : decode code 452 = .ok (.iconst 1, 1) := by decide +kernel
theorem d_L_law_453 : decode code 453 = .ok (.iadd, 1) := by decide +kernel
theorem d_L_law_454 : decode code 454 = .ok (.iaload, 1) := by decide +kernel
theorem d_L_law_455 : decode code 455 = .ok (.invokevirtual 110, 3) := by decide +kernel
theorem d_L_law_458 : decode code 458 = .ok (.istore 6, 2) := by decide +kernel
theorem d_L_law_460 : decode code 460 = .ok (.aload_n 2, 1) := by decide +kernel
theorem d_L_law_461 : decode code 461 = .ok (.invokevirtual 93, 3) := by decide +kernel
theorem d_L_law_464 : decode code 464 = .ok (.iload 5, 2) := by decide +kernel
theorem d_L_law_466 : decode code 466 = .ok (.if_icmp .eq 5, 3) := by decide +kernel
theorem d_L_law_469 : decode code 469 = .ok (.iconst 0, 1) := by decide +kernel
theorem d_L_law_470 : decode code 470 = .ok (.ireturn, 1) := by decide +kernel
theorem d_L_law_471 : decode code 471 = .ok (.iload 5, 2) := by decide +kernel
theorem d_L_law_473 : decode code 473 = .ok (.ifCond .ne 15, 3) := by decide +kernel
theorem d_L_law_476 : decode code 476 = .ok (.aload_n 3, 1) := by decide +kernel
theorem d_L_law_477 : decode code 477 = .ok (.iconst 0, 1) := by decide +kernel
theorem d_L_law_478 : decode code 478 = .ok (.laload, 1) := by decide +kernel
theorem d_L_law_479 : decode code 479 = .ok (.iload 6, 2) := by decide +kernel
theorem d_L_law_481 : decode code 481 = .ok (.i2l, 1) := by decide +kernel
theorem d_L_law_482 : decode code 482 = .ok (.lcmp, 1) := by decide +kernel
theorem d_L_law_483 : decode code 483 = .ok (.ifCond .eq 5, 3) := by decide +kernel
theorem d_L_law_486 : decode code 486 = .ok (.iconst 0, 1) := by decide +kernel
theorem d_L_law_487 : decode code 487 = .ok (.ireturn, 1) := by decide +kernel
theorem d_L_law_488 : decode code 488 = .ok (.goto 1034, 3) := by decide +kernel
theorem d_L_law_491 : decode code 491 = .ok (.aload_n 1, 1) := by decide +kernel
theorem d_L_law_492 : decode code 492 = .ok (.aload_n 0, 1) := by decide +kernel
theorem d_L_law_493 : decode code 493 = .ok (.iload 4, 2) := by decide +kernel
theorem d_L_law_495 : decode code 495 = .ok (.iconst 1, 1) := by decide +kernel
theorem d_L_law_496 : decode code 496 = .ok (.iadd, 1) := by decide +kernel
theorem d_L_law_497 : decode code 497 = .ok (.iaload, 1) := by decide +kernel
theorem d_L_law_498 : decode code 498 = .ok (.aload_n 3, 1) := by decide +kernel
theorem d_L_law_499 : decode code 499 = .ok (.invokestatic 111, 3) := by decide +kernel
theorem d_L_law_502 : decode code 502 = .ok (.istore 5, 2) := by decide +kernel
theorem d_L_law_504 : decode code 504 = .ok (.aload_n 2, 1) := by decide +kernel
theorem d_L_law_505 : decode code 505 = .ok (.aload_n 0, 1) := by decide +kernel
theorem d_L_law_506 : decode code 506 = .ok (.iload 4, 2) := by decide +kernel
theorem d_L_law_508 : decode code 508 = .ok (.iconst 1, 1) := by decide +kernel
theorem d_L_law_509 : decode code 509 = .ok (.iadd, 1) := by decide +kernel
theorem d_L_law_510 : decode code 510 = .ok (.iaload, 1) := by decide +kernel
theorem d_L_law_511 : decode code 511 = .ok (.invokevirtual 113, 3) := by decide +kernel
theorem d_L_law_514 : decode code 514 = .ok (.istore 6, 2) := by decide +kernel
theorem d_L_law_516 : decode code 516 = .ok (.aload_n 2, 1) := by decide +kernel
theorem d_L_law_517 : decode code 517 = .ok (.invokevirtual 93, 3) := by decide +kernel
theorem d_L_law_520 : decode code 520 = .ok (.iload 5, 2) := by decide +kernel
theorem d_L_law_522 : decode code 522 = .ok (.if_icmp .eq 5, 3) := by decide +kernel
theorem d_L_law_525 : decode code 525 = .ok (.iconst 0, 1) := by decide +kernel
theorem d_L_law_526 : decode code 526 = .ok (.ireturn, 1) := by decide +kernel
theorem d_L_law_527 : decode code 527 = .ok (.iload 5, 2) := by decide +kernel
theorem d_L_law_529 : decode code 529 = .ok (.ifCond .ne 15, 3) := by decide +kernel
theorem d_L_law_532 : decode code 532 = .ok (.aload_n 3, 1) := by decide +kernel
theorem d_L_law_533 : decode code 533 = .ok (.iconst 0, 1) := by decide +kernel
theorem d_L_law_534 : decode code 534 = .ok (.laload, 1) := by decide +kernel
theorem d_L_law_535 : decode code 535 = .ok (.iload 6, 2) := by decide +kernel
theorem d_L_law_537 : decode code 537 = .ok (.i2l, 1) := by decide +kernel
theorem d_L_law_538 : decode code 538 = .ok (.lcmp, 1) := by decide +kernel
theorem d_L_law_539 : decode code 539 = .ok (.ifCond .eq 5, 3) := by decide +kernel
theorem d_L_law_542 : decode code 542 = .ok (.iconst 0, 1) := by decide +kernel
theorem d_L_law_543 : decode code 543 = .ok (.ireturn, 1) := by decide +kernel
theorem d_L_law_544 : decode code 544 = .ok (.goto 978, 3) := by decide +kernel
theorem d_L_law_547 : decode code 547 = .ok (.aload_n 1, 1) := by decide +kernel
theorem d_L_law_548 : decode code 548 = .ok (.aload_n 0, 1) := by decide +kernel
theorem d_L_law_549 : decode code 549 = .ok (.iload 4, 2) := by decide +kernel
theorem d_L_law_551 : decode code 551 = .ok (.iconst 1, 1) := by decide +kernel
theorem d_L_law_552 : decode code 552 = .ok (.iadd, 1) := by decide +kernel
theorem d_L_law_553 : decode code 553 = .ok (.iaload, 1) := by decide +kernel
theorem d_L_law_554 : decode code 554 = .ok (.aload_n 0, 1) := by decide +kernel
theorem d_L_law_555 : decode code 555 = .ok (.iload 4, 2) := by decide +kernel
theorem d_L_law_557 : decode code 557 = .ok (.iconst 2, 1) := by decide +kernel
theorem d_L_law_558 : decode code 558 = .ok (.iadd, 1) := by decide +kernel
theorem d_L_law_559 : decode code 559 = .ok (.iaload, 1) := by decide +kernel
theorem d_L_law_560 : decode code 560 = .ok (.aload_n 3, 1) := by decide +kernel
theorem d_L_law_561 : decode code 561 = .ok (.invokestatic 114, 3) := by decide +kernel
theorem d_L_law_564 : decode code 564 = .ok (.istore 5, 2) := by decide +kernel
theorem d_L_law_566 : decode code 566 = .ok (.aload_n 2, 1) := by decide +kernel
theorem d_L_law_567 : decode code 567 = .ok (.aload_n 0, 1) := by decide +kernel
theorem d_L_law_568 : decode code 568 = .ok (.iload 4, 2) := by decide +kernel
theorem d_L_law_570 : decode code 570 = .ok (.iconst 1, 1) := by decide +kernel
theorem d_L_law_571 : decode code 571 = .ok (.iadd, 1) := by decide +kernel
theorem d_L_law_572 : decode code 572 = .ok (.iaload, 1) := by decide +kernel
theorem d_L_law_573 : decode code 573 = .ok (.aload_n 0, 1) := by decide +kernel
theorem d_L_law_574 : decode code 574 = .ok (.iload 4, 2) := by decide +kernel
theorem d_L_law_576 : decode code 576 = .ok (.iconst 2, 1) := by decide +kernel
theorem d_L_law_577 : decode code 577 = .ok (.iadd, 1) := by decide +kernel
theorem d_L_law_578 : decode code 578 = .ok (.iaload, 1) := by decide +kernel
theorem d_L_law_579 : decode code 579 = .ok (.invokevirtual 116, 3) := by decide +kernel
theorem d_L_law_582 : decode code 582 = .ok (.istore 6, 2) := by decide +kernel
theorem d_L_law_584 : decode code 584 = .ok (.aload_n 2, 1) := by decide +kernel
theorem d_L_law_585 : decode code 585 = .ok (.invokevirtual 93, 3) := by decide +kernel
theorem d_L_law_588 : decode code 588 = .ok (.iload 5, 2) := by decide +kernel
theorem d_L_law_590 : decode code 590 = .ok (.if_icmp .eq 5, 3) := by decide +kernel
theorem d_L_law_593 : decode code 593 = .ok (.iconst 0, 1) := by decide +kernel
theorem d_L_law_594 : decode code 594 = .ok (.ireturn, 1) := by decide +kernel
theorem d_L_law_595 : decode code 595 = .ok (.iload 5, 2) := by decide +kernel
theorem d_L_law_597 : decode code 597 = .ok (.ifCond .ne 15, 3) := by decide +kernel
theorem d_L_law_600 : decode code 600 = .ok (.aload_n 3, 1) := by decide +kernel
theorem d_L_law_601 : decode code 601 = .ok (.iconst 0, 1) := by decide +kernel
theorem d_L_law_602 : decode code 602 = .ok (.laload, 1) := by decide +kernel
theorem d_L_law_603 : decode code 603 = .ok (.iload 6, 2) := by decide +kernel
theorem d_L_law_605 : decode code 605 = .ok (.i2l, 1) := by decide +kernel
theorem d_L_law_606 : decode code 606 = .ok (.lcmp, 1) := by decide +kernel
theorem d_L_law_607 : decode code 607 = .ok (.ifCond .eq 5, 3) := by decide +kernel
theorem d_L_law_610 : decode code 610 = .ok (.iconst 0, 1) := by decide +kernel
theorem d_L_law_611 : decode code 611 = .ok (.ireturn, 1) := by decide +kernel
theorem d_L_law_612 : decode code 612 = .ok (.goto 910, 3) := by decide +kernel
theorem d_L_law_615 : decode code 615 = .ok (.aload_n 1, 1) := by decide +kernel
theorem d_L_law_616 : decode code 616 = .ok (.aload_n 0, 1) := by decide +kernel
theorem d_L_law_617 : decode code 617 = .ok (.iload 4, 2) := by decide +kernel
theorem d_L_law_619 : decode code 619 = .ok (.iconst 1, 1) := by decide +kernel
theorem d_L_law_620 : decode code 620 = .ok (.iadd, 1) := by decide +kernel
theorem d_L_law_621 : decode code 621 = .ok (.iaload, 1) := by decide +kernel
theorem d_L_law_622 : decode code 622 = .ok (.aload_n 0, 1) := by decide +kernel
theorem d_L_law_623 : decode code 623 = .ok (.iload 4, 2) := by decide +kernel
theorem d_L_law_625 : decode code 625 = .ok (.iconst 2, 1) := by decide +kernel
theorem d_L_law_626 : decode code 626 = .ok (.iadd, 1) := by decide +kernel
theorem d_L_law_627 : decode code 627 = .ok (.iaload, 1) := by decide +kernel
theorem d_L_law_628 : decode code 628 = .ok (.aload_n 3, 1) := by decide +kernel
theorem d_L_law_629 : decode code 629 = .ok (.invokestatic 117, 3) := by decide +kernel
theorem d_L_law_632 : decode code 632 = .ok (.istore 5, 2) := by decide +kernel
theorem d_L_law_634 : decode code 634 = .ok (.aload_n 2, 1) := by decide +kernel
theorem d_L_law_635 : decode code 635 = .ok (.aload_n 0, 1) := by decide +kernel
theorem d_L_law_636 : decode code 636 = .ok (.iload 4, 2) := by decide +kernel
theorem d_L_law_638 : decode code 638 = .ok (.iconst 1, 1) := by decide +kernel
theorem d_L_law_639 : decode code 639 = .ok (.iadd, 1) := by decide +kernel
theorem d_L_law_640 : decode code 640 = .ok (.iaload, 1) := by decide +kernel
theorem d_L_law_641 : decode code 641 = .ok (.aload_n 0, 1) := by decide +kernel
theorem d_L_law_642 : decode code 642 = .ok (.iload 4, 2) := by decide +kernel
theorem d_L_law_644 : decode code 644 = .ok (.iconst 2, 1) := by decide +kernel
theorem d_L_law_645 : decode code 645 = .ok (.iadd, 1) := by decide +kernel
theorem d_L_law_646 : decode code 646 = .ok (.iaload, 1) := by decide +kernel
theorem d_L_law_647 : decode code 647 = .ok (.invokevirtual 119, 3) := by decide +kernel
theorem d_L_law_650 : decode code 650 = .ok (.istore 6, 2) := by decide +kernel
theorem d_L_law_652 : decode code 652 = .ok (.aload_n 2, 1) := by decide +kernel
theorem d_L_law_653 : decode code 653 = .ok (.invokevirtual 93, 3) := by decide +kernel
theorem d_L_law_656 : decode code 656 = .ok (.iload 5, 2) := by decide +kernel
theorem d_L_law_658 : decode code 658 = .ok (.if_icmp .eq 5, 3) := by decide +kernel
theorem d_L_law_661 : decode code 661 = .ok (.iconst 0, 1) := by decide +kernel
theorem d_L_law_662 : decode code 662 = .ok (.ireturn, 1) := by decide +kernel
theorem d_L_law_663 : decode code 663 = .ok (.iload 5, 2) := by decide +kernel
theorem d_L_law_665 : decode code 665 = .ok (.ifCond .ne 15, 3) := by decide +kernel
theorem d_L_law_668 : decode code 668 = .ok (.aload_n 3, 1) := by decide +kernel
theorem d_L_law_669 : decode code 669 = .ok (.iconst 0, 1) := by decide +kernel
theorem d_L_law_670 : decode code 670 = .ok (.laload, 1) := by decide +kernel
theorem d_L_law_671 : decode code 671 = .ok (.iload 6, 2) := by decide +kernel
theorem d_L_law_673 : decode code 673 = .ok (.i2l, 1) := by decide +kernel
theorem d_L_law_674 : decode code 674 = .ok (.lcmp, 1) := by decide +kernel
theorem d_L_law_675 : decode code 675 = .ok (.ifCond .eq 5, 3) := by decide +kernel
theorem d_L_law_678 : decode code 678 = .ok (.iconst 0, 1) := by decide +kernel
theorem d_L_law_679 : decode code 679 = .ok (.ireturn, 1) := by decide +kernel
theorem d_L_law_680 : decode code 680 = .ok (.goto 842, 3) := by decide +kernel
theorem d_L_law_683 : decode code 683 = .ok (.aload_n 1, 1) := by decide +kernel
theorem d_L_law_684 : decode code 684 = .ok (.aload_n 0, 1) := by decide +kernel
theorem d_L_law_685 : decode code 685 = .ok (.iload 4, 2) := by decide +kernel
theorem d_L_law_687 : decode code 687 = .ok (.iconst 1, 1) := by decide +kernel
theorem d_L_law_688 : decode code 688 = .ok (.iadd, 1) := by decide +kernel
theorem d_L_law_689 : decode code 689 = .ok (.iaload, 1) := by decide +kernel
theorem d_L_law_690 : decode code 690 = .ok (.aload_n 0, 1) := by decide +kernel
theorem d_L_law_691 : decode code 691 = .ok (.iload 4, 2) := by decide +kernel
theorem d_L_law_693 : decode code 693 = .ok (.iconst 2, 1) := by decide +kernel
theorem d_L_law_694 : decode code 694 = .ok (.iadd, 1) := by decide +kernel
theorem d_L_law_695 : decode code 695 = .ok (.iaload, 1) := by decide +kernel
theorem d_L_law_696 : decode code 696 = .ok (.aload_n 3, 1) := by decide +kernel
theorem d_L_law_697 : decode code 697 = .ok (.invokestatic 120, 3) := by decide +kernel
theorem d_L_law_700 : decode code 700 = .ok (.istore 5, 2) := by decide +kernel
theorem d_L_law_702 : decode code 702 = .ok (.aload_n 2, 1) := by decide +kernel
theorem d_L_law_703 : decode code 703 = .ok (.aload_n 0, 1) := by decide +kernel
theorem d_L_law_704 : decode code 704 = .ok (.iload 4, 2) := by decide +kernel
theorem d_L_law_706 : decode code 706 = .ok (.iconst 1, 1) := by decide +kernel
theorem d_L_law_707 : decode code 707 = .ok (.iadd, 1) := by decide +kernel
theorem d_L_law_708 : decode code 708 = .ok (.iaload, 1) := by decide +kernel
theorem d_L_law_709 : decode code 709 = .ok (.aload_n 0, 1) := by decide +kernel
theorem d_L_law_710 : decode code 710 = .ok (.iload 4, 2) := by decide +kernel
theorem d_L_law_712 : decode code 712 = .ok (.iconst 2, 1) := by decide +kernel
theorem d_L_law_713 : decode code 713 = .ok (.iadd, 1) := by decide +kernel
theorem d_L_law_714 : decode code 714 = .ok (.iaload, 1) := by decide +kernel
theorem d_L_law_715 : decode code 715 = .ok (.invokevirtual 122, 3) := by decide +kernel
theorem d_L_law_718 : decode code 718 = .ok (.istore 6, 2) := by decide +kernel
theorem d_L_law_720 : decode code 720 = .ok (.aload_n 2, 1) := by decide +kernel
theorem d_L_law_721 : decode code 721 = .ok (.invokevirtual 93, 3) := by decide +kernel
theorem d_L_law_724 : decode code 724 = .ok (.iload 5, 2) := by decide +kernel
theorem d_L_law_726 : decode code 726 = .ok (.if_icmp .eq 5, 3) := by decide +kernel
theorem d_L_law_729 : decode code 729 = .ok (.iconst 0, 1) := by decide +kernel
theorem d_L_law_730 : decode code 730 = .ok (.ireturn, 1) := by decide +kernel
theorem d_L_law_731 : decode code 731 = .ok (.iload 5, 2) := by decide +kernel
theorem d_L_law_733 : decode code 733 = .ok (.ifCond .ne 15, 3) := by decide +kernel
theorem d_L_law_736 : decode code 736 = .ok (.aload_n 3, 1) := by decide +kernel
theorem d_L_law_737 : decode code 737 = .ok (.iconst 0, 1) := by decide +kernel
theorem d_L_law_738 : decode code 738 = .ok (.laload, 1) := by decide +kernel
theorem d_L_law_739 : decode code 739 = .ok (.iload 6, 2) := by decide +kernel
theorem d_L_law_741 : decode code 741 = .ok (.i2l, 1) := by decide +kernel
theorem d_L_law_742 : decode code 742 = .ok (.lcmp, 1) := by decide +kernel
theorem d_L_law_743 : decode code 743 = .ok (.ifCond .eq 5, 3) := by decide +kernel
theorem d_L_law_746 : decode code 746 = .ok (.iconst 0, 1) := by decide +kernel
theorem d_L_law_747 : decode code 747 = .ok (.ireturn, 1) := by decide +kernel
theorem d_L_law_748 : decode code 748 = .ok (.goto 774, 3) := by decide +kernel
theorem d_L_law_751 : decode code 751 = .ok (.aload_n 1, 1) := by decide +kernel
theorem d_L_law_752 : decode code 752 = .ok (.aload_n 0, 1) := by decide +kernel
theorem d_L_law_753 : decode code 753 = .ok (.iload 4, 2) := by decide +kernel
theorem d_L_law_755 : decode code 755 = .ok (.iconst 1, 1) := by decide +kernel
theorem d_L_law_756 : decode code 756 = .ok (.iadd, 1) := by decide +kernel
theorem d_L_law_757 : decode code 757 = .ok (.iaload, 1) := by decide +kernel
theorem d_L_law_758 : decode code 758 = .ok (.invokevirtual 123, 3) := by decide +kernel
theorem d_L_law_761 : decode code 761 = .ok (.aload_n 2, 1) := by decide +kernel
theorem d_L_law_762 : decode code 762 = .ok (.aload_n 0, 1) := by decide +kernel
theorem d_L_law_763 : decode code 763 = .ok (.iload 4, 2) := by decide +kernel
theorem d_L_law_765 : decode code 765 = .ok (.iconst 1, 1) := by decide +kernel
theorem d_L_law_766 : decode code 766 = .ok (.iadd, 1) := by decide +kernel
theorem d_L_law_767 : decode code 767 = .ok (.iaload, 1) := by decide +kernel
theorem d_L_law_768 : decode code 768 = .ok (.invokevirtual 126, 3) := by decide +kernel
theorem d_L_law_771 : decode code 771 = .ok (.if_icmp .eq 751, 3) := by decide +kernel
theorem d_L_law_774 : decode code 774 = .ok (.iconst 0, 1) := by decide +kernel
theorem d_L_law_775 : decode code 775 = .ok (.ireturn, 1) := by decide +kernel
theorem d_L_law_776 : decode code 776 = .ok (.aload_n 1, 1) := by decide +kernel
theorem d_L_law_777 : decode code 777 = .ok (.aload_n 0, 1) := by decide +kernel
theorem d_L_law_778 : decode code 778 = .ok (.iload 4, 2) := by decide +kernel
theorem d_L_law_780 : decode code 780 = .ok (.iconst 1, 1) := by decide +kernel
theorem d_L_law_781 : decode code 781 = .ok (.iadd, 1) := by decide +kernel
theorem d_L_law_782 : decode code 782 = .ok (.iaload, 1) := by decide +kernel
theorem d_L_law_783 : decode code 783 = .ok (.aload_n 0, 1) := by decide +kernel
theorem d_L_law_784 : decode code 784 = .ok (.iload 4, 2) := by decide +kernel
theorem d_L_law_786 : decode code 786 = .ok (.iconst 2, 1) := by decide +kernel
theorem d_L_law_787 : decode code 787 = .ok (.iadd, 1) := by decide +kernel
theorem d_L_law_788 : decode code 788 = .ok (.iaload, 1) := by decide +kernel
theorem d_L_law_789 : decode code 789 = .ok (.aload_n 0, 1) := by decide +kernel
theorem d_L_law_790 : decode code 790 = .ok (.iload 4, 2) := by decide +kernel
theorem d_L_law_792 : decode code 792 = .ok (.iconst 3, 1) := by decide +kernel
theorem d_L_law_793 : decode code 793 = .ok (.iadd, 1) := by decide +kernel
theorem d_L_law_794 : decode code 794 = .ok (.iaload, 1) := by decide +kernel
theorem d_L_law_795 : decode code 795 = .ok (.aload_n 0, 1) := by decide +kernel
theorem d_L_law_796 : decode code 796 = .ok (.iload 4, 2) := by decide +kernel
theorem d_L_law_798 : decode code 798 = .ok (.iconst 4, 1) := by decide +kernel
theorem d_L_law_799 : decode code 799 = .ok (.iadd, 1) := by decide +kernel
theorem d_L_law_800 : decode code 800 = .ok (.iaload, 1) := by decide +kernel
theorem d_L_law_801 : decode code 801 = .ok (.aload_n 3, 1) := by decide +kernel
theorem d_L_law_802 : decode code 802 = .ok (.invokestatic 127, 3) := by decide +kernel
theorem d_L_law_805 : decode code 805 = .ok (.istore 5, 2) := by decide +kernel
theorem d_L_law_807 : decode code 807 = .ok (.aload_n 2, 1) := by decide +kernel
theorem d_L_law_808 : decode code 808 = .ok (.aload_n 0, 1) := by decide +kernel
theorem d_L_law_809 : decode code 809 = .ok (.iload 4, 2) := by decide +kernel
theorem d_L_law_811 : decode code 811 = .ok (.iconst 1, 1) := by decide +kernel
theorem d_L_law_812 : decode code 812 = .ok (.iadd, 1) := by decide +kernel
theorem d_L_law_813 : decode code 813 = .ok (.iaload, 1) := by decide +kernel
theorem d_L_law_814 : decode code 814 = .ok (.aload_n 0, 1) := by decide +kernel
theorem d_L_law_815 : decode code 815 = .ok (.iload 4, 2) := by decide +kernel
theorem d_L_law_817 : decode code 817 = .ok (.iconst 2, 1) := by decide +kernel
theorem d_L_law_818 : decode code 818 = .ok (.iadd, 1) := by decide +kernel
theorem d_L_law_819 : decode code 819 = .ok (.iaload, 1) := by decide +kernel
theorem d_L_law_820 : decode code 820 = .ok (.aload_n 0, 1) := by decide +kernel
theorem d_L_law_821 : decode code 821 = .ok (.iload 4, 2) := by decide +kernel
theorem d_L_law_823 : decode code 823 = .ok (.iconst 3, 1) := by decide +kernel
theorem d_L_law_824 : decode code 824 = .ok (.iadd, 1) := by decide +kernel
theorem d_L_law_825 : decode code 825 = .ok (.iaload, 1) := by decide +kernel
theorem d_L_law_826 : decode code 826 = .ok (.aload_n 0, 1) := by decide +kernel
theorem d_L_law_827 : decode code 827 = .ok (.iload 4, 2) := by decide +kernel
theorem d_L_law_829 : decode code 829 = .ok (.iconst 4, 1) := by decide +kernel
theorem d_L_law_830 : decode code 830 = .ok (.iadd, 1) := by decide +kernel
theorem d_L_law_831 : decode code 831 = .ok (.iaload, 1) := by decide +kernel
theorem d_L_law_832 : decode code 832 = .ok (.invokevirtual 130, 3) := by decide +kernel
theorem d_L_law_835 : decode code 835 = .ok (.istore 6, 2) := by decide +kernel
theorem d_L_law_837 : decode code 837 = .ok (.aload_n 2, 1) := by decide +kernel
theorem d_L_law_838 : decode code 838 = .ok (.invokevirtual 93, 3) := by decide +kernel
theorem d_L_law_841 : decode code 841 = .ok (.iload 5, 2) := by decide +kernel
theorem d_L_law_843 : decode code 843 = .ok (.if_icmp .eq 5, 3) := by decide +kernel
theorem d_L_law_846 : decode code 846 = .ok (.iconst 0, 1) := by decide +kernel
theorem d_L_law_847 : decode code 847 = .ok (.ireturn, 1) := by decide +kernel
theorem d_L_law_848 : decode code 848 = .ok (.iload 5, 2) := by decide +kernel
theorem d_L_law_850 : decode code 850 = .ok (.ifCond .ne 15, 3) := by decide +kernel
theorem d_L_law_853 : decode code 853 = .ok (.aload_n 3, 1) := by decide +kernel
theorem d_L_law_854 : decode code 854 = .ok (.iconst 0, 1) := by decide +kernel
theorem d_L_law_855 : decode code 855 = .ok (.laload, 1) := by decide +kernel
theorem d_L_law_856 : decode code 856 = .ok (.iload 6, 2) := by decide +kernel
theorem d_L_law_858 : decode code 858 = .ok (.i2l, 1) := by decide +kernel
theorem d_L_law_859 : decode code 859 = .ok (.lcmp, 1) := by decide +kernel
theorem d_L_law_860 : decode code 860 = .ok (.ifCond .eq 5, 3) := by decide +kernel
theorem d_L_law_863 : decode code 863 = .ok (.iconst 0, 1) := by decide +kernel
theorem d_L_law_864 : decode code 864 = .ok (.ireturn, 1) := by decide +kernel
theorem d_L_law_865 : decode code 865 = .ok (.goto 657, 3) := by decide +kernel
theorem d_L_law_868 : decode code 868 = .ok (.aload_n 1, 1) := by decide +kernel
theorem d_L_law_869 : decode code 869 = .ok (.aload_n 0, 1) := by decide +kernel
theorem d_L_law_870 : decode code 870 = .ok (.iload 4, 2) := by decide +kernel
theorem d_L_law_872 : decode code 872 = .ok (.iconst 1, 1) := by decide +kernel
theorem d_L_law_873 : decode code 873 = .ok (.iadd, 1) := by decide +kernel
theorem d_L_law_874 : decode code 874 = .ok (.iaload, 1) := by decide +kernel
theorem d_L_law_875 : decode code 875 = .ok (.aload_n 0, 1) := by decide +kernel
theorem d_L_law_876 : decode code 876 = .ok (.iload 4, 2) := by decide +kernel
theorem d_L_law_878 : decode code 878 = .ok (.iconst 2, 1) := by decide +kernel
theorem d_L_law_879 : decode code 879 = .ok (.iadd, 1) := by decide +kernel
theorem d_L_law_880 : decode code 880 = .ok (.iaload, 1) := by decide +kernel
theorem d_L_law_881 : decode code 881 = .ok (.aload_n 0, 1) := by decide +kernel
theorem d_L_law_882 : decode code 882 = .ok (.iload 4, 2) := by decide +kernel
theorem d_L_law_884 : decode code 884 = .ok (.iconst 3, 1) := by decide +kernel
theorem d_L_law_885 : decode code 885 = .ok (.iadd, 1) := by decide +kernel
theorem d_L_law_886 : decode code 886 = .ok (.iaload, 1) := by decide +kernel
theorem d_L_law_887 : decode code 887 = .ok (.aload_n 0, 1) := by decide +kernel
theorem d_L_law_888 : decode code 888 = .ok (.iload 4, 2) := by decide +kernel
theorem d_L_law_890 : decode code 890 = .ok (.iconst 4, 1) := by decide +kernel
theorem d_L_law_891 : decode code 891 = .ok (.iadd, 1) := by decide +kernel
theorem d_L_law_892 : decode code 892 = .ok (.iaload, 1) := by decide +kernel
theorem d_L_law_893 : decode code 893 = .ok (.aload_n 0, 1) := by decide +kernel
theorem d_L_law_894 : decode code 894 = .ok (.iload 4, 2) := by decide +kernel
theorem d_L_law_896 : decode code 896 = .ok (.iconst 5, 1) := by decide +kernel
theorem d_L_law_897 : decode code 897 = .ok (.iadd, 1) := by decide +kernel
theorem d_L_law_898 : decode code 898 = .ok (.iaload, 1) := by decide +kernel
theorem d_L_law_899 : decode code 899 = .ok (.aload_n 3, 1) := by decide +kernel
theorem d_L_law_900 : decode code 900 = .ok (.invokestatic 131, 3) := by decide +kernel
theorem d_L_law_903 : decode code 903 = .ok (.istore 5, 2) := by decide +kernel
theorem d_L_law_905 : decode code 905 = .ok (.aload_n 2, 1) := by decide +kernel
theorem d_L_law_906 : decode code 906 = .ok (.aload_n 0, 1) := by decide +kernel
theorem d_L_law_907 : decode code 907 = .ok (.iload 4, 2) := by decide +kernel
theorem d_L_law_909 : decode code 909 = .ok (.iconst 1, 1) := by decide +kernel
theorem d_L_law_910 : decode code 910 = .ok (.iadd, 1) := by decide +kernel
theorem d_L_law_911 : decode code 911 = .ok (.iaload, 1) := by decide +kernel
theorem d_L_law_912 : decode code 912 = .ok (.aload_n 0, 1) := by decide +kernel
theorem d_L_law_913 : decode code 913 = .ok (.iload 4, 2) := by decide +kernel
theorem d_L_law_915 : decode code 915 = .ok (.iconst 2, 1) := by decide +kernel
theorem d_L_law_916 : decode code 916 = .ok (.iadd, 1) := by decide +kernel
theorem d_L_law_917 : decode code 917 = .ok (.iaload, 1) := by decide +kernel
theorem d_L_law_918 : decode code 918 = .ok (.aload_n 0, 1) := by decide +kernel
theorem d_L_law_919 : decode code 919 = .ok (.iload 4, 2) := by decide +kernel
theorem d_L_law_921 : decode code 921 = .ok (.iconst 3, 1) := by decide +kernel
theorem d_L_law_922 : decode code 922 = .ok (.iadd, 1) := by decide +kernel
theorem d_L_law_923 : decode code 923 = .ok (.iaload, 1) := by decide +kernel
theorem d_L_law_924 : decode code 924 = .ok (.aload_n 0, 1) := by decide +kernel
theorem d_L_law_925 : decode code 925 = .ok (.iload 4, 2) := by decide +kernel
theorem d_L_law_927 : decode code 927 = .ok (.iconst 4, 1) := by decide +kernel
theorem d_L_law_928 : decode code 928 = .ok (.iadd, 1) := by decide +kernel
theorem d_L_law_929 : decode code 929 = .ok (.iaload, 1) := by decide +kernel
theorem d_L_law_930 : decode code 930 = .ok (.aload_n 0, 1) := by decide +kernel
theorem d_L_law_931 : decode code 931 = .ok (.iload 4, 2) := by decide +kernel
theorem d_L_law_933 : decode code 933 = .ok (.iconst 5, 1) := by decide +kernel
theorem d_L_law_934 : decode code 934 = .ok (.iadd, 1) := by decide +kernel
theorem d_L_law_935 : decode code 935 = .ok (.iaload, 1) := by decide +kernel
theorem d_L_law_936 : decode code 936 = .ok (.invokevirtual 134, 3) := by decide +kernel
theorem d_L_law_939 : decode code 939 = .ok (.istore 6, 2) := by decide +kernel
theorem d_L_law_941 : decode code 941 = .ok (.aload_n 2, 1) := by decide +kernel
theorem d_L_law_942 : decode code 942 = .ok (.invokevirtual 93, 3) := by decide +kernel
theorem d_L_law_945 : decode code 945 = .ok (.iload 5, 2) := by decide +kernel
theorem d_L_law_947 : decode code 947 = .ok (.if_icmp .eq 5, 3) := by decide +kernel
theorem d_L_law_950 : decode code 950 = .ok (.iconst 0, 1) := by decide +kernel
theorem d_L_law_951 : decode code 951 = .ok (.ireturn, 1) := by decide +kernel
theorem d_L_law_952 : decode code 952 = .ok (.iload 5, 2) := by decide +kernel
theorem d_L_law_954 : decode code 954 = .ok (.ifCond .ne 15, 3) := by decide +kernel
theorem d_L_law_957 : decode code 957 = .ok (.aload_n 3, 1) := by decide +kernel
theorem d_L_law_958 : decode code 958 = .ok (.iconst 0, 1) := by decide +kernel
theorem d_L_law_959 : decode code 959 = .ok (.laload, 1) := by decide +kernel
theorem d_L_law_960 : decode code 960 = .ok (.iload 6, 2) := by decide +kernel
theorem d_L_law_962 : decode code 962 = .ok (.i2l, 1) := by decide +kernel
theorem d_L_law_963 : decode code 963 = .ok (.lcmp, 1) := by decide +kernel
theorem d_L_law_964 : decode code 964 = .ok (.ifCond .eq 5, 3) := by decide +kernel
theorem d_L_law_967 : decode code 967 = .ok (.iconst 0, 1) := by decide +kernel
theorem d_L_law_968 : decode code 968 = .ok (.ireturn, 1) := by decide +kernel
theorem d_L_law_969 : decode code 969 = .ok (.goto 553, 3) := by decide +kernel
theorem d_L_law_972 : decode code 972 = .ok (.aload_n 1, 1) := by decide +kernel
theorem d_L_law_973 : decode code 973 = .ok (.aload_n 0, 1) := by decide +kernel
theorem d_L_law_974 : decode code 974 = .ok (.iload 4, 2) := by decide +kernel
theorem d_L_law_976 : decode code 976 = .ok (.iconst 1, 1) := by decide +kernel
theorem d_L_law_977 : decode code 977 = .ok (.iadd, 1) := by decide +kernel
theorem d_L_law_978 : decode code 978 = .ok (.iaload, 1) := by decide +kernel
theorem d_L_law_979 : decode code 979 = .ok (.aload_n 0, 1) := by decide +kernel
theorem d_L_law_980 : decode code 980 = .ok (.iload 4, 2) := by decide +kernel
theorem d_L_law_982 : decode code 982 = .ok (.iconst 2, 1) := by decide +kernel
theorem d_L_law_983 : decode code 983 = .ok (.iadd, 1) := by decide +kernel
theorem d_L_law_984 : decode code 984 = .ok (.iaload, 1) := by decide +kernel
theorem d_L_law_985 : decode code 985 = .ok (.aload_n 3, 1) := by decide +kernel
theorem d_L_law_986 : decode code 986 = .ok (.invokestatic 135, 3) := by decide +kernel
theorem d_L_law_989 : decode code 989 = .ok (.istore 5, 2) := by decide +kernel
theorem d_L_law_991 : decode code 991 = .ok (.aload_n 2, 1) := by decide +kernel
theorem d_L_law_992 : decode code 992 = .ok (.aload_n 0, 1) := by decide +kernel
theorem d_L_law_993 : decode code 993 = .ok (.iload 4, 2) := by decide +kernel
theorem d_L_law_995 : decode code 995 = .ok (.iconst 1, 1) := by decide +kernel
theorem d_L_law_996 : decode code 996 = .ok (.iadd, 1) := by decide +kernel
theorem d_L_law_997 : decode code 997 = .ok (.iaload, 1) := by decide +kernel
theorem d_L_law_998 : decode code 998 = .ok (.aload_n 0, 1) := by decide +kernel
theorem d_L_law_999 : decode code 999 = .ok (.iload 4, 2) := by decide +kernel
theorem d_L_law_1001 : decode code 1001 = .ok (.iconst 2, 1) := by decide +kernel
theorem d_L_law_1002 : decode code 1002 = .ok (.iadd, 1) := by decide +kernel
theorem d_L_law_1003 : decode code 1003 = .ok (.iaload, 1) := by decide +kernel
theorem d_L_law_1004 : decode code 1004 = .ok (.invokevirtual 137, 3) := by decide +kernel
theorem d_L_law_1007 : decode code 1007 = .ok (.istore 6, 2) := by decide +kernel
theorem d_L_law_1009 : decode code 1009 = .ok (.aload_n 2, 1) := by decide +kernel
theorem d_L_law_1010 : decode code 1010 = .ok (.invokevirtual 93, 3) := by decide +kernel
theorem d_L_law_1013 : decode code 1013 = .ok (.iload 5, 2) := by decide +kernel
theorem d_L_law_1015 : decode code 1015 = .ok (.if_icmp .eq 5, 3) := by decide +kernel
theorem d_L_law_1018 : decode code 1018 = .ok (.iconst 0, 1) := by decide +kernel
theorem d_L_law_1019 : decode code 1019 = .ok (.ireturn, 1) := by decide +kernel
theorem d_L_law_1020 : decode code 1020 = .ok (.iload 5, 2) := by decide +kernel
theorem d_L_law_1022 : decode code 1022 = .ok (.ifCond .ne 15, 3) := by decide +kernel
theorem d_L_law_1025 : decode code 1025 = .ok (.aload_n 3, 1) := by decide +kernel
theorem d_L_law_1026 : decode code 1026 = .ok (.iconst 0, 1) := by decide +kernel
theorem d_L_law_1027 : decode code 1027 = .ok (.laload, 1) := by decide +kernel
theorem d_L_law_1028 : decode code 1028 = .ok (.iload 6, 2) := by decide +kernel
theorem d_L_law_1030 : decode code 1030 = .ok (.i2l, 1) := by decide +kernel
theorem d_L_law_1031 : decode code 1031 = .ok (.lcmp, 1) := by decide +kernel
theorem d_L_law_1032 : decode code 1032 = .ok (.ifCond .eq 5, 3) := by decide +kernel
theorem d_L_law_1035 : decode code 1035 = .ok (.iconst 0, 1) := by decide +kernel
theorem d_L_law_1036 : decode code 1036 = .ok (.ireturn, 1) := by decide +kernel
theorem d_L_law_1037 : decode code 1037 = .ok (.goto 485, 3) := by decide +kernel
theorem d_L_law_1040 : decode code 1040 = .ok (.aload_n 1, 1) := by decide +kernel
theorem d_L_law_1041 : decode code 1041 = .ok (.aload_n 0, 1) := by decide +kernel
theorem d_L_law_1042 : decode code 1042 = .ok (.iload 4, 2) := by decide +kernel
theorem d_L_law_1044 : decode code 1044 = .ok (.iconst 1, 1) := by decide +kernel
theorem d_L_law_1045 : decode code 1045 = .ok (.iadd, 1) := by decide +kernel
theorem d_L_law_1046 : decode code 1046 = .ok (.iaload, 1) := by decide +kernel
theorem d_L_law_1047 : decode code 1047 = .ok (.aload_n 0, 1) := by decide +kernel
theorem d_L_law_1048 : decode code 1048 = .ok (.iload 4, 2) := by decide +kernel
theorem d_L_law_1050 : decode code 1050 = .ok (.iconst 2, 1) := by decide +kernel
theorem d_L_law_1051 : decode code 1051 = .ok (.iadd, 1) := by decide +kernel
theorem d_L_law_1052 : decode code 1052 = .ok (.iaload, 1) := by decide +kernel
theorem d_L_law_1053 : decode code 1053 = .ok (.aload_n 0, 1) := by decide +kernel
theorem d_L_law_1054 : decode code 1054 = .ok (.iload 4, 2) := by decide +kernel
theorem d_L_law_1056 : decode code 1056 = .ok (.iconst 3, 1) := by decide +kernel
theorem d_L_law_1057 : decode code 1057 = .ok (.iadd, 1) := by decide +kernel
theorem d_L_law_1058 : decode code 1058 = .ok (.iaload, 1) := by decide +kernel
theorem d_L_law_1059 : decode code 1059 = .ok (.aload_n 3, 1) := by decide +kernel
theorem d_L_law_1060 : decode code 1060 = .ok (.invokestatic 138, 3) := by decide +kernel
theorem d_L_law_1063 : decode code 1063 = .ok (.istore 5, 2) := by decide +kernel
theorem d_L_law_1065 : decode code 1065 = .ok (.aload_n 2, 1) := by decide +kernel
theorem d_L_law_1066 : decode code 1066 = .ok (.aload_n 0, 1) := by decide +kernel
theorem d_L_law_1067 : decode code 1067 = .ok (.iload 4, 2) := by decide +kernel
theorem d_L_law_1069 : decode code 1069 = .ok (.iconst 1, 1) := by decide +kernel
theorem d_L_law_1070 : decode code 1070 = .ok (.iadd, 1) := by decide +kernel
theorem d_L_law_1071 : decode code 1071 = .ok (.iaload, 1) := by decide +kernel
theorem d_L_law_1072 : decode code 1072 = .ok (.aload_n 0, 1) := by decide +kernel
theorem d_L_law_1073 : decode code 1073 = .ok (.iload 4, 2) := by decide +kernel
theorem d_L_law_1075 : decode code 1075 = .ok (.iconst 2, 1) := by decide +kernel
theorem d_L_law_1076 : decode code 1076 = .ok (.iadd, 1) := by decide +kernel
theorem d_L_law_1077 : decode code 1077 = .ok (.iaload, 1) := by decide +kernel
theorem d_L_law_1078 : decode code 1078 = .ok (.aload_n 0, 1) := by decide +kernel
theorem d_L_law_1079 : decode code 1079 = .ok (.iload 4, 2) := by decide +kernel
theorem d_L_law_1081 : decode code 1081 = .ok (.iconst 3, 1) := by decide +kernel
theorem d_L_law_1082 : decode code 1082 = .ok (.iadd, 1) := by decide +kernel
theorem d_L_law_1083 : decode code 1083 = .ok (.iaload, 1) := by decide +kernel
theorem d_L_law_1084 : decode code 1084 = .ok (.invokevirtual 141, 3) := by decide +kernel
theorem d_L_law_1087 : decode code 1087 = .ok (.istore 6, 2) := by decide +kernel
theorem d_L_law_1089 : decode code 1089 = .ok (.aload_n 2, 1) := by decide +kernel
theorem d_L_law_1090 : decode code 1090 = .ok (.invokevirtual 93, 3) := by decide +kernel
theorem d_L_law_1093 : decode code 1093 = .ok (.iload 5, 2) := by decide +kernel
theorem d_L_law_1095 : decode code 1095 = .ok (.if_icmp .eq 5, 3) := by decide +kernel
theorem d_L_law_1098 : decode code 1098 = .ok (.iconst 0, 1) := by decide +kernel
theorem d_L_law_1099 : decode code 1099 = .ok (.ireturn, 1) := by decide +kernel
theorem d_L_law_1100 : decode code 1100 = .ok (.iload 5, 2) := by decide +kernel
theorem d_L_law_1102 : decode code 1102 = .ok (.ifCond .ne 15, 3) := by decide +kernel
theorem d_L_law_1105 : decode code 1105 = .ok (.aload_n 3, 1) := by decide +kernel
theorem d_L_law_1106 : decode code 1106 = .ok (.iconst 0, 1) := by decide +kernel
theorem d_L_law_1107 : decode code 1107 = .ok (.laload, 1) := by decide +kernel
theorem d_L_law_1108 : decode code 1108 = .ok (.iload 6, 2) := by decide +kernel
theorem d_L_law_1110 : decode code 1110 = .ok (.i2l, 1) := by decide +kernel
theorem d_L_law_1111 : decode code 1111 = .ok (.lcmp, 1) := by decide +kernel
theorem d_L_law_1112 : decode code 1112 = .ok (.ifCond .eq 5, 3) := by decide +kernel
theorem d_L_law_1115 : decode code 1115 = .ok (.iconst 0, 1) := by decide +kernel
theorem d_L_law_1116 : decode code 1116 = .ok (.ireturn, 1) := by decide +kernel
theorem d_L_law_1117 : decode code 1117 = .ok (.goto 405, 3) := by decide +kernel
theorem d_L_law_1120 : decode code 1120 = .ok (.aload_n 1, 1) := by decide +kernel
theorem d_L_law_1121 : decode code 1121 = .ok (.aload_n 0, 1) := by decide +kernel
theorem d_L_law_1122 : decode code 1122 = .ok (.iload 4, 2) := by decide +kernel
theorem d_L_law_1124 : decode code 1124 = .ok (.iconst 1, 1) := by decide +kernel
theorem d_L_law_1125 : decode code 1125 = .ok (.iadd, 1) := by decide +kernel
theorem d_L_law_1126 : decode code 1126 = .ok (.iaload, 1) := by decide +kernel
theorem d_L_law_1127 : decode code 1127 = .ok (.aload_n 3, 1) := by decide +kernel
theorem d_L_law_1128 : decode code 1128 = .ok (.invokestatic 142, 3) := by decide +kernel
theorem d_L_law_1131 : decode code 1131 = .ok (.istore 5, 2) := by decide +kernel
theorem d_L_law_1133 : decode code 1133 = .ok (.aload_n 2, 1) := by decide +kernel
theorem d_L_law_1134 : decode code 1134 = .ok (.aload_n 0, 1) := by decide +kernel
theorem d_L_law_1135 : decode code 1135 = .ok (.iload 4, 2) := by decide +kernel
theorem d_L_law_1137 : decode code 1137 = .ok (.iconst 1, 1) := by decide +kernel
theorem d_L_law_1138 : decode code 1138 = .ok (.iadd, 1) := by decide +kernel
theorem d_L_law_1139 : decode code 1139 = .ok (.iaload, 1) := by decide +kernel
theorem d_L_law_1140 : decode code 1140 = .ok (.invokevirtual 144, 3) := by decide +kernel
theorem d_L_law_1143 : decode code 1143 = .ok (.istore 6, 2) := by decide +kernel
theorem d_L_law_1145 : decode code 1145 = .ok (.aload_n 2, 1) := by decide +kernel
theorem d_L_law_1146 : decode code 1146 = .ok (.invokevirtual 93, 3) := by decide +kernel
theorem d_L_law_1149 : decode code 1149 = .ok (.iload 5, 2) := by decide +kernel
theorem d_L_law_1151 : decode code 1151 = .ok (.if_icmp .eq 5, 3) := by decide +kernel
theorem d_L_law_1154 : decode code 1154 = .ok (.iconst 0, 1) := by decide +kernel
theorem d_L_law_1155 : decode code 1155 = .ok (.ireturn, 1) := by decide +kernel
theorem d_L_law_1156 : decode code 1156 = .ok (.iload 5, 2) := by decide +kernel
theorem d_L_law_1158 : decode code 1158 = .ok (.ifCond .ne 15, 3) := by decide +kernel
theorem d_L_law_1161 : decode code 1161 = .ok (.aload_n 3, 1) := by decide +kernel
theorem d_L_law_1162 : decode code 1162 = .ok (.iconst 0, 1) := by decide +kernel
theorem d_L_law_1163 : decode code 1163 = .ok (.laload, 1) := by decide +kernel
theorem d_L_law_1164 : decode code 1164 = .ok (.iload 6, 2) := by decide +kernel
theorem d_L_law_1166 : decode code 1166 = .ok (.i2l, 1) := by decide +kernel
theorem d_L_law_1167 : decode code 1167 = .ok (.lcmp, 1) := by decide +kernel
theorem d_L_law_1168 : decode code 1168 = .ok (.ifCond .eq 5, 3) := by decide +kernel
theorem d_L_law_1171 : decode code 1171 = .ok (.iconst 0, 1) := by decide +kernel
theorem d_L_law_1172 : decode code 1172 = .ok (.ireturn, 1) := by decide +kernel
theorem d_L_law_1173 : decode code 1173 = .ok (.goto 349, 3) := by decide +kernel
theorem d_L_law_1176 : decode code 1176 = .ok (.aload_n 1, 1) := by decide +kernel
theorem d_L_law_1177 : decode code 1177 = .ok (.aload_n 0, 1) := by decide +kernel
theorem d_L_law_1178 : decode code 1178 = .ok (.iload 4, 2) := by decide +kernel
theorem d_L_law_1180 : decode code 1180 = .ok (.iconst 1, 1) := by decide +kernel
theorem d_L_law_1181 : decode code 1181 = .ok (.iadd, 1) := by decide +kernel
theorem d_L_law_1182 : decode code 1182 = .ok (.iaload, 1) := by decide +kernel
theorem d_L_law_1183 : decode code 1183 = .ok (.aload_n 0, 1) := by decide +kernel
theorem d_L_law_1184 : decode code 1184 = .ok (.iload 4, 2) := by decide +kernel
theorem d_L_law_1186 : decode code 1186 = .ok (.iconst 2, 1) := by decide +kernel
theorem d_L_law_1187 : decode code 1187 = .ok (.iadd, 1) := by decide +kernel
theorem d_L_law_1188 : decode code 1188 = .ok (.iaload, 1) := by decide +kernel
theorem d_L_law_1189 : decode code 1189 = .ok (.aload_n 3, 1) := by decide +kernel
theorem d_L_law_1190 : decode code 1190 = .ok (.invokestatic 145, 3) := by decide +kernel
theorem d_L_law_1193 : decode code 1193 = .ok (.istore 5, 2) := by decide +kernel
theorem d_L_law_1195 : decode code 1195 = .ok (.aload_n 2, 1) := by decide +kernel
theorem d_L_law_1196 : decode code 1196 = .ok (.aload_n 0, 1) := by decide +kernel
theorem d_L_law_1197 : decode code 1197 = .ok (.iload 4, 2) := by decide +kernel
theorem d_L_law_1199 : decode code 1199 = .ok (.iconst 1, 1) := by decide +kernel
theorem d_L_law_1200 : decode code 1200 = .ok (.iadd, 1) := by decide +kernel
theorem d_L_law_1201 : decode code 1201 = .ok (.iaload, 1) := by decide +kernel
theorem d_L_law_1202 : decode code 1202 = .ok (.aload_n 0, 1) := by decide +kernel
theorem d_L_law_1203 : decode code 1203 = .ok (.iload 4, 2) := by decide +kernel
theorem d_L_law_1205 : decode code 1205 = .ok (.iconst 2, 1) := by decide +kernel
theorem d_L_law_1206 : decode code 1206 = .ok (.iadd, 1) := by decide +kernel
theorem d_L_law_1207 : decode code 1207 = .ok (.iaload, 1) := by decide +kernel
theorem d_L_law_1208 : decode code 1208 = .ok (.invokevirtual 147, 3) := by decide +kernel
theorem d_L_law_1211 : decode code 1211 = .ok (.istore 6, 2) := by decide +kernel
theorem d_L_law_1213 : decode code 1213 = .ok (.aload_n 2, 1) := by decide +kernel
theorem d_L_law_1214 : decode code 1214 = .ok (.invokevirtual 93, 3) := by decide +kernel
theorem d_L_law_1217 : decode code 1217 = .ok (.iload 5, 2) := by decide +kernel
theorem d_L_law_1219 : decode code 1219 = .ok (.if_icmp .eq 5, 3) := by decide +kernel
theorem d_L_law_1222 : decode code 1222 = .ok (.iconst 0, 1) := by decide +kernel
theorem d_L_law_1223 : decode code 1223 = .ok (.ireturn, 1) := by decide +kernel
theorem d_L_law_1224 : decode code 1224 = .ok (.iload 5, 2) := by decide +kernel
theorem d_L_law_1226 : decode code 1226 = .ok (.ifCond .ne 15, 3) := by decide +kernel
theorem d_L_law_1229 : decode code 1229 = .ok (.aload_n 3, 1) := by decide +kernel
theorem d_L_law_1230 : decode code 1230 = .ok (.iconst 0, 1) := by decide +kernel
theorem d_L_law_1231 : decode code 1231 = .ok (.laload, 1) := by decide +kernel
theorem d_L_law_1232 : decode code 1232 = .ok (.iload 6, 2) := by decide +kernel
theorem d_L_law_1234 : decode code 1234 = .ok (.i2l, 1) := by decide +kernel
theorem d_L_law_1235 : decode code 1235 = .ok (.lcmp, 1) := by decide +kernel
theorem d_L_law_1236 : decode code 1236 = .ok (.ifCond .eq 5, 3) := by decide +kernel
theorem d_L_law_1239 : decode code 1239 = .ok (.iconst 0, 1) := by decide +kernel
theorem d_L_law_1240 : decode code 1240 = .ok (.ireturn, 1) := by decide +kernel
theorem d_L_law_1241 : decode code 1241 = .ok (.goto 281, 3) := by decide +kernel
theorem d_L_law_1244 : decode code 1244 = .ok (.aload_n 1, 1) := by decide +kernel
theorem d_L_law_1245 : decode code 1245 = .ok (.aload_n 0, 1) := by decide +kernel
theorem d_L_law_1246 : decode code 1246 = .ok (.iload 4, 2) := by decide +kernel
theorem d_L_law_1248 : decode code 1248 = .ok (.iconst 1, 1) := by decide +kernel
theorem d_L_law_1249 : decode code 1249 = .ok (.iadd, 1) := by decide +kernel
theorem d_L_law_1250 : decode code 1250 = .ok (.iaload, 1) := by decide +kernel
theorem d_L_law_1251 : decode code 1251 = .ok (.aload_n 0, 1) := by decide +kernel
theorem d_L_law_1252 : decode code 1252 = .ok (.iload 4, 2) := by decide +kernel
theorem d_L_law_1254 : decode code 1254 = .ok (.iconst 2, 1) := by decide +kernel
theorem d_L_law_1255 : decode code 1255 = .ok (.iadd, 1) := by decide +kernel
theorem d_L_law_1256 : decode code 1256 = .ok (.iaload, 1) := by decide +kernel
theorem d_L_law_1257 : decode code 1257 = .ok (.aload_n 0, 1) := by decide +kernel
theorem d_L_law_1258 : decode code 1258 = .ok (.iload 4, 2) := by decide +kernel
theorem d_L_law_1260 : decode code 1260 = .ok (.iconst 3, 1) := by decide +kernel
theorem d_L_law_1261 : decode code 1261 = .ok (.iadd, 1) := by decide +kernel
theorem d_L_law_1262 : decode code 1262 = .ok (.iaload, 1) := by decide +kernel
theorem d_L_law_1263 : decode code 1263 = .ok (.aload_n 3, 1) := by decide +kernel
theorem d_L_law_1264 : decode code 1264 = .ok (.invokestatic 148, 3) := by decide +kernel
theorem d_L_law_1267 : decode code 1267 = .ok (.istore 5, 2) := by decide +kernel
theorem d_L_law_1269 : decode code 1269 = .ok (.aload_n 2, 1) := by decide +kernel
theorem d_L_law_1270 : decode code 1270 = .ok (.aload_n 0, 1) := by decide +kernel
theorem d_L_law_1271 : decode code 1271 = .ok (.iload 4, 2) := by decide +kernel
theorem d_L_law_1273 : decode code 1273 = .ok (.iconst 1, 1) := by decide +kernel
theorem d_L_law_1274 : decode code 1274 = .ok (.iadd, 1) := by decide +kernel
theorem d_L_law_1275 : decode code 1275 = .ok (.iaload, 1) := by decide +kernel
theorem d_L_law_1276 : decode code 1276 = .ok (.aload_n 0, 1) := by decide +kernel
theorem d_L_law_1277 : decode code 1277 = .ok (.iload 4, 2) := by decide +kernel
theorem d_L_law_1279 : decode code 1279 = .ok (.iconst 2, 1) := by decide +kernel
theorem d_L_law_1280 : decode code 1280 = .ok (.iadd, 1) := by decide +kernel
theorem d_L_law_1281 : decode code 1281 = .ok (.iaload, 1) := by decide +kernel
theorem d_L_law_1282 : decode code 1282 = .ok (.aload_n 0, 1) := by decide +kernel
theorem d_L_law_1283 : decode code 1283 = .ok (.iload 4, 2) := by decide +kernel
theorem d_L_law_1285 : decode code 1285 = .ok (.iconst 3, 1) := by decide +kernel
theorem d_L_law_1286 : decode code 1286 = .ok (.iadd, 1) := by decide +kernel
theorem d_L_law_1287 : decode code 1287 = .ok (.iaload, 1) := by decide +kernel
theorem d_L_law_1288 : decode code 1288 = .ok (.invokevirtual 150, 3) := by decide +kernel
theorem d_L_law_1291 : decode code 1291 = .ok (.istore 6, 2) := by decide +kernel
theorem d_L_law_1293 : decode code 1293 = .ok (.aload_n 2, 1) := by decide +kernel
theorem d_L_law_1294 : decode code 1294 = .ok (.invokevirtual 93, 3) := by decide +kernel
theorem d_L_law_1297 : decode code 1297 = .ok (.iload 5, 2) := by decide +kernel
theorem d_L_law_1299 : decode code 1299 = .ok (.if_icmp .eq 5, 3) := by decide +kernel
theorem d_L_law_1302 : decode code 1302 = .ok (.iconst 0, 1) := by decide +kernel
theorem d_L_law_1303 : decode code 1303 = .ok (.ireturn, 1) := by decide +kernel
theorem d_L_law_1304 : decode code 1304 = .ok (.iload 5, 2) := by decide +kernel
theorem d_L_law_1306 : decode code 1306 = .ok (.ifCond .ne 15, 3) := by decide +kernel
theorem d_L_law_1309 : decode code 1309 = .ok (.aload_n 3, 1) := by decide +kernel
theorem d_L_law_1310 : decode code 1310 = .ok (.iconst 0, 1) := by decide +kernel
theorem d_L_law_1311 : decode code 1311 = .ok (.laload, 1) := by decide +kernel
theorem d_L_law_1312 : decode code 1312 = .ok (.iload 6, 2) := by decide +kernel
theorem d_L_law_1314 : decode code 1314 = .ok (.i2l, 1) := by decide +kernel
theorem d_L_law_1315 : decode code 1315 = .ok (.lcmp, 1) := by decide +kernel
theorem d_L_law_1316 : decode code 1316 = .ok (.ifCond .eq 5, 3) := by decide +kernel
theorem d_L_law_1319 : decode code 1319 = .ok (.iconst 0, 1) := by decide +kernel
theorem d_L_law_1320 : decode code 1320 = .ok (.ireturn, 1) := by decide +kernel
theorem d_L_law_1321 : decode code 1321 = .ok (.goto 201, 3) := by decide +kernel
theorem d_L_law_1324 : decode code 1324 = .ok (.aload_n 1, 1) := by decide +kernel
theorem d_L_law_1325 : decode code 1325 = .ok (.aload_n 0, 1) := by decide +kernel
theorem d_L_law_1326 : decode code 1326 = .ok (.iload 4, 2) := by decide +kernel
theorem d_L_law_1328 : decode code 1328 = .ok (.iconst 1, 1) := by decide +kernel
theorem d_L_law_1329 : decode code 1329 = .ok (.iadd, 1) := by decide +kernel
theorem d_L_law_1330 : decode code 1330 = .ok (.iaload, 1) := by decide +kernel
theorem d_L_law_1331 : decode code 1331 = .ok (.aload_n 3, 1) := by decide +kernel
theorem d_L_law_1332 : decode code 1332 = .ok (.invokestatic 151, 3) := by decide +kernel
theorem d_L_law_1335 : decode code 1335 = .ok (.istore 5, 2) := by decide +kernel
theorem d_L_law_1337 : decode code 1337 = .ok (.aload_n 2, 1) := by decide +kernel
theorem d_L_law_1338 : decode code 1338 = .ok (.aload_n 0, 1) := by decide +kernel
theorem d_L_law_1339 : decode code 1339 = .ok (.iload 4, 2) := by decide +kernel
theorem d_L_law_1341 : decode code 1341 = .ok (.iconst 1, 1) := by decide +kernel
theorem d_L_law_1342 : decode code 1342 = .ok (.iadd, 1) := by decide +kernel
theorem d_L_law_1343 : decode code 1343 = .ok (.iaload, 1) := by decide +kernel
theorem d_L_law_1344 : decode code 1344 = .ok (.invokevirtual 153, 3) := by decide +kernel
theorem d_L_law_1347 : decode code 1347 = .ok (.istore 6, 2) := by decide +kernel
theorem d_L_law_1349 : decode code 1349 = .ok (.aload_n 2, 1) := by decide +kernel
theorem d_L_law_1350 : decode code 1350 = .ok (.invokevirtual 93, 3) := by decide +kernel
theorem d_L_law_1353 : decode code 1353 = .ok (.iload 5, 2) := by decide +kernel
theorem d_L_law_1355 : decode code 1355 = .ok (.if_icmp .eq 5, 3) := by decide +kernel
theorem d_L_law_1358 : decode code 1358 = .ok (.iconst 0, 1) := by decide +kernel
theorem d_L_law_1359 : decode code 1359 = .ok (.ireturn, 1) := by decide +kernel
theorem d_L_law_1360 : decode code 1360 = .ok (.iload 5, 2) := by decide +kernel
theorem d_L_law_1362 : decode code 1362 = .ok (.ifCond .ne 15, 3) := by decide +kernel
theorem d_L_law_1365 : decode code 1365 = .ok (.aload_n 3, 1) := by decide +kernel
theorem d_L_law_1366 : decode code 1366 = .ok (.iconst 0, 1) := by decide +kernel
theorem d_L_law_1367 : decode code 1367 = .ok (.laload, 1) := by decide +kernel
theorem d_L_law_1368 : decode code 1368 = .ok (.iload 6, 2) := by decide +kernel
theorem d_L_law_1370 : decode code 1370 = .ok (.i2l, 1) := by decide +kernel
theorem d_L_law_1371 : decode code 1371 = .ok (.lcmp, 1) := by decide +kernel
theorem d_L_law_1372 : decode code 1372 = .ok (.ifCond .eq 5, 3) := by decide +kernel
theorem d_L_law_1375 : decode code 1375 = .ok (.iconst 0, 1) := by decide +kernel
theorem d_L_law_1376 : decode code 1376 = .ok (.ireturn, 1) := by decide +kernel
theorem d_L_law_1377 : decode code 1377 = .ok (.goto 145, 3) := by decide +kernel
theorem d_L_law_1380 : decode code 1380 = .ok (.aload_n 1, 1) := by decide +kernel
theorem d_L_law_1381 : decode code 1381 = .ok (.aload_n 0, 1) := by decide +kernel
theorem d_L_law_1382 : decode code 1382 = .ok (.iload 4, 2) := by decide +kernel
theorem d_L_law_1384 : decode code 1384 = .ok (.iconst 1, 1) := by decide +kernel
theorem d_L_law_1385 : decode code 1385 = .ok (.iadd, 1) := by decide +kernel
theorem d_L_law_1386 : decode code 1386 = .ok (.iaload, 1) := by decide +kernel
theorem d_L_law_1387 : decode code 1387 = .ok (.invokevirtual 154, 3) := by decide +kernel
theorem d_L_law_1390 : decode code 1390 = .ok (.aload_n 2, 1) := by decide +kernel
theorem d_L_law_1391 : decode code 1391 = .ok (.aload_n 0, 1) := by decide +kernel
theorem d_L_law_1392 : decode code 1392 = .ok (.iload 4, 2) := by decide +kernel
theorem d_L_law_1394 : decode code 1394 = .ok (.iconst 1, 1) := by decide +kernel
theorem d_L_law_1395 : decode code 1395 = .ok (.iadd, 1) := by decide +kernel
theorem d_L_law_1396 : decode code 1396 = .ok (.iaload, 1) := by decide +kernel
theorem d_L_law_1397 : decode code 1397 = .ok (.invokevirtual 157, 3) := by decide +kernel
theorem d_L_law_1400 : decode code 1400 = .ok (.if_icmp .eq 122, 3) := by decide +kernel
theorem d_L_law_1403 : decode code 1403 = .ok (.iconst 0, 1) := by decide +kernel
theorem d_L_law_1404 : decode code 1404 = .ok (.ireturn, 1) := by decide +kernel
theorem d_L_law_1405 : decode code 1405 = .ok (.aload_n 1, 1) := by decide +kernel
theorem d_L_law_1406 : decode code 1406 = .ok (.aload_n 0, 1) := by decide +kernel
theorem d_L_law_1407 : decode code 1407 = .ok (.iload 4, 2) := by decide +kernel
theorem d_L_law_1409 : decode code 1409 = .ok (.iconst 1, 1) := by decide +kernel
theorem d_L_law_1410 : decode code 1410 = .ok (.iadd, 1) := by decide +kernel
theorem d_L_law_1411 : decode code 1411 = .ok (.iaload, 1) := by decide +kernel
theorem d_L_law_1412 : decode code 1412 = .ok (.aload_n 0, 1) := by decide +kernel
theorem d_L_law_1413 : decode code 1413 = .ok (.iload 4, 2) := by decide +kernel
theorem d_L_law_1415 : decode code 1415 = .ok (.iconst 2, 1) := by decide +kernel
theorem d_L_law_1416 : decode code 1416 = .ok (.iadd, 1) := by decide +kernel
theorem d_L_law_1417 : decode code 1417 = .ok (.iaload, 1) := by decide +kernel
theorem d_L_law_1418 : decode code 1418 = .ok (.aload_n 3, 1) := by decide +kernel
theorem d_L_law_1419 : decode code 1419 = .ok (.invokestatic 158, 3) := by decide +kernel
theorem d_L_law_1422 : decode code 1422 = .ok (.istore 5, 2) := by decide +kernel
theorem d_L_law_1424 : decode code 1424 = .ok (.aload_n 2, 1) := by decide +kernel
theorem d_L_law_1425 : decode code 1425 = .ok (.aload_n 0, 1) := by decide +kernel
theorem d_L_law_1426 : decode code 1426 = .ok (.iload 4, 2) := by decide +kernel
theorem d_L_law_1428 : decode code 1428 = .ok (.iconst 1, 1) := by decide +kernel
theorem d_L_law_1429 : decode code 1429 = .ok (.iadd, 1) := by decide +kernel
theorem d_L_law_1430 : decode code 1430 = .ok (.iaload, 1) := by decide +kernel
theorem d_L_law_1431 : decode code 1431 = .ok (.aload_n 0, 1) := by decide +kernel
theorem d_L_law_1432 : decode code 1432 = .ok (.iload 4, 2) := by decide +kernel
theorem d_L_law_1434 : decode code 1434 = .ok (.iconst 2, 1) := by decide +kernel
theorem d_L_law_1435 : decode code 1435 = .ok (.iadd, 1) := by decide +kernel
theorem d_L_law_1436 : decode code 1436 = .ok (.iaload, 1) := by decide +kernel
theorem d_L_law_1437 : decode code 1437 = .ok (.invokevirtual 160, 3) := by decide +kernel
theorem d_L_law_1440 : decode code 1440 = .ok (.istore 6, 2) := by decide +kernel
theorem d_L_law_1442 : decode code 1442 = .ok (.aload_n 2, 1) := by decide +kernel
theorem d_L_law_1443 : decode code 1443 = .ok (.invokevirtual 93, 3) := by decide +kernel
theorem d_L_law_1446 : decode code 1446 = .ok (.iload 5, 2) := by decide +kernel
theorem d_L_law_1448 : decode code 1448 = .ok (.if_icmp .eq 5, 3) := by decide +kernel
theorem d_L_law_1451 : decode code 1451 = .ok (.iconst 0, 1) := by decide +kernel
theorem d_L_law_1452 : decode code 1452 = .ok (.ireturn, 1) := by decide +kernel
theorem d_L_law_1453 : decode code 1453 = .ok (.iload 5, 2) := by decide +kernel
theorem d_L_law_1455 : decode code 1455 = .ok (.ifCond .ne 15, 3) := by decide +kernel
theorem d_L_law_1458 : decode code 1458 = .ok (.aload_n 3, 1) := by decide +kernel
theorem d_L_law_1459 : decode code 1459 = .ok (.iconst 0, 1) := by decide +kernel
theorem d_L_law_1460 : decode code 1460 = .ok (.laload, 1) := by decide +kernel
theorem d_L_law_1461 : decode code 1461 = .ok (.iload 6, 2) := by decide +kernel
theorem d_L_law_1463 : decode code 1463 = .ok (.i2l, 1) := by decide +kernel
theorem d_L_law_1464 : decode code 1464 = .ok (.lcmp, 1) := by decide +kernel
theorem d_L_law_1465 : decode code 1465 = .ok (.ifCond .eq 5, 3) := by decide +kernel
theorem d_L_law_1468 : decode code 1468 = .ok (.iconst 0, 1) := by decide +kernel
theorem d_L_law_1469 : decode code 1469 = .ok (.ireturn, 1) := by decide +kernel
theorem d_L_law_1470 : decode code 1470 = .ok (.goto 52, 3) := by decide +kernel
theorem d_L_law_1473 : decode code 1473 = .ok (.aload_n 1, 1) := by decide +kernel
theorem d_L_law_1474 : decode code 1474 = .ok (.invokevirtual 161, 3) := by decide +kernel
theorem d_L_law_1477 : decode code 1477 = .ok (.aload_n 2, 1) := by decide +kernel
theorem d_L_law_1478 : decode code 1478 = .ok (.invokevirtual 164, 3) := by decide +kernel
theorem d_L_law_1481 : decode code 1481 = .ok (.goto 41, 3) := by decide +kernel
theorem d_L_law_1484 : decode code 1484 = .ok (.aload_n 1, 1) := by decide +kernel
theorem d_L_law_1485 : decode code 1485 = .ok (.invokevirtual 165, 3) := by decide +kernel
theorem d_L_law_1488 : decode code 1488 = .ok (.aload_n 2, 1) := by decide +kernel
theorem d_L_law_1489 : decode code 1489 = .ok (.invokevirtual 169, 3) := by decide +kernel
theorem d_L_law_1492 : decode code 1492 = .ok (.if_icmp .eq 30, 3) := by decide +kernel
theorem d_L_law_1495 : decode code 1495 = .ok (.iconst 0, 1) := by decide +kernel
theorem d_L_law_1496 : decode code 1496 = .ok (.ireturn, 1) := by decide +kernel
theorem d_L_law_1497 : decode code 1497 = .ok (.aload_n 1, 1) := by decide +kernel
theorem d_L_law_1498 : decode code 1498 = .ok (.aload_n 0, 1) := by decide +kernel
theorem d_L_law_1499 : decode code 1499 = .ok (.iload 4, 2) := by decide +kernel
theorem d_L_law_1501 : decode code 1501 = .ok (.iconst 1, 1) := by decide +kernel
theorem d_L_law_1502 : decode code 1502 = .ok (.iadd, 1) := by decide +kernel
theorem d_L_law_1503 : decode code 1503 = .ok (.iaload, 1) := by decide +kernel
theorem d_L_law_1504 : decode code 1504 = .ok (.invokevirtual 170, 3) := by decide +kernel
theorem d_L_law_1507 : decode code 1507 = .ok (.aload_n 2, 1) := by decide +kernel
theorem d_L_law_1508 : decode code 1508 = .ok (.aload_n 0, 1) := by decide +kernel
theorem d_L_law_1509 : decode code 1509 = .ok (.iload 4, 2) := by decide +kernel
theorem d_L_law_1511 : decode code 1511 = .ok (.iconst 1, 1) := by decide +kernel
theorem d_L_law_1512 : decode code 1512 = .ok (.iadd, 1) := by decide +kernel
theorem d_L_law_1513 : decode code 1513 = .ok (.iaload, 1) := by decide +kernel
theorem d_L_law_1514 : decode code 1514 = .ok (.invokevirtual 173, 3) := by decide +kernel
theorem d_L_law_1517 : decode code 1517 = .ok (.if_icmp .eq 5, 3) := by decide +kernel
theorem d_L_law_1520 : decode code 1520 = .ok (.iconst 0, 1) := by decide +kernel
theorem d_L_law_1521 : decode code 1521 = .ok (.ireturn, 1) := by decide +kernel
theorem d_L_law_1522 : decode code 1522 = .ok (.iinc 4 6, 3) := by decide +kernel
theorem d_L_law_1525 : decode code 1525 = .ok (.goto (-1502), 3) := by decide +kernel
theorem d_L_law_1528 : decode code 1528 = .ok (.iconst 1, 1) := by decide +kernel
theorem d_L_law_1529 : decode code 1529 = .ok (.ireturn, 1) := by decide +kernel
theorem yk_X12_feed : yX12_feed.cls = RX12 ∧ yX12_feed.cls ≠ "java/lang/invoke/MethodHandle" ∧ yX12_feed.cls ≠ "java/lang/invoke/VarHandle" ∧ (parseMethodDescriptor yX12_feed.desc).map (fun d => d.parameters.length) = some 5 := by decide +kernel
theorem lk_L_78 : LinkV RL 78 RX12 yX12_feed (.code yX12_feed cX12_feed 6 (some .int)) 5 := ⟨tw_485, tw_486, tw_487, tw_72, tw_488, yk_X12_feed⟩
theorem yk_X13_feed : yX13_feed.cls = RX13 ∧ yX13_feed.cls ≠ "java/lang/invoke/MethodHandle" ∧ yX13_feed.cls ≠ "java/lang/invoke/VarHandle" ∧ (parseMethodDescriptor yX13_feed.desc).map (fun d => d.parameters.length) = some 5 := by decide +kernel
theorem lk_L_81 : LinkV RL 81 RX13 yX13_feed (.code yX13_feed cX13_feed 8 (some .int)) 5 := ⟨tw_1318, tw_1319, tw_1320, tw_83, tw_1321, yk_X13_feed⟩
theorem yk_X12_end : yX12_end.cls = RX12 ∧ yX12_end.cls ≠ "java/lang/invoke/MethodHandle" ∧ yX12_end.cls ≠ "java/lang/invoke/VarHandle" ∧ (parseMethodDescriptor yX12_end.desc).map (fun d => d.parameters.length) = some 1 := by decide +kernel
theorem lk_L_82 : LinkV RL 82 RX12 yX12_end (.code yX12_end cX12_end 2 (some .boolean)) 1 := ⟨tw_493, tw_494, tw_495, tw_72, tw_496, yk_X12_end⟩
theorem yk_X13_end : yX13_end.cls = RX13 ∧ yX13_end.cls ≠ "java/lang/invoke/MethodHandle" ∧ yX13_end.cls ≠ "java/lang/invoke/VarHandle" ∧ (parseMethodDescriptor yX13_end.desc).map (fun d => d.parameters.length) = some 1 := by decide +kernel
theorem lk_L_86 : LinkV RL 86 RX13 yX13_end (.code yX13_end cX13_end 2 (some .boolean)) 1 := ⟨tw_1322, tw_1323, tw_1324, tw_83, tw_1325, yk_X13_end⟩
theorem yk_X13_forest : yX13_forest.cls = RX13 ∧ yX13_forest.cls ≠ "java/lang/invoke/MethodHandle" ∧ yX13_forest.cls ≠ "java/lang/invoke/VarHandle" ∧ (parseMethodDescriptor yX13_forest.desc).map (fun d => d.parameters.length) = some 0 := by decide +kernel
theorem lk_L_92 : LinkV RL 92 RX13 yX13_forest (.code yX13_forest cX13_forest 4 (some .int)) 0 := ⟨tw_1329, tw_1330, tw_1331, tw_83, tw_1332, yk_X13_forest⟩
theorem yk_X13_thrown : yX13_thrown.cls = RX13 ∧ yX13_thrown.cls ≠ "java/lang/invoke/MethodHandle" ∧ yX13_thrown.cls ≠ "java/lang/invoke/VarHandle" ∧ (parseMethodDescriptor yX13_thrown.desc).map (fun d => d.parameters.length) = some 0 := by decide +kernel
theorem lk_L_93 : LinkV RL 93 RX13 yX13_thrown (.code yX13_thrown cX13_thrown 1 (some .int)) 0 := ⟨tw_1314, tw_1315, tw_1316, tw_83, tw_1317, yk_X13_thrown⟩
theorem yk_X13_chip : yX13_chip.cls = RX13 ∧ yX13_chip.cls ≠ "java/lang/invoke/MethodHandle" ∧ yX13_chip.cls ≠ "java/lang/invoke/VarHandle" ∧ (parseMethodDescriptor yX13_chip.desc).map (fun d => d.parameters.length) = some 2 := by decide +kernel
theorem lk_L_99 : LinkV RL 99 RX13 yX13_chip (.code yX13_chip cX13_chip 5 (some .int)) 2 := ⟨tw_1379, tw_1380, tw_1381, tw_83, tw_1382, yk_X13_chip⟩
theorem yk_X12_fault : yX12_fault.cls = RX12 ∧ yX12_fault.cls ≠ "java/lang/invoke/MethodHandle" ∧ yX12_fault.cls ≠ "java/lang/invoke/VarHandle" ∧ (parseMethodDescriptor yX12_fault.desc).map (fun d => d.parameters.length) = some 0 := by decide +kernel
theorem lk_L_100 : LinkV RL 100 RX12 yX12_fault (.code yX12_fault cX12_fault 1 (some .int)) 0 := ⟨tw_497, tw_498, tw_499, tw_72, tw_500, yk_X12_fault⟩
theorem yk_X13_fault : yX13_fault.cls = RX13 ∧ yX13_fault.cls ≠ "java/lang/invoke/MethodHandle" ∧ yX13_fault.cls ≠ "java/lang/invoke/VarHandle" ∧ (parseMethodDescriptor yX13_fault.desc).map (fun d => d.parameters.length) = some 0 := by decide +kernel
theorem lk_L_103 : LinkV RL 103 RX13 yX13_fault (.code yX13_fault cX13_fault 1 (some .int)) 0 := ⟨tw_1375, tw_1376, tw_1377, tw_83, tw_1378, yk_X13_fault⟩
theorem yk_X13_run : yX13_run.cls = RX13 ∧ yX13_run.cls ≠ "java/lang/invoke/MethodHandle" ∧ yX13_run.cls ≠ "java/lang/invoke/VarHandle" ∧ (parseMethodDescriptor yX13_run.desc).map (fun d => d.parameters.length) = some 1 := by decide +kernel
theorem lk_L_107 : LinkV RL 107 RX13 yX13_run (.code yX13_run cX13_run 4 (some .int)) 1 := ⟨tw_1459, tw_1460, tw_1461, tw_83, tw_1462, yk_X13_run⟩
theorem yk_X13_pole : yX13_pole.cls = RX13 ∧ yX13_pole.cls ≠ "java/lang/invoke/MethodHandle" ∧ yX13_pole.cls ≠ "java/lang/invoke/VarHandle" ∧ (parseMethodDescriptor yX13_pole.desc).map (fun d => d.parameters.length) = some 1 := by decide +kernel
theorem lk_L_110 : LinkV RL 110 RX13 yX13_pole (.code yX13_pole cX13_pole 4 (some .int)) 1 := ⟨tw_1495, tw_1496, tw_1497, tw_83, tw_1498, yk_X13_pole⟩
theorem yk_X13_water : yX13_water.cls = RX13 ∧ yX13_water.cls ≠ "java/lang/invoke/MethodHandle" ∧ yX13_water.cls ≠ "java/lang/invoke/VarHandle" ∧ (parseMethodDescriptor yX13_water.desc).map (fun d => d.parameters.length) = some 1 := by decide +kernel
theorem lk_L_113 : LinkV RL 113 RX13 yX13_water (.code yX13_water cX13_water 3 (some .int)) 1 := ⟨tw_1499, tw_1500, tw_1501, tw_83, tw_1502, yk_X13_water⟩
theorem yk_X13_look : yX13_look.cls = RX13 ∧ yX13_look.cls ≠ "java/lang/invoke/MethodHandle" ∧ yX13_look.cls ≠ "java/lang/invoke/VarHandle" ∧ (parseMethodDescriptor yX13_look.desc).map (fun d => d.parameters.length) = some 2 := by decide +kernel
theorem lk_L_116 : LinkV RL 116 RX13 yX13_look (.code yX13_look cX13_look 3 (some .int)) 2 := ⟨tw_1503, tw_1504, tw_1505, tw_83, tw_1506, yk_X13_look⟩
theorem yk_X13_camp : yX13_camp.cls = RX13 ∧ yX13_camp.cls ≠ "java/lang/invoke/MethodHandle" ∧ yX13_camp.cls ≠ "java/lang/invoke/VarHandle" ∧ (parseMethodDescriptor yX13_camp.desc).map (fun d => d.parameters.length) = some 2 := by decide +kernel
theorem lk_L_119 : LinkV RL 119 RX13 yX13_camp (.code yX13_camp cX13_camp 3 (some .int)) 2 := ⟨tw_1507, tw_1508, tw_1509, tw_83, tw_1510, yk_X13_camp⟩
theorem yk_X13_reach : yX13_reach.cls = RX13 ∧ yX13_reach.cls ≠ "java/lang/invoke/MethodHandle" ∧ yX13_reach.cls ≠ "java/lang/invoke/VarHandle" ∧ (parseMethodDescriptor yX13_reach.desc).map (fun d => d.parameters.length) = some 2 := by decide +kernel
theorem lk_L_122 : LinkV RL 122 RX13 yX13_reach (.code yX13_reach cX13_reach 3 (some .int)) 2 := ⟨tw_1515, tw_1516, tw_1517, tw_83, tw_1518, yk_X13_reach⟩
theorem yk_X12_out : yX12_out.cls = RX12 ∧ yX12_out.cls ≠ "java/lang/invoke/MethodHandle" ∧ yX12_out.cls ≠ "java/lang/invoke/VarHandle" ∧ (parseMethodDescriptor yX12_out.desc).map (fun d => d.parameters.length) = some 1 := by decide +kernel
theorem lk_L_123 : LinkV RL 123 RX12 yX12_out (.code yX12_out cX12_out 2 (some .int)) 1 := ⟨tw_501, tw_502, tw_503, tw_72, tw_504, yk_X12_out⟩
theorem yk_X13_out : yX13_out.cls = RX13 ∧ yX13_out.cls ≠ "java/lang/invoke/MethodHandle" ∧ yX13_out.cls ≠ "java/lang/invoke/VarHandle" ∧ (parseMethodDescriptor yX13_out.desc).map (fun d => d.parameters.length) = some 1 := by decide +kernel
theorem lk_L_126 : LinkV RL 126 RX13 yX13_out (.code yX13_out cX13_out 2 (some .int)) 1 := ⟨tw_1519, tw_1520, tw_1521, tw_83, tw_1522, yk_X13_out⟩
theorem yk_X13_time : yX13_time.cls = RX13 ∧ yX13_time.cls ≠ "java/lang/invoke/MethodHandle" ∧ yX13_time.cls ≠ "java/lang/invoke/VarHandle" ∧ (parseMethodDescriptor yX13_time.desc).map (fun d => d.parameters.length) = some 4 := by decide +kernel
theorem lk_L_130 : LinkV RL 130 RX13 yX13_time (.code yX13_time cX13_time 5 (some .int)) 4 := ⟨tw_1523, tw_1524, tw_1525, tw_83, tw_1526, yk_X13_time⟩
theorem yk_X13_waits : yX13_waits.cls = RX13 ∧ yX13_waits.cls ≠ "java/lang/invoke/MethodHandle" ∧ yX13_waits.cls ≠ "java/lang/invoke/VarHandle" ∧ (parseMethodDescriptor yX13_waits.desc).map (fun d => d.parameters.length) = some 5 := by decide +kernel
theorem lk_L_134 : LinkV RL 134 RX13 yX13_waits (.code yX13_waits cX13_waits 9 (some .int)) 5 := ⟨tw_1535, tw_1536, tw_1537, tw_83, tw_1538, yk_X13_waits⟩
theorem yk_X13_order : yX13_order.cls = RX13 ∧ yX13_order.cls ≠ "java/lang/invoke/MethodHandle" ∧ yX13_order.cls ≠ "java/lang/invoke/VarHandle" ∧ (parseMethodDescriptor yX13_order.desc).map (fun d => d.parameters.length) = some 2 := by decide +kernel
theorem lk_L_137 : LinkV RL 137 RX13 yX13_order (.code yX13_order cX13_order 3 (some .int)) 2 := ⟨tw_1539, tw_1540, tw_1541, tw_83, tw_1542, yk_X13_order⟩
theorem yk_X13_ahead : yX13_ahead.cls = RX13 ∧ yX13_ahead.cls ≠ "java/lang/invoke/MethodHandle" ∧ yX13_ahead.cls ≠ "java/lang/invoke/VarHandle" ∧ (parseMethodDescriptor yX13_ahead.desc).map (fun d => d.parameters.length) = some 3 := by decide +kernel
theorem lk_L_141 : LinkV RL 141 RX13 yX13_ahead (.code yX13_ahead cX13_ahead 5 (some .int)) 3 := ⟨tw_1543, tw_1544, tw_1545, tw_83, tw_1546, yk_X13_ahead⟩
theorem yk_X13_plan : yX13_plan.cls = RX13 ∧ yX13_plan.cls ≠ "java/lang/invoke/MethodHandle" ∧ yX13_plan.cls ≠ "java/lang/invoke/VarHandle" ∧ (parseMethodDescriptor yX13_plan.desc).map (fun d => d.parameters.length) = some 1 := by decide +kernel
theorem lk_L_144 : LinkV RL 144 RX13 yX13_plan (.code yX13_plan cX13_plan 8 (some .int)) 1 := ⟨tw_1547, tw_1548, tw_1549, tw_83, tw_1550, yk_X13_plan⟩
theorem yk_X13_chance : yX13_chance.cls = RX13 ∧ yX13_chance.cls ≠ "java/lang/invoke/MethodHandle" ∧ yX13_chance.cls ≠ "java/lang/invoke/VarHandle" ∧ (parseMethodDescriptor yX13_chance.desc).map (fun d => d.parameters.length) = some 2 := by decide +kernel
theorem lk_L_147 : LinkV RL 147 RX13 yX13_chance (.code yX13_chance cX13_chance 3 (some .int)) 2 := ⟨tw_1555, tw_1556, tw_1557, tw_83, tw_1558, yk_X13_chance⟩
theorem yk_X13_repeats : yX13_repeats.cls = RX13 ∧ yX13_repeats.cls ≠ "java/lang/invoke/MethodHandle" ∧ yX13_repeats.cls ≠ "java/lang/invoke/VarHandle" ∧ (parseMethodDescriptor yX13_repeats.desc).map (fun d => d.parameters.length) = some 3 := by decide +kernel
theorem lk_L_150 : LinkV RL 150 RX13 yX13_repeats (.code yX13_repeats cX13_repeats 9 (some .int)) 3 := ⟨tw_1565, tw_1566, tw_1567, tw_83, tw_1568, yk_X13_repeats⟩
theorem yk_X13_fits : yX13_fits.cls = RX13 ∧ yX13_fits.cls ≠ "java/lang/invoke/MethodHandle" ∧ yX13_fits.cls ≠ "java/lang/invoke/VarHandle" ∧ (parseMethodDescriptor yX13_fits.desc).map (fun d => d.parameters.length) = some 1 := by decide +kernel
theorem lk_L_153 : LinkV RL 153 RX13 yX13_fits (.code yX13_fits cX13_fits 5 (some .int)) 1 := ⟨tw_1572, tw_1573, tw_1574, tw_83, tw_1575, yk_X13_fits⟩
theorem yk_X12_test : yX12_test.cls = RX12 ∧ yX12_test.cls ≠ "java/lang/invoke/MethodHandle" ∧ yX12_test.cls ≠ "java/lang/invoke/VarHandle" ∧ (parseMethodDescriptor yX12_test.desc).map (fun d => d.parameters.length) = some 1 := by decide +kernel
theorem lk_L_154 : LinkV RL 154 RX12 yX12_test (.code yX12_test cX12_test 10 (some .int)) 1 := ⟨tw_505, tw_506, tw_507, tw_72, tw_508, yk_X12_test⟩
theorem yk_X13_test : yX13_test.cls = RX13 ∧ yX13_test.cls ≠ "java/lang/invoke/MethodHandle" ∧ yX13_test.cls ≠ "java/lang/invoke/VarHandle" ∧ (parseMethodDescriptor yX13_test.desc).map (fun d => d.parameters.length) = some 1 := by decide +kernel
theorem lk_L_157 : LinkV RL 157 RX13 yX13_test (.code yX13_test cX13_test 9 (some .int)) 1 := ⟨tw_1584, tw_1585, tw_1586, tw_83, tw_1587, yk_X13_test⟩
theorem yk_X13_later : yX13_later.cls = RX13 ∧ yX13_later.cls ≠ "java/lang/invoke/MethodHandle" ∧ yX13_later.cls ≠ "java/lang/invoke/VarHandle" ∧ (parseMethodDescriptor yX13_later.desc).map (fun d => d.parameters.length) = some 2 := by decide +kernel
theorem lk_L_160 : LinkV RL 160 RX13 yX13_later (.code yX13_later cX13_later 5 (some .int)) 2 := ⟨tw_1588, tw_1589, tw_1590, tw_83, tw_1591, yk_X13_later⟩
theorem yk_X12_image : yX12_image.cls = RX12 ∧ yX12_image.cls ≠ "java/lang/invoke/MethodHandle" ∧ yX12_image.cls ≠ "java/lang/invoke/VarHandle" ∧ (parseMethodDescriptor yX12_image.desc).map (fun d => d.parameters.length) = some 0 := by decide +kernel
theorem lk_L_161 : LinkV RL 161 RX12 yX12_image (.code yX12_image cX12_image 1 none) 0 := ⟨tw_518, tw_519, tw_520, tw_72, tw_521, yk_X12_image⟩
theorem yk_X13_image : yX13_image.cls = RX13 ∧ yX13_image.cls ≠ "java/lang/invoke/MethodHandle" ∧ yX13_image.cls ≠ "java/lang/invoke/VarHandle" ∧ (parseMethodDescriptor yX13_image.desc).map (fun d => d.parameters.length) = some 0 := by decide +kernel
theorem lk_L_164 : LinkV RL 164 RX13 yX13_image (.code yX13_image cX13_image 2 none) 0 := ⟨tw_1592, tw_1593, tw_1594, tw_83, tw_1595, yk_X13_image⟩
theorem yk_X12_back : yX12_back.cls = RX12 ∧ yX12_back.cls ≠ "java/lang/invoke/MethodHandle" ∧ yX12_back.cls ≠ "java/lang/invoke/VarHandle" ∧ (parseMethodDescriptor yX12_back.desc).map (fun d => d.parameters.length) = some 0 := by decide +kernel
theorem lk_L_165 : LinkV RL 165 RX12 yX12_back (.code yX12_back cX12_back 1 (some .boolean)) 0 := ⟨tw_542, tw_543, tw_544, tw_72, tw_545, yk_X12_back⟩
theorem yk_X13_back : yX13_back.cls = RX13 ∧ yX13_back.cls ≠ "java/lang/invoke/MethodHandle" ∧ yX13_back.cls ≠ "java/lang/invoke/VarHandle" ∧ (parseMethodDescriptor yX13_back.desc).map (fun d => d.parameters.length) = some 0 := by decide +kernel
theorem lk_L_169 : LinkV RL 169 RX13 yX13_back (.code yX13_back cX13_back 2 (some .boolean)) 0 := ⟨tw_1596, tw_1597, tw_1598, tw_83, tw_1599, yk_X13_back⟩
theorem yk_X12_count : yX12_count.cls = RX12 ∧ yX12_count.cls ≠ "java/lang/invoke/MethodHandle" ∧ yX12_count.cls ≠ "java/lang/invoke/VarHandle" ∧ (parseMethodDescriptor yX12_count.desc).map (fun d => d.parameters.length) = some 1 := by decide +kernel
theorem lk_L_170 : LinkV RL 170 RX12 yX12_count (.code yX12_count cX12_count 2 (some .int)) 1 := ⟨tw_546, tw_547, tw_548, tw_72, tw_549, yk_X12_count⟩
theorem yk_X13_count : yX13_count.cls = RX13 ∧ yX13_count.cls ≠ "java/lang/invoke/MethodHandle" ∧ yX13_count.cls ≠ "java/lang/invoke/VarHandle" ∧ (parseMethodDescriptor yX13_count.desc).map (fun d => d.parameters.length) = some 1 := by decide +kernel
theorem lk_L_173 : LinkV RL 173 RX13 yX13_count (.code yX13_count cX13_count 5 (some .int)) 1 := ⟨tw_1600, tw_1601, tw_1602, tw_83, tw_1603, yk_X13_count⟩
theorem yk_L_forest : yL_forest.cls ≠ "java/lang/invoke/MethodHandle" ∧ yL_forest.cls ≠ "java/lang/invoke/VarHandle" ∧ (parseMethodDescriptor yL_forest.desc).map (fun d => d.parameters.length) = some 2 := by decide +kernel
theorem lk_L_87 : LinkS RL 87 yL_forest (.codeWith yL_forest cL_forest 3 (some .int) [(0, 8, 11, 13), (0, 8, 14, 15)]) 2 := ⟨tw_570, tw_571, tw_71, tw_572, yk_L_forest⟩
theorem yk_L_chip : yL_chip.cls ≠ "java/lang/invoke/MethodHandle" ∧ yL_chip.cls ≠ "java/lang/invoke/VarHandle" ∧ (parseMethodDescriptor yL_chip.desc).map (fun d => d.parameters.length) = some 4 := by decide +kernel
theorem lk_L_96 : LinkS RL 96 yL_chip (.codeWith yL_chip cL_chip 5 (some .int) [(0, 10, 13, 21), (0, 10, 17, 13), (0, 10, 21, 15)]) 4 := ⟨tw_819, tw_820, tw_71, tw_821, yk_L_chip⟩
theorem yk_L_run : yL_run.cls ≠ "java/lang/invoke/MethodHandle" ∧ yL_run.cls ≠ "java/lang/invoke/VarHandle" ∧ (parseMethodDescriptor yL_run.desc).map (fun d => d.parameters.length) = some 3 := by decide +kernel
theorem lk_L_104 : LinkS RL 104 yL_run (.codeWith yL_run cL_run 4 (some .int) [(0, 9, 12, 13)]) 3 := ⟨tw_933, tw_934, tw_71, tw_935, yk_L_run⟩
theorem yk_L_pole : yL_pole.cls ≠ "java/lang/invoke/MethodHandle" ∧ yL_pole.cls ≠ "java/lang/invoke/VarHandle" ∧ (parseMethodDescriptor yL_pole.desc).map (fun d => d.parameters.length) = some 3 := by decide +kernel
theorem lk_L_108 : LinkS RL 108 yL_pole (.codeWith yL_pole cL_pole 4 (some .int) [(0, 9, 12, 21)]) 3 := ⟨tw_1023, tw_1024, tw_71, tw_1025, yk_L_pole⟩
theorem yk_L_water : yL_water.cls ≠ "java/lang/invoke/MethodHandle" ∧ yL_water.cls ≠ "java/lang/invoke/VarHandle" ∧ (parseMethodDescriptor yL_water.desc).map (fun d => d.parameters.length) = some 3 := by decide +kernel
theorem lk_L_111 : LinkS RL 111 yL_water (.codeWith yL_water cL_water 4 (some .int) [(0, 9, 12, 13)]) 3 := ⟨tw_1038, tw_1039, tw_71, tw_1040, yk_L_water⟩
theorem yk_L_look : yL_look.cls ≠ "java/lang/invoke/MethodHandle" ∧ yL_look.cls ≠ "java/lang/invoke/VarHandle" ∧ (parseMethodDescriptor yL_look.desc).map (fun d => d.parameters.length) = some 4 := by decide +kernel
theorem lk_L_114 : LinkS RL 114 yL_look (.codeWith yL_look cL_look 5 (some .int) [(0, 10, 13, 21), (0, 10, 17, 36)]) 4 := ⟨tw_1048, tw_1049, tw_71, tw_1050, yk_L_look⟩
theorem yk_L_camp : yL_camp.cls ≠ "java/lang/invoke/MethodHandle" ∧ yL_camp.cls ≠ "java/lang/invoke/VarHandle" ∧ (parseMethodDescriptor yL_camp.desc).map (fun d => d.parameters.length) = some 4 := by decide +kernel
theorem lk_L_117 : LinkS RL 117 yL_camp (.codeWith yL_camp cL_camp 5 (some .int) [(0, 10, 13, 21), (0, 10, 17, 36)]) 4 := ⟨tw_1071, tw_1072, tw_71, tw_1073, yk_L_camp⟩
theorem yk_L_reach : yL_reach.cls ≠ "java/lang/invoke/MethodHandle" ∧ yL_reach.cls ≠ "java/lang/invoke/VarHandle" ∧ (parseMethodDescriptor yL_reach.desc).map (fun d => d.parameters.length) = some 4 := by decide +kernel
theorem lk_L_120 : LinkS RL 120 yL_reach (.codeWith yL_reach cL_reach 5 (some .int) [(0, 10, 13, 21), (0, 10, 17, 36)]) 4 := ⟨tw_1082, tw_1083, tw_71, tw_1084, yk_L_reach⟩
theorem yk_L_time : yL_time.cls ≠ "java/lang/invoke/MethodHandle" ∧ yL_time.cls ≠ "java/lang/invoke/VarHandle" ∧ (parseMethodDescriptor yL_time.desc).map (fun d => d.parameters.length) = some 6 := by decide +kernel
theorem lk_L_127 : LinkS RL 127 yL_time (.codeWith yL_time cL_time 7 (some .int) [(0, 14, 17, 21), (0, 14, 21, 13)]) 6 := ⟨tw_1089, tw_1090, tw_71, tw_1091, yk_L_time⟩
theorem yk_L_waits : yL_waits.cls ≠ "java/lang/invoke/MethodHandle" ∧ yL_waits.cls ≠ "java/lang/invoke/VarHandle" ∧ (parseMethodDescriptor yL_waits.desc).map (fun d => d.parameters.length) = some 7 := by decide +kernel
theorem lk_L_131 : LinkS RL 131 yL_waits (.codeWith yL_waits cL_waits 8 (some .int) [(0, 16, 19, 21), (0, 16, 23, 13)]) 7 := ⟨tw_1110, tw_1111, tw_71, tw_1112, yk_L_waits⟩
theorem yk_L_order : yL_order.cls ≠ "java/lang/invoke/MethodHandle" ∧ yL_order.cls ≠ "java/lang/invoke/VarHandle" ∧ (parseMethodDescriptor yL_order.desc).map (fun d => d.parameters.length) = some 4 := by decide +kernel
theorem lk_L_135 : LinkS RL 135 yL_order (.codeWith yL_order cL_order 5 (some .int) [(0, 10, 13, 21), (0, 10, 17, 13), (0, 10, 21, 15)]) 4 := ⟨tw_1117, tw_1118, tw_71, tw_1119, yk_L_order⟩
theorem yk_L_ahead : yL_ahead.cls ≠ "java/lang/invoke/MethodHandle" ∧ yL_ahead.cls ≠ "java/lang/invoke/VarHandle" ∧ (parseMethodDescriptor yL_ahead.desc).map (fun d => d.parameters.length) = some 5 := by decide +kernel
theorem lk_L_138 : LinkS RL 138 yL_ahead (.codeWith yL_ahead cL_ahead 6 (some .int) [(0, 12, 15, 21), (0, 12, 19, 13)]) 5 := ⟨tw_1128, tw_1129, tw_71, tw_1130, yk_L_ahead⟩
theorem yk_L_plan : yL_plan.cls ≠ "java/lang/invoke/MethodHandle" ∧ yL_plan.cls ≠ "java/lang/invoke/VarHandle" ∧ (parseMethodDescriptor yL_plan.desc).map (fun d => d.parameters.length) = some 3 := by decide +kernel
theorem lk_L_142 : LinkS RL 142 yL_plan (.codeWith yL_plan cL_plan 4 (some .int) [(0, 9, 12, 21)]) 3 := ⟨tw_1139, tw_1140, tw_71, tw_1141, yk_L_plan⟩
theorem yk_L_chance : yL_chance.cls ≠ "java/lang/invoke/MethodHandle" ∧ yL_chance.cls ≠ "java/lang/invoke/VarHandle" ∧ (parseMethodDescriptor yL_chance.desc).map (fun d => d.parameters.length) = some 4 := by decide +kernel
theorem lk_L_145 : LinkS RL 145 yL_chance (.codeWith yL_chance cL_chance 5 (some .int) [(0, 10, 13, 21), (0, 10, 17, 13)]) 4 := ⟨tw_1161, tw_1162, tw_71, tw_1163, yk_L_chance⟩
theorem yk_L_repeats : yL_repeats.cls ≠ "java/lang/invoke/MethodHandle" ∧ yL_repeats.cls ≠ "java/lang/invoke/VarHandle" ∧ (parseMethodDescriptor yL_repeats.desc).map (fun d => d.parameters.length) = some 5 := by decide +kernel
theorem lk_L_148 : LinkS RL 148 yL_repeats (.codeWith yL_repeats cL_repeats 6 (some .int) [(0, 12, 15, 21), (0, 12, 19, 13)]) 5 := ⟨tw_1174, tw_1175, tw_71, tw_1176, yk_L_repeats⟩
theorem yk_L_fits : yL_fits.cls ≠ "java/lang/invoke/MethodHandle" ∧ yL_fits.cls ≠ "java/lang/invoke/VarHandle" ∧ (parseMethodDescriptor yL_fits.desc).map (fun d => d.parameters.length) = some 3 := by decide +kernel
theorem lk_L_151 : LinkS RL 151 yL_fits (.codeWith yL_fits cL_fits 4 (some .int) [(0, 9, 12, 13)]) 3 := ⟨tw_1185, tw_1186, tw_71, tw_1187, yk_L_fits⟩
theorem yk_L_later : yL_later.cls ≠ "java/lang/invoke/MethodHandle" ∧ yL_later.cls ≠ "java/lang/invoke/VarHandle" ∧ (parseMethodDescriptor yL_later.desc).map (fun d => d.parameters.length) = some 4 := by decide +kernel
theorem lk_L_158 : LinkS RL 158 yL_later (.codeWith yL_later cL_later 5 (some .int) [(0, 10, 13, 13), (0, 10, 17, 36)]) 4 := ⟨tw_1221, tw_1222, tw_71, tw_1223, yk_L_later⟩
section GLAW
variable {p : Program} {l : Launch} {e : Env} {s : State} {m : MethodId} {args : Array Value} {below : List Frame} {meth : Method} {c : Code} {Q : State → Prop} {G : Gd} {ρ : Nat → Nat} {A : Nat → Prop}
def C_L_law_0 (kk : (Int32 → CMu → (Nat → Nat → Int32) → (Nat → Int64) → Prop)) (L : Nat) (xs : Nat → Int32) (v4 : Int32) (cm : CMu) (mm : Nat → Nat → Int32) (oo : Nat → Int64) : Prop := (vp_in (v4 + 1) L) ∧ (vp_in (v4 + 2) L) ∧ (vp_in (v4 + 3) L) ∧ (vp_in (v4 + 4) L) ∧ (vp_in (v4 + 5) L) ∧ w_X12_feed (fun (r7 : Int32) (u8 : CMu) => (vp_in (v4 + 1) L) ∧ (vp_in (v4 + 2) L) ∧ (vp_in (v4 + 3) L) ∧ (vp_in (v4 + 4) L) ∧ (vp_in (v4 + 5) L) ∧ w_X13_feed (fun (r14 : Int32) (u15 : (Nat → Nat → Int32)) => (r7 = r14 → (kk (v4 + 6) u8 u15 oo)) ∧ (¬ r7 = r14 → (False))) (xs (Int32.toNatClampNeg (v4 + 1))) (xs (Int32.toNatClampNeg (v4 + 2))) (xs (Int32.toNatClampNeg (v4 + 3))) (xs (Int32.toNatClampNeg (v4 + 4))) (xs (Int32.toNatClampNeg (v4 + 5))) mm) (xs (Int32.toNatClampNeg (v4 + 1))) (xs (Int32.toNatClampNeg (v4 + 2))) (xs (Int32.toNatClampNeg (v4 + 3))) (xs (Int32.toNatClampNeg (v4 + 4))) (xs (Int32.toNatClampNeg (v4 + 5))) cm
set_option maxHeartbeats 4000000 in
set_option maxRecDepth 100000 in
theorem TC_L_law_0 (X : MC p l s m args meth c code 7 RL G ρ A) {L : Nat} {xs : Nat → Int32} (hX : va_X (ρ 5000) L xs s s.heap) (hb : ρ 5000 < s.heap.size) (hbA : ¬ A (ρ 5000)) {kk : (Int32 → CMu → (Nat → Nat → Int32) → (Nat → Int64) → Prop)} {n ce se : Nat} (hce : ce + 20 * (n + 1) ≤ 600000) (hse : se + 120 * (n + 1) ≤ 7200000) {v4 : Int32} {cm : CMu} {mm : Nat → Nat → Int32} {oo : Nat → Int64}
    (ih : ∀ (v4 : Int32) (cm : CMu) (mm : Nat → Nat → Int32) (oo : Nat → Int64) (ce se : Nat), ce + 20 * n ≤ 600000 → se + 120 * n ≤ 7200000 → kk v4 cm mm oo → LW p l e room_1 s m args below meth c Q G ρ A 7 ce se 23 [(0, .ref 5000), (1, .ref 1), (2, .ref 703), (3, .ref 715), (4, .int v4)] [] (cm, mm, oo))
    (h : C_L_law_0 kk L xs v4 cm mm oo) : LW p l e room_1 s m args below meth c Q G ρ A 7 ce se 156 [(0, .ref 5000), (1, .ref 1), (2, .ref 703), (3, .ref 715), (4, .int v4)] [] (cm, mm, oo) := by
  unfold C_L_law_0 at h
  refine L_aload_n (pc := 156) X d_L_law_156 rfl 1 rfl ?_
  refine L_aload_n (pc := 157) X d_L_law_157 rfl 0 rfl ?_
  refine L_iload (pc := 158) X d_L_law_158 4 rfl ?_
  refine L_iconst (pc := 160) (v := 1) X d_L_law_160 (by decide) ?_
  refine L_iadd (pc := 161) X d_L_law_161 ?_
  obtain ⟨q2, h⟩ := h
  refine L_sld (pc := 162) X hX hb hbA q2 d_L_law_162 ?_
  refine L_aload_n (pc := 163) X d_L_law_163 rfl 0 rfl ?_
  refine L_iload (pc := 164) X d_L_law_164 4 rfl ?_
  refine L_iconst (pc := 166) (v := 2) X d_L_law_166 (by decide) ?_
  refine L_iadd (pc := 167) X d_L_law_167 ?_
  obtain ⟨q3, h⟩ := h
  refine L_sld (pc := 168) X hX hb hbA q3 d_L_law_168 ?_
  refine L_aload_n (pc := 169) X d_L_law_169 rfl 0 rfl ?_
  refine L_iload (pc := 170) X d_L_law_170 4 rfl ?_
  refine L_iconst (pc := 172) (v := 3) X d_L_law_172 (by decide) ?_
  refine L_iadd (pc := 173) X d_L_law_173 ?_
  obtain ⟨q4, h⟩ := h
  refine L_sld (pc := 174) X hX hb hbA q4 d_L_law_174 ?_
  refine L_aload_n (pc := 175) X d_L_law_175 rfl 0 rfl ?_
  refine L_iload (pc := 176) X d_L_law_176 4 rfl ?_
  refine L_iconst (pc := 178) (v := 4) X d_L_law_178 (by decide) ?_
  refine L_iadd (pc := 179) X d_L_law_179 ?_
  obtain ⟨q5, h⟩ := h
  refine L_sld (pc := 180) X hX hb hbA q5 d_L_law_180 ?_
  refine L_aload_n (pc := 181) X d_L_law_181 rfl 0 rfl ?_
  refine L_iload (pc := 182) X d_L_law_182 4 rfl ?_
  refine L_iconst (pc := 184) (v := 5) X d_L_law_184 (by decide) ?_
  refine L_iadd (pc := 185) X d_L_law_185 ?_
  obtain ⟨q6, h⟩ := h
  refine L_sld (pc := 186) X hX hb hbA q6 d_L_law_186 ?_
  refine L_callVI (pc := 187) X lk_L_78 (c_X12_feed X.hst h) rfl rfl kd_1 (by decide) rfl rfl ⟨by decide, by decide⟩ ⟨by show _ + 0 ≤ 601024; omega, by show _ + 0 ≤ 7293034; omega⟩ (Nat.zero_le _) d_L_law_187 rfl (fun x κ1 hx => L_nox hx) (fun r7 u8 h => ?_)
  refine L_aload_n (pc := 190) X d_L_law_190 rfl 2 rfl ?_
  refine L_aload_n (pc := 191) X d_L_law_191 rfl 0 rfl ?_
  refine L_iload (pc := 192) X d_L_law_192 4 rfl ?_
  refine L_iconst (pc := 194) (v := 1) X d_L_law_194 (by decide) ?_
  refine L_iadd (pc := 195) X d_L_law_195 ?_
  obtain ⟨q9, h⟩ := h
  refine L_sld (pc := 196) X hX hb hbA q9 d_L_law_196 ?_
  refine L_aload_n (pc := 197) X d_L_law_197 rfl 0 rfl ?_
  refine L_iload (pc := 198) X d_L_law_198 4 rfl ?_
  refine L_iconst (pc := 200) (v := 2) X d_L_law_200 (by decide) ?_
  refine L_iadd (pc := 201) X d_L_law_201 ?_
  obtain ⟨q10, h⟩ := h
  refine L_sld (pc := 202) X hX hb hbA q10 d_L_law_202 ?_
  refine L_aload_n (pc := 203) X d_L_law_203 rfl 0 rfl ?_
  refine L_iload (pc := 204) X d_L_law_204 4 rfl ?_
  refine L_iconst (pc := 206) (v := 3) X d_L_law_206 (by decide) ?_
  refine L_iadd (pc := 207) X d_L_law_207 ?_
  obtain ⟨q11, h⟩ := h
  refine L_sld (pc := 208) X hX hb hbA q11 d_L_law_208 ?_
  refine L_aload_n (pc := 209) X d_L_law_209 rfl 0 rfl ?_
  refine L_iload (pc := 210) X d_L_law_210 4 rfl ?_
  refine L_iconst (pc := 212) (v := 4) X d_L_law_212 (by decide) ?_
  refine L_iadd (pc := 213) X d_L_law_213 ?_
  obtain ⟨q12, h⟩ := h
  refine L_sld (pc := 214) X hX hb hbA q12 d_L_law_214 ?_
  refine L_aload_n (pc := 215) X d_L_law_215 rfl 0 rfl ?_
  refine L_iload (pc := 216) X d_L_law_216 4 rfl ?_
  refine L_iconst (pc := 218) (v := 5) X d_L_law_218 (by decide) ?_
  refine L_iadd (pc := 219) X d_L_law_219 ?_
  obtain ⟨q13, h⟩ := h
  refine L_sld (pc := 220) X hX hb hbA q13 d_L_law_220 ?_
  refine L_callVI (pc := 221) X lk_L_81 (c_X13_feed X.hst h) rfl rfl kd_703 (by decide) rfl rfl ⟨by decide, by decide⟩ ⟨by show _ + 0 ≤ 601024; omega, by show _ + 0 ≤ 7293034; omega⟩ (Nat.le_of_ble_eq_true rfl) d_L_law_221 rfl (fun x κ1 hx => L_nox hx) (fun r14 u15 h => ?_)
  refine L_icmp_eq (pc := 224) (tgt := 1522) X d_L_law_224 (by decide) (fun c224 => ?_) (fun c224 => ?_)
  · replace h := h.1 c224
    refine L_iinc (pc := 1522) (v := v4 + 6) (lv2 := [(4, .int (v4 + 6)), (0, .ref 5000), (1, .ref 1), (2, .ref 703), (3, .ref 715)]) X d_L_law_1522 4 rfl rfl (by decide) rfl ?_
    refine L_goto (pc := 1525) (tgt := 23) X d_L_law_1525 (by decide) ?_
    refine LW.sub [1, 2, 3, 4, 0] rfl ?_
    exact ih _ _ _ _ _ _ (by omega) (by omega) h
  · replace h := h.2 c224
    refine L_iconst (pc := 227) (v := 0) X d_L_law_227 (by decide) ?_
    exact False.elim h
def C_L_law_1 (kk : (Int32 → CMu → (Nat → Nat → Int32) → (Nat → Int64) → Prop)) (L : Nat) (xs : Nat → Int32) (v4 : Int32) (cm : CMu) (mm : Nat → Nat → Int32) (oo : Nat → Int64) : Prop := (vp_in (v4 + 1) L) ∧ w_X12_end (fun (r17 : Bool) (u18 : CMu) => (vp_in (v4 + 1) L) ∧ w_X13_end (fun (r20 : Bool) (u21 : (Nat → Nat → Int32)) => ((b2 r17) = (b2 r20) → (kk (v4 + 6) u18 u21 oo)) ∧ (¬ (b2 r17) = (b2 r20) → (False))) (xs (Int32.toNatClampNeg (v4 + 1))) mm) (xs (Int32.toNatClampNeg (v4 + 1))) cm
set_option maxHeartbeats 4000000 in
set_option maxRecDepth 100000 in
theorem TC_L_law_1 (X : MC p l s m args meth c code 7 RL G ρ A) {L : Nat} {xs : Nat → Int32} (hX : va_X (ρ 5000) L xs s s.heap) (hb : ρ 5000 < s.heap.size) (hbA : ¬ A (ρ 5000)) {kk : (Int32 → CMu → (Nat → Nat → Int32) → (Nat → Int64) → Prop)} {n ce se : Nat} (hce : ce + 20 * (n + 1) ≤ 600000) (hse : se + 120 * (n + 1) ≤ 7200000) {v4 : Int32} {cm : CMu} {mm : Nat → Nat → Int32} {oo : Nat → Int64}
    (ih : ∀ (v4 : Int32) (cm : CMu) (mm : Nat → Nat → Int32) (oo : Nat → Int64) (ce se : Nat), ce + 20 * n ≤ 600000 → se + 120 * n ≤ 7200000 → kk v4 cm mm oo → LW p l e room_1 s m args below meth c Q G ρ A 7 ce se 23 [(0, .ref 5000), (1, .ref 1), (2, .ref 703), (3, .ref 715), (4, .int v4)] [] (cm, mm, oo))
    (h : C_L_law_1 kk L xs v4 cm mm oo) : LW p l e room_1 s m args below meth c Q G ρ A 7 ce se 229 [(0, .ref 5000), (1, .ref 1), (2, .ref 703), (3, .ref 715), (4, .int v4)] [] (cm, mm, oo) := by
  unfold C_L_law_1 at h
  refine L_aload_n (pc := 229) X d_L_law_229 rfl 1 rfl ?_
  refine L_aload_n (pc := 230) X d_L_law_230 rfl 0 rfl ?_
  refine L_iload (pc := 231) X d_L_law_231 4 rfl ?_
  refine L_iconst (pc := 233) (v := 1) X d_L_law_233 (by decide) ?_
  refine L_iadd (pc := 234) X d_L_law_234 ?_
  obtain ⟨q16, h⟩ := h
  refine L_sld (pc := 235) X hX hb hbA q16 d_L_law_235 ?_
  refine L_callVZ (pc := 236) X lk_L_82 (c_X12_end X.hst h) rfl rfl kd_1 (by decide) rfl rfl ⟨by decide, by decide⟩ ⟨by show _ + 0 ≤ 601024; omega, by show _ + 0 ≤ 7293034; omega⟩ (Nat.zero_le _) d_L_law_236 rfl (fun x κ1 hx => L_nox hx) (fun r17 u18 h => ?_)
  refine L_aload_n (pc := 239) X d_L_law_239 rfl 2 rfl ?_
  refine L_aload_n (pc := 240) X d_L_law_240 rfl 0 rfl ?_
  refine L_iload (pc := 241) X d_L_law_241 4 rfl ?_
  refine L_iconst (pc := 243) (v := 1) X d_L_law_243 (by decide) ?_
  refine L_iadd (pc := 244) X d_L_law_244 ?_
  obtain ⟨q19, h⟩ := h
  refine L_sld (pc := 245) X hX hb hbA q19 d_L_law_245 ?_
  refine L_callVZ (pc := 246) X lk_L_86 (c_X13_end X.hst h) rfl rfl kd_703 (by decide) rfl rfl ⟨by decide, by decide⟩ ⟨by show _ + 0 ≤ 601024; omega, by show _ + 0 ≤ 7293034; omega⟩ (Nat.le_of_ble_eq_true rfl) d_L_law_246 rfl (fun x κ1 hx => L_nox hx) (fun r20 u21 h => ?_)
  refine L_icmp_eq (pc := 249) (tgt := 1522) X d_L_law_249 (by decide) (fun c249 => ?_) (fun c249 => ?_)
  · replace h := h.1 c249
    refine L_iinc (pc := 1522) (v := v4 + 6) (lv2 := [(4, .int (v4 + 6)), (0, .ref 5000), (1, .ref 1), (2, .ref 703), (3, .ref 715)]) X d_L_law_1522 4 rfl rfl (by decide) rfl ?_
    refine L_goto (pc := 1525) (tgt := 23) X d_L_law_1525 (by decide) ?_
    refine LW.sub [1, 2, 3, 4, 0] rfl ?_
    exact ih _ _ _ _ _ _ (by omega) (by omega) h
  · replace h := h.2 c249
    refine L_iconst (pc := 252) (v := 0) X d_L_law_252 (by decide) ?_
    exact False.elim h
def C_L_law_2 (kk : (Int32 → CMu → (Nat → Nat → Int32) → (Nat → Int64) → Prop)) (L : Nat) (xs : Nat → Int32) (v4 : Int32) (cm : CMu) (mm : Nat → Nat → Int32) (oo : Nat → Int64) : Prop := w_L_forest (fun (r22 : Int32) (u23 : CMu × (Nat → Int64)) => w_X13_forest (fun (r24 : Int32) (u25 : (Nat → Nat → Int32)) => w_X13_thrown (fun (r26 : Int32) (u27 : (Nat → Nat → Int32)) => (r26 = r22 → ((¬ r22 = 0 → (kk (v4 + 6) u23.1 u27 u23.2)) ∧ (r22 = 0 → (((lg_cmp (u23.2 (Int32.toNatClampNeg (0 : Int32))) (Int32.toInt64 r24)) = 0 → (kk (v4 + 6) u23.1 u27 u23.2)) ∧ (¬ (lg_cmp (u23.2 (Int32.toNatClampNeg (0 : Int32))) (Int32.toInt64 r24)) = 0 → (False)))))) ∧ (¬ r26 = r22 → (False))) u25) mm) cm oo
set_option maxHeartbeats 4000000 in
set_option maxRecDepth 100000 in
theorem TC_L_law_2 (X : MC p l s m args meth c code 7 RL G ρ A) {L : Nat} {xs : Nat → Int32} (hX : va_X (ρ 5000) L xs s s.heap) (hb : ρ 5000 < s.heap.size) (hbA : ¬ A (ρ 5000)) {kk : (Int32 → CMu → (Nat → Nat → Int32) → (Nat → Int64) → Prop)} {n ce se : Nat} (hce : ce + 20 * (n + 1) ≤ 600000) (hse : se + 120 * (n + 1) ≤ 7200000) {v4 : Int32} {cm : CMu} {mm : Nat → Nat → Int32} {oo : Nat → Int64}
    (ih : ∀ (v4 : Int32) (cm : CMu) (mm : Nat → Nat → Int32) (oo : Nat → Int64) (ce se : Nat), ce + 20 * n ≤ 600000 → se + 120 * n ≤ 7200000 → kk v4 cm mm oo → LW p l e room_1 s m args below meth c Q G ρ A 7 ce se 23 [(0, .ref 5000), (1, .ref 1), (2, .ref 703), (3, .ref 715), (4, .int v4)] [] (cm, mm, oo))
    (h : C_L_law_2 kk L xs v4 cm mm oo) : LW p l e room_1 s m args below meth c Q G ρ A 7 ce se 254 [(0, .ref 5000), (1, .ref 1), (2, .ref 703), (3, .ref 715), (4, .int v4)] [] (cm, mm, oo) := by
  unfold C_L_law_2 at h
  refine L_aload_n (pc := 254) X d_L_law_254 rfl 1 rfl ?_
  refine L_aload_n (pc := 255) X d_L_law_255 rfl 3 rfl ?_
  refine L_callSH (pc := 256) X lk_L_87 (c_L_forest X.hst h) rfl rfl rfl ⟨by decide, by decide⟩ ⟨by show _ + 1 ≤ 601024; omega, by show _ + 6 ≤ 7293034; omega⟩ (Nat.zero_le _) d_L_law_256 rfl (fun r22 u23 h => ?_)
  refine L_istore (pc := 259) (lv2 := [(5, .int r22), (0, .ref 5000), (1, .ref 1), (2, .ref 703), (3, .ref 715), (4, .int v4)]) X d_L_law_259 (by decide) rfl ?_
  refine L_aload_n (pc := 261) X d_L_law_261 rfl 3 rfl ?_
  refine L_callVI (pc := 262) X lk_L_92 (c_X13_forest X.hst h) rfl rfl kd_703 (by decide) rfl rfl ⟨by decide, by decide⟩ ⟨by show _ + 0 ≤ 601024; omega, by show _ + 0 ≤ 7293034; omega⟩ (Nat.zero_le _) d_L_law_262 rfl (fun x κ1 hx => L_nox hx) (fun r24 u25 h => ?_)
  refine L_istore (pc := 265) (lv2 := [(6, .int r24), (5, .int r22), (0, .ref 5000), (1, .ref 1), (2, .ref 703), (3, .ref 715), (4, .int v4)]) X d_L_law_265 (by decide) rfl ?_
  refine L_aload_n (pc := 267) X d_L_law_267 rfl 4 rfl ?_
  refine L_callVI (pc := 268) X lk_L_93 (c_X13_thrown X.hst h) rfl rfl kd_703 (by decide) rfl rfl ⟨by decide, by decide⟩ ⟨by show _ + 0 ≤ 601024; omega, by show _ + 0 ≤ 7293034; omega⟩ (Nat.zero_le _) d_L_law_268 rfl (fun x κ1 hx => L_nox hx) (fun r26 u27 h => ?_)
  refine L_iload (pc := 271) X d_L_law_271 1 rfl ?_
  refine L_icmp_eq (pc := 273) (tgt := 278) X d_L_law_273 (by decide) (fun c273 => ?_) (fun c273 => ?_)
  · replace h := h.1 c273
    refine L_iload (pc := 278) X d_L_law_278 1 rfl ?_
    refine L_if_ne (pc := 280) (tgt := 295) X d_L_law_280 (by decide) (fun c280 => ?_) (fun c280 => ?_)
    · replace h := h.1 c280
      refine L_goto (pc := 295) (tgt := 1522) X d_L_law_295 (by decide) ?_
      refine L_iinc (pc := 1522) (v := v4 + 6) (lv2 := [(4, .int (v4 + 6)), (6, .int r24), (5, .int r22), (0, .ref 5000), (1, .ref 1), (2, .ref 703), (3, .ref 715)]) X d_L_law_1522 6 rfl rfl (by decide) rfl ?_
      refine L_goto (pc := 1525) (tgt := 23) X d_L_law_1525 (by decide) ?_
      refine LW.sub [3, 4, 5, 6, 0] rfl ?_
      exact ih _ _ _ _ _ _ (by omega) (by omega) h
    · replace h := h.2 c280
      refine L_aload_n (pc := 283) X d_L_law_283 rfl 5 rfl ?_
      refine L_iconst (pc := 284) (v := 0) X d_L_law_284 (by decide) ?_
      refine L_laldO (pc := 285) X (by unfold vp_in; decide) d_L_law_285 ?_
      refine L_iload (pc := 286) X d_L_law_286 0 rfl ?_
      refine L_i2l (pc := 288) X d_L_law_288 ?_
      refine L_lcmp (pc := 289) X d_L_law_289 ?_
      refine L_if_eq (pc := 290) (tgt := 295) X d_L_law_290 (by decide) (fun c290 => ?_) (fun c290 => ?_)
      · replace h := h.1 c290
        refine L_goto (pc := 295) (tgt := 1522) X d_L_law_295 (by decide) ?_
        refine L_iinc (pc := 1522) (v := v4 + 6) (lv2 := [(4, .int (v4 + 6)), (6, .int r24), (5, .int r22), (0, .ref 5000), (1, .ref 1), (2, .ref 703), (3, .ref 715)]) X d_L_law_1522 6 rfl rfl (by decide) rfl ?_
        refine L_goto (pc := 1525) (tgt := 23) X d_L_law_1525 (by decide) ?_
        refine LW.sub [3, 4, 5, 6, 0] rfl ?_
        exact ih _ _ _ _ _ _ (by omega) (by omega) h
      · replace h := h.2 c290
        refine L_iconst (pc := 293) (v := 0) X d_L_law_293 (by decide) ?_
        exact False.elim h
  · replace h := h.2 c273
    refine L_iconst (pc := 276) (v := 0) X d_L_law_276 (by decide) ?_
    exact False.elim h
def C_L_law_3 (kk : (Int32 → CMu → (Nat → Nat → Int32) → (Nat → Int64) → Prop)) (L : Nat) (xs : Nat → Int32) (v4 : Int32) (cm : CMu) (mm : Nat → Nat → Int32) (oo : Nat → Int64) : Prop := (vp_in (v4 + 1) L) ∧ (vp_in (v4 + 2) L) ∧ w_L_chip (fun (r30 : Int32) (u31 : CMu × (Nat → Int64)) => (vp_in (v4 + 1) L) ∧ (vp_in (v4 + 2) L) ∧ w_X13_chip (fun (r34 : Int32) (u35 : (Nat → Nat → Int32)) => w_X13_thrown (fun (r36 : Int32) (u37 : (Nat → Nat → Int32)) => (r36 = r30 → ((¬ r30 = 0 → (kk (v4 + 6) u31.1 u37 u31.2)) ∧ (r30 = 0 → (((lg_cmp (u31.2 (Int32.toNatClampNeg (0 : Int32))) (Int32.toInt64 r34)) = 0 → (kk (v4 + 6) u31.1 u37 u31.2)) ∧ (¬ (lg_cmp (u31.2 (Int32.toNatClampNeg (0 : Int32))) (Int32.toInt64 r34)) = 0 → (False)))))) ∧ (¬ r36 = r30 → (False))) u35) (xs (Int32.toNatClampNeg (v4 + 1))) (xs (Int32.toNatClampNeg (v4 + 2))) mm) (xs (Int32.toNatClampNeg (v4 + 1))) (xs (Int32.toNatClampNeg (v4 + 2))) cm oo
set_option maxHeartbeats 4000000 in
set_option maxRecDepth 100000 in
theorem TC_L_law_3 (X : MC p l s m args meth c code 7 RL G ρ A) {L : Nat} {xs : Nat → Int32} (hX : va_X (ρ 5000) L xs s s.heap) (hb : ρ 5000 < s.heap.size) (hbA : ¬ A (ρ 5000)) {kk : (Int32 → CMu → (Nat → Nat → Int32) → (Nat → Int64) → Prop)} {n ce se : Nat} (hce : ce + 20 * (n + 1) ≤ 600000) (hse : se + 120 * (n + 1) ≤ 7200000) {v4 : Int32} {cm : CMu} {mm : Nat → Nat → Int32} {oo : Nat → Int64}
    (ih : ∀ (v4 : Int32) (cm : CMu) (mm : Nat → Nat → Int32) (oo : Nat → Int64) (ce se : Nat), ce + 20 * n ≤ 600000 → se + 120 * n ≤ 7200000 → kk v4 cm mm oo → LW p l e room_1 s m args below meth c Q G ρ A 7 ce se 23 [(0, .ref 5000), (1, .ref 1), (2, .ref 703), (3, .ref 715), (4, .int v4)] [] (cm, mm, oo))
    (h : C_L_law_3 kk L xs v4 cm mm oo) : LW p l e room_1 s m args below meth c Q G ρ A 7 ce se 298 [(0, .ref 5000), (1, .ref 1), (2, .ref 703), (3, .ref 715), (4, .int v4)] [] (cm, mm, oo) := by
  unfold C_L_law_3 at h
  refine L_aload_n (pc := 298) X d_L_law_298 rfl 1 rfl ?_
  refine L_aload_n (pc := 299) X d_L_law_299 rfl 0 rfl ?_
  refine L_iload (pc := 300) X d_L_law_300 4 rfl ?_
  refine L_iconst (pc := 302) (v := 1) X d_L_law_302 (by decide) ?_
  refine L_iadd (pc := 303) X d_L_law_303 ?_
  obtain ⟨q28, h⟩ := h
  refine L_sld (pc := 304) X hX hb hbA q28 d_L_law_304 ?_
  refine L_aload_n (pc := 305) X d_L_law_305 rfl 0 rfl ?_
  refine L_iload (pc := 306) X d_L_law_306 4 rfl ?_
  refine L_iconst (pc := 308) (v := 2) X d_L_law_308 (by decide) ?_
  refine L_iadd (pc := 309) X d_L_law_309 ?_
  obtain ⟨q29, h⟩ := h
  refine L_sld (pc := 310) X hX hb hbA q29 d_L_law_310 ?_
  refine L_aload_n (pc := 311) X d_L_law_311 rfl 3 rfl ?_
  refine L_callSH (pc := 312) X lk_L_96 (c_L_chip X.hst h) rfl rfl rfl ⟨by decide, by decide⟩ ⟨by show _ + 2 ≤ 601024; omega, by show _ + 12 ≤ 7293034; omega⟩ (Nat.zero_le _) d_L_law_312 rfl (fun r30 u31 h => ?_)
  refine L_istore (pc := 315) (lv2 := [(5, .int r30), (0, .ref 5000), (1, .ref 1), (2, .ref 703), (3, .ref 715), (4, .int v4)]) X d_L_law_315 (by decide) rfl ?_
  refine L_aload_n (pc := 317) X d_L_law_317 rfl 3 rfl ?_
  refine L_aload_n (pc := 318) X d_L_law_318 rfl 1 rfl ?_
  refine L_iload (pc := 319) X d_L_law_319 5 rfl ?_
  refine L_iconst (pc := 321) (v := 1) X d_L_law_321 (by decide) ?_
  refine L_iadd (pc := 322) X d_L_law_322 ?_
  obtain ⟨q32, h⟩ := h
  refine L_sld (pc := 323) X hX hb hbA q32 d_L_law_323 ?_
  refine L_aload_n (pc := 324) X d_L_law_324 rfl 1 rfl ?_
  refine L_iload (pc := 325) X d_L_law_325 5 rfl ?_
  refine L_iconst (pc := 327) (v := 2) X d_L_law_327 (by decide) ?_
  refine L_iadd (pc := 328) X d_L_law_328 ?_
  obtain ⟨q33, h⟩ := h
  refine L_sld (pc := 329) X hX hb hbA q33 d_L_law_329 ?_
  refine L_callVI (pc := 330) X lk_L_99 (c_X13_chip X.hst h) rfl rfl kd_703 (by decide) rfl rfl ⟨by decide, by decide⟩ ⟨by show _ + 0 ≤ 601024; omega, by show _ + 0 ≤ 7293034; omega⟩ (Nat.zero_le _) d_L_law_330 rfl (fun x κ1 hx => L_nox hx) (fun r34 u35 h => ?_)
  refine L_istore (pc := 333) (lv2 := [(6, .int r34), (5, .int r30), (0, .ref 5000), (1, .ref 1), (2, .ref 703), (3, .ref 715), (4, .int v4)]) X d_L_law_333 (by decide) rfl ?_
  refine L_aload_n (pc := 335) X d_L_law_335 rfl 4 rfl ?_
  refine L_callVI (pc := 336) X lk_L_93 (c_X13_thrown X.hst h) rfl rfl kd_703 (by decide) rfl rfl ⟨by decide, by decide⟩ ⟨by show _ + 0 ≤ 601024; omega, by show _ + 0 ≤ 7293034; omega⟩ (Nat.zero_le _) d_L_law_336 rfl (fun x κ1 hx => L_nox hx) (fun r36 u37 h => ?_)
  refine L_iload (pc := 339) X d_L_law_339 1 rfl ?_
  refine L_icmp_eq (pc := 341) (tgt := 346) X d_L_law_341 (by decide) (fun c341 => ?_) (fun c341 => ?_)
  · replace h := h.1 c341
    refine L_iload (pc := 346) X d_L_law_346 1 rfl ?_
    refine L_if_ne (pc := 348) (tgt := 363) X d_L_law_348 (by decide) (fun c348 => ?_) (fun c348 => ?_)
    · replace h := h.1 c348
      refine L_goto (pc := 363) (tgt := 1522) X d_L_law_363 (by decide) ?_
      refine L_iinc (pc := 1522) (v := v4 + 6) (lv2 := [(4, .int (v4 + 6)), (6, .int r34), (5, .int r30), (0, .ref 5000), (1, .ref 1), (2, .ref 703), (3, .ref 715)]) X d_L_law_1522 6 rfl rfl (by decide) rfl ?_
      refine L_goto (pc := 1525) (tgt := 23) X d_L_law_1525 (by decide) ?_
      refine LW.sub [3, 4, 5, 6, 0] rfl ?_
      exact ih _ _ _ _ _ _ (by omega) (by omega) h
    · replace h := h.2 c348
      refine L_aload_n (pc := 351) X d_L_law_351 rfl 5 rfl ?_
      refine L_iconst (pc := 352) (v := 0) X d_L_law_352 (by decide) ?_
      refine L_laldO (pc := 353) X (by unfold vp_in; decide) d_L_law_353 ?_
      refine L_iload (pc := 354) X d_L_law_354 0 rfl ?_
      refine L_i2l (pc := 356) X d_L_law_356 ?_
      refine L_lcmp (pc := 357) X d_L_law_357 ?_
      refine L_if_eq (pc := 358) (tgt := 363) X d_L_law_358 (by decide) (fun c358 => ?_) (fun c358 => ?_)
      · replace h := h.1 c358
        refine L_goto (pc := 363) (tgt := 1522) X d_L_law_363 (by decide) ?_
        refine L_iinc (pc := 1522) (v := v4 + 6) (lv2 := [(4, .int (v4 + 6)), (6, .int r34), (5, .int r30), (0, .ref 5000), (1, .ref 1), (2, .ref 703), (3, .ref 715)]) X d_L_law_1522 6 rfl rfl (by decide) rfl ?_
        refine L_goto (pc := 1525) (tgt := 23) X d_L_law_1525 (by decide) ?_
        refine LW.sub [3, 4, 5, 6, 0] rfl ?_
        exact ih _ _ _ _ _ _ (by omega) (by omega) h
      · replace h := h.2 c358
        refine L_iconst (pc := 361) (v := 0) X d_L_law_361 (by decide) ?_
        exact False.elim h
  · replace h := h.2 c341
    refine L_iconst (pc := 344) (v := 0) X d_L_law_344 (by decide) ?_
    exact False.elim h
def C_L_law_4 (kk : (Int32 → CMu → (Nat → Nat → Int32) → (Nat → Int64) → Prop)) (L : Nat) (xs : Nat → Int32) (v4 : Int32) (cm : CMu) (mm : Nat → Nat → Int32) (oo : Nat → Int64) : Prop := w_X12_fault (fun (r38 : Int32) (u39 : CMu) => w_X13_fault (fun (r40 : Int32) (u41 : (Nat → Nat → Int32)) => (r38 = r40 → (kk (v4 + 6) u39 u41 oo)) ∧ (¬ r38 = r40 → (False))) mm) cm
set_option maxHeartbeats 4000000 in
set_option maxRecDepth 100000 in
theorem TC_L_law_4 (X : MC p l s m args meth c code 7 RL G ρ A) {L : Nat} {xs : Nat → Int32} (hX : va_X (ρ 5000) L xs s s.heap) (hb : ρ 5000 < s.heap.size) (hbA : ¬ A (ρ 5000)) {kk : (Int32 → CMu → (Nat → Nat → Int32) → (Nat → Int64) → Prop)} {n ce se : Nat} (hce : ce + 20 * (n + 1) ≤ 600000) (hse : se + 120 * (n + 1) ≤ 7200000) {v4 : Int32} {cm : CMu} {mm : Nat → Nat → Int32} {oo : Nat → Int64}
    (ih : ∀ (v4 : Int32) (cm : CMu) (mm : Nat → Nat → Int32) (oo : Nat → Int64) (ce se : Nat), ce + 20 * n ≤ 600000 → se + 120 * n ≤ 7200000 → kk v4 cm mm oo → LW p l e room_1 s m args below meth c Q G ρ A 7 ce se 23 [(0, .ref 5000), (1, .ref 1), (2, .ref 703), (3, .ref 715), (4, .int v4)] [] (cm, mm, oo))
    (h : C_L_law_4 kk L xs v4 cm mm oo) : LW p l e room_1 s m args below meth c Q G ρ A 7 ce se 366 [(0, .ref 5000), (1, .ref 1), (2, .ref 703), (3, .ref 715), (4, .int v4)] [] (cm, mm, oo) := by
  unfold C_L_law_4 at h
  refine L_aload_n (pc := 366) X d_L_law_366 rfl 1 rfl ?_
  refine L_callVI (pc := 367) X lk_L_100 (c_X12_fault X.hst h) rfl rfl kd_1 (by decide) rfl rfl ⟨by decide, by decide⟩ ⟨by show _ + 0 ≤ 601024; omega, by show _ + 0 ≤ 7293034; omega⟩ (Nat.zero_le _) d_L_law_367 rfl (fun x κ1 hx => L_nox hx) (fun r38 u39 h => ?_)
  refine L_aload_n (pc := 370) X d_L_law_370 rfl 2 rfl ?_
  refine L_callVI (pc := 371) X lk_L_103 (c_X13_fault X.hst h) rfl rfl kd_703 (by decide) rfl rfl ⟨by decide, by decide⟩ ⟨by show _ + 0 ≤ 601024; omega, by show _ + 0 ≤ 7293034; omega⟩ (Nat.le_of_ble_eq_true rfl) d_L_law_371 rfl (fun x κ1 hx => L_nox hx) (fun r40 u41 h => ?_)
  refine L_icmp_eq (pc := 374) (tgt := 1522) X d_L_law_374 (by decide) (fun c374 => ?_) (fun c374 => ?_)
  · replace h := h.1 c374
    refine L_iinc (pc := 1522) (v := v4 + 6) (lv2 := [(4, .int (v4 + 6)), (0, .ref 5000), (1, .ref 1), (2, .ref 703), (3, .ref 715)]) X d_L_law_1522 4 rfl rfl (by decide) rfl ?_
    refine L_goto (pc := 1525) (tgt := 23) X d_L_law_1525 (by decide) ?_
    refine LW.sub [1, 2, 3, 4, 0] rfl ?_
    exact ih _ _ _ _ _ _ (by omega) (by omega) h
  · replace h := h.2 c374
    refine L_iconst (pc := 377) (v := 0) X d_L_law_377 (by decide) ?_
    exact False.elim h
def C_L_law_5 (kk : (Int32 → CMu → (Nat → Nat → Int32) → (Nat → Int64) → Prop)) (L : Nat) (xs : Nat → Int32) (v4 : Int32) (cm : CMu) (mm : Nat → Nat → Int32) (oo : Nat → Int64) : Prop := (vp_in (v4 + 1) L) ∧ w_L_run (fun (r43 : Int32) (u44 : CMu × (Nat → Int64)) => (vp_in (v4 + 1) L) ∧ w_X13_run (fun (r46 : Int32) (u47 : (Nat → Nat → Int32)) => w_X13_thrown (fun (r48 : Int32) (u49 : (Nat → Nat → Int32)) => (r48 = r43 → ((¬ r43 = 0 → (kk (v4 + 6) u44.1 u49 u44.2)) ∧ (r43 = 0 → (((lg_cmp (u44.2 (Int32.toNatClampNeg (0 : Int32))) (Int32.toInt64 r46)) = 0 → (kk (v4 + 6) u44.1 u49 u44.2)) ∧ (¬ (lg_cmp (u44.2 (Int32.toNatClampNeg (0 : Int32))) (Int32.toInt64 r46)) = 0 → (False)))))) ∧ (¬ r48 = r43 → (False))) u47) (xs (Int32.toNatClampNeg (v4 + 1))) mm) (xs (Int32.toNatClampNeg (v4 + 1))) cm oo
set_option maxHeartbeats 4000000 in
set_option maxRecDepth 100000 in
theorem TC_L_law_5 (X : MC p l s m args meth c code 7 RL G ρ A) {L : Nat} {xs : Nat → Int32} (hX : va_X (ρ 5000) L xs s s.heap) (hb : ρ 5000 < s.heap.size) (hbA : ¬ A (ρ 5000)) {kk : (Int32 → CMu → (Nat → Nat → Int32) → (Nat → Int64) → Prop)} {n ce se : Nat} (hce : ce + 20 * (n + 1) ≤ 600000) (hse : se + 120 * (n + 1) ≤ 7200000) {v4 : Int32} {cm : CMu} {mm : Nat → Nat → Int32} {oo : Nat → Int64}
    (ih : ∀ (v4 : Int32) (cm : CMu) (mm : Nat → Nat → Int32) (oo : Nat → Int64) (ce se : Nat), ce + 20 * n ≤ 600000 → se + 120 * n ≤ 7200000 → kk v4 cm mm oo → LW p l e room_1 s m args below meth c Q G ρ A 7 ce se 23 [(0, .ref 5000), (1, .ref 1), (2, .ref 703), (3, .ref 715), (4, .int v4)] [] (cm, mm, oo))
    (h : C_L_law_5 kk L xs v4 cm mm oo) : LW p l e room_1 s m args below meth c Q G ρ A 7 ce se 379 [(0, .ref 5000), (1, .ref 1), (2, .ref 703), (3, .ref 715), (4, .int v4)] [] (cm, mm, oo) := by
  unfold C_L_law_5 at h
  refine L_aload_n (pc := 379) X d_L_law_379 rfl 1 rfl ?_
  refine L_aload_n (pc := 380) X d_L_law_380 rfl 0 rfl ?_
  refine L_iload (pc := 381) X d_L_law_381 4 rfl ?_
  refine L_iconst (pc := 383) (v := 1) X d_L_law_383 (by decide) ?_
  refine L_iadd (pc := 384) X d_L_law_384 ?_
  obtain ⟨q42, h⟩ := h
  refine L_sld (pc := 385) X hX hb hbA q42 d_L_law_385 ?_
  refine L_aload_n (pc := 386) X d_L_law_386 rfl 3 rfl ?_
  refine L_callSH (pc := 387) X lk_L_104 (c_L_run X.hst h) rfl rfl rfl ⟨by decide, by decide⟩ ⟨by show _ + 1 ≤ 601024; omega, by show _ + 6 ≤ 7293034; omega⟩ (Nat.zero_le _) d_L_law_387 rfl (fun r43 u44 h => ?_)
  refine L_istore (pc := 390) (lv2 := [(5, .int r43), (0, .ref 5000), (1, .ref 1), (2, .ref 703), (3, .ref 715), (4, .int v4)]) X d_L_law_390 (by decide) rfl ?_
  refine L_aload_n (pc := 392) X d_L_law_392 rfl 3 rfl ?_
  refine L_aload_n (pc := 393) X d_L_law_393 rfl 1 rfl ?_
  refine L_iload (pc := 394) X d_L_law_394 5 rfl ?_
  refine L_iconst (pc := 396) (v := 1) X d_L_law_396 (by decide) ?_
  refine L_iadd (pc := 397) X d_L_law_397 ?_
  obtain ⟨q45, h⟩ := h
  refine L_sld (pc := 398) X hX hb hbA q45 d_L_law_398 ?_
  refine L_callVI (pc := 399) X lk_L_107 (c_X13_run X.hst h) rfl rfl kd_703 (by decide) rfl rfl ⟨by decide, by decide⟩ ⟨by show _ + 0 ≤ 601024; omega, by show _ + 0 ≤ 7293034; omega⟩ (Nat.zero_le _) d_L_law_399 rfl (fun x κ1 hx => L_nox hx) (fun r46 u47 h => ?_)
  refine L_istore (pc := 402) (lv2 := [(6, .int r46), (5, .int r43), (0, .ref 5000), (1, .ref 1), (2, .ref 703), (3, .ref 715), (4, .int v4)]) X d_L_law_402 (by decide) rfl ?_
  refine L_aload_n (pc := 404) X d_L_law_404 rfl 4 rfl ?_
  refine L_callVI (pc := 405) X lk_L_93 (c_X13_thrown X.hst h) rfl rfl kd_703 (by decide) rfl rfl ⟨by decide, by decide⟩ ⟨by show _ + 0 ≤ 601024; omega, by show _ + 0 ≤ 7293034; omega⟩ (Nat.zero_le _) d_L_law_405 rfl (fun x κ1 hx => L_nox hx) (fun r48 u49 h => ?_)
  refine L_iload (pc := 408) X d_L_law_408 1 rfl ?_
  refine L_icmp_eq (pc := 410) (tgt := 415) X d_L_law_410 (by decide) (fun c410 => ?_) (fun c410 => ?_)
  · replace h := h.1 c410
    refine L_iload (pc := 415) X d_L_law_415 1 rfl ?_
    refine L_if_ne (pc := 417) (tgt := 432) X d_L_law_417 (by decide) (fun c417 => ?_) (fun c417 => ?_)
    · replace h := h.1 c417
      refine L_goto (pc := 432) (tgt := 1522) X d_L_law_432 (by decide) ?_
      refine L_iinc (pc := 1522) (v := v4 + 6) (lv2 := [(4, .int (v4 + 6)), (6, .int r46), (5, .int r43), (0, .ref 5000), (1, .ref 1), (2, .ref 703), (3, .ref 715)]) X d_L_law_1522 6 rfl rfl (by decide) rfl ?_
      refine L_goto (pc := 1525) (tgt := 23) X d_L_law_1525 (by decide) ?_
      refine LW.sub [3, 4, 5, 6, 0] rfl ?_
      exact ih _ _ _ _ _ _ (by omega) (by omega) h
    · replace h := h.2 c417
      refine L_aload_n (pc := 420) X d_L_law_420 rfl 5 rfl ?_
      refine L_iconst (pc := 421) (v := 0) X d_L_law_421 (by decide) ?_
      refine L_laldO (pc := 422) X (by unfold vp_in; decide) d_L_law_422 ?_
      refine L_iload (pc := 423) X d_L_law_423 0 rfl ?_
      refine L_i2l (pc := 425) X d_L_law_425 ?_
      refine L_lcmp (pc := 426) X d_L_law_426 ?_
      refine L_if_eq (pc := 427) (tgt := 432) X d_L_law_427 (by decide) (fun c427 => ?_) (fun c427 => ?_)
      · replace h := h.1 c427
        refine L_goto (pc := 432) (tgt := 1522) X d_L_law_432 (by decide) ?_
        refine L_iinc (pc := 1522) (v := v4 + 6) (lv2 := [(4, .int (v4 + 6)), (6, .int r46), (5, .int r43), (0, .ref 5000), (1, .ref 1), (2, .ref 703), (3, .ref 715)]) X d_L_law_1522 6 rfl rfl (by decide) rfl ?_
        refine L_goto (pc := 1525) (tgt := 23) X d_L_law_1525 (by decide) ?_
        refine LW.sub [3, 4, 5, 6, 0] rfl ?_
        exact ih _ _ _ _ _ _ (by omega) (by omega) h
      · replace h := h.2 c427
        refine L_iconst (pc := 430) (v := 0) X d_L_law_430 (by decide) ?_
        exact False.elim h
  · replace h := h.2 c410
    refine L_iconst (pc := 413) (v := 0) X d_L_law_413 (by decide) ?_
    exact False.elim h
def C_L_law_6 (kk : (Int32 → CMu → (Nat → Nat → Int32) → (Nat → Int64) → Prop)) (L : Nat) (xs : Nat → Int32) (v4 : Int32) (cm : CMu) (mm : Nat → Nat → Int32) (oo : Nat → Int64) : Prop := (vp_in (v4 + 1) L) ∧ w_L_pole (fun (r51 : Int32) (u52 : CMu × (Nat → Int64)) => (vp_in (v4 + 1) L) ∧ w_X13_pole (fun (r54 : Int32) (u55 : (Nat → Nat → Int32)) => w_X13_thrown (fun (r56 : Int32) (u57 : (Nat → Nat → Int32)) => (r56 = r51 → ((¬ r51 = 0 → (kk (v4 + 6) u52.1 u57 u52.2)) ∧ (r51 = 0 → (((lg_cmp (u52.2 (Int32.toNatClampNeg (0 : Int32))) (Int32.toInt64 r54)) = 0 → (kk (v4 + 6) u52.1 u57 u52.2)) ∧ (¬ (lg_cmp (u52.2 (Int32.toNatClampNeg (0 : Int32))) (Int32.toInt64 r54)) = 0 → (False)))))) ∧ (¬ r56 = r51 → (False))) u55) (xs (Int32.toNatClampNeg (v4 + 1))) mm) (xs (Int32.toNatClampNeg (v4 + 1))) cm oo
set_option maxHeartbeats 4000000 in
set_option maxRecDepth 100000 in
theorem TC_L_law_6 (X : MC p l s m args meth c code 7 RL G ρ A) {L : Nat} {xs : Nat → Int32} (hX : va_X (ρ 5000) L xs s s.heap) (hb : ρ 5000 < s.heap.size) (hbA : ¬ A (ρ 5000)) {kk : (Int32 → CMu → (Nat → Nat → Int32) → (Nat → Int64) → Prop)} {n ce se : Nat} (hce : ce + 20 * (n + 1) ≤ 600000) (hse : se + 120 * (n + 1) ≤ 7200000) {v4 : Int32} {cm : CMu} {mm : Nat → Nat → Int32} {oo : Nat → Int64}
    (ih : ∀ (v4 : Int32) (cm : CMu) (mm : Nat → Nat → Int32) (oo : Nat → Int64) (ce se : Nat), ce + 20 * n ≤ 600000 → se + 120 * n ≤ 7200000 → kk v4 cm mm oo → LW p l e room_1 s m args below meth c Q G ρ A 7 ce se 23 [(0, .ref 5000), (1, .ref 1), (2, .ref 703), (3, .ref 715), (4, .int v4)] [] (cm, mm, oo))
    (h : C_L_law_6 kk L xs v4 cm mm oo) : LW p l e room_1 s m args below meth c Q G ρ A 7 ce se 435 [(0, .ref 5000), (1, .ref 1), (2, .ref 703), (3, .ref 715), (4, .int v4)] [] (cm, mm, oo) := by
  unfold C_L_law_6 at h
  refine L_aload_n (pc := 435) X d_L_law_435 rfl 1 rfl ?_
  refine L_aload_n (pc := 436) X d_L_law_436 rfl 0 rfl ?_
  refine L_iload (pc := 437) X d_L_law_437 4 rfl ?_
  refine L_iconst (pc := 439) (v := 1) X d_L_law_439 (by decide) ?_
  refine L_iadd (pc := 440) X d_L_law_440 ?_
  obtain ⟨q50, h⟩ := h
  refine L_sld (pc := 441) X hX hb hbA q50 d_L_law_441 ?_
  refine L_aload_n (pc := 442) X d_L_law_442 rfl 3 rfl ?_
  refine L_callSH (pc := 443) X lk_L_108 (c_L_pole X.hst h) rfl rfl rfl ⟨by decide, by decide⟩ ⟨by show _ + 1 ≤ 601024; omega, by show _ + 6 ≤ 7293034; omega⟩ (Nat.zero_le _) d_L_law_443 rfl (fun r51 u52 h => ?_)
  refine L_istore (pc := 446) (lv2 := [(5, .int r51), (0, .ref 5000), (1, .ref 1), (2, .ref 703), (3, .ref 715), (4, .int v4)]) X d_L_law_446 (by decide) rfl ?_
  refine L_aload_n (pc := 448) X d_L_law_448 rfl 3 rfl ?_
  refine L_aload_n (pc := 449) X d_L_law_449 rfl 1 rfl ?_
  refine L_iload (pc := 450) X d_L_law_450 5 rfl ?_
  refine L_iconst (pc := 452) (v := 1) X d_L_law_452 (by decide) ?_
  refine L_iadd (pc := 453) X d_L_law_453 ?_
  obtain ⟨q53, h⟩ := h
  refine L_sld (pc := 454) X hX hb hbA q53 d_L_law_454 ?_
  refine L_callVI (pc := 455) X lk_L_110 (c_X13_pole X.hst h) rfl rfl kd_703 (by decide) rfl rfl ⟨by decide, by decide⟩ ⟨by show _ + 0 ≤ 601024; omega, by show _ + 0 ≤ 7293034; omega⟩ (Nat.zero_le _) d_L_law_455 rfl (fun x κ1 hx => L_nox hx) (fun r54 u55 h => ?_)
  refine L_istore (pc := 458) (lv2 := [(6, .int r54), (5, .int r51), (0, .ref 5000), (1, .ref 1), (2, .ref 703), (3, .ref 715), (4, .int v4)]) X d_L_law_458 (by decide) rfl ?_
  refine L_aload_n (pc := 460) X d_L_law_460 rfl 4 rfl ?_
  refine L_callVI (pc := 461) X lk_L_93 (c_X13_thrown X.hst h) rfl rfl kd_703 (by decide) rfl rfl ⟨by decide, by decide⟩ ⟨by show _ + 0 ≤ 601024; omega, by show _ + 0 ≤ 7293034; omega⟩ (Nat.zero_le _) d_L_law_461 rfl (fun x κ1 hx => L_nox hx) (fun r56 u57 h => ?_)
  refine L_iload (pc := 464) X d_L_law_464 1 rfl ?_
  refine L_icmp_eq (pc := 466) (tgt := 471) X d_L_law_466 (by decide) (fun c466 => ?_) (fun c466 => ?_)
  · replace h := h.1 c466
    refine L_iload (pc := 471) X d_L_law_471 1 rfl ?_
    refine L_if_ne (pc := 473) (tgt := 488) X d_L_law_473 (by decide) (fun c473 => ?_) (fun c473 => ?_)
    · replace h := h.1 c473
      refine L_goto (pc := 488) (tgt := 1522) X d_L_law_488 (by decide) ?_
      refine L_iinc (pc := 1522) (v := v4 + 6) (lv2 := [(4, .int (v4 + 6)), (6, .int r54), (5, .int r51), (0, .ref 5000), (1, .ref 1), (2, .ref 703), (3, .ref 715)]) X d_L_law_1522 6 rfl rfl (by decide) rfl ?_
      refine L_goto (pc := 1525) (tgt := 23) X d_L_law_1525 (by decide) ?_
      refine LW.sub [3, 4, 5, 6, 0] rfl ?_
      exact ih _ _ _ _ _ _ (by omega) (by omega) h
    · replace h := h.2 c473
      refine L_aload_n (pc := 476) X d_L_law_476 rfl 5 rfl ?_
      refine L_iconst (pc := 477) (v := 0) X d_L_law_477 (by decide) ?_
      refine L_laldO (pc := 478) X (by unfold vp_in; decide) d_L_law_478 ?_
      refine L_iload (pc := 479) X d_L_law_479 0 rfl ?_
      refine L_i2l (pc := 481) X d_L_law_481 ?_
      refine L_lcmp (pc := 482) X d_L_law_482 ?_
      refine L_if_eq (pc := 483) (tgt := 488) X d_L_law_483 (by decide) (fun c483 => ?_) (fun c483 => ?_)
      · replace h := h.1 c483
        refine L_goto (pc := 488) (tgt := 1522) X d_L_law_488 (by decide) ?_
        refine L_iinc (pc := 1522) (v := v4 + 6) (lv2 := [(4, .int (v4 + 6)), (6, .int r54), (5, .int r51), (0, .ref 5000), (1, .ref 1), (2, .ref 703), (3, .ref 715)]) X d_L_law_1522 6 rfl rfl (by decide) rfl ?_
        refine L_goto (pc := 1525) (tgt := 23) X d_L_law_1525 (by decide) ?_
        refine LW.sub [3, 4, 5, 6, 0] rfl ?_
        exact ih _ _ _ _ _ _ (by omega) (by omega) h
      · replace h := h.2 c483
        refine L_iconst (pc := 486) (v := 0) X d_L_law_486 (by decide) ?_
        exact False.elim h
  · replace h := h.2 c466
    refine L_iconst (pc := 469) (v := 0) X d_L_law_469 (by decide) ?_
    exact False.elim h
def C_L_law_7 (kk : (Int32 → CMu → (Nat → Nat → Int32) → (Nat → Int64) → Prop)) (L : Nat) (xs : Nat → Int32) (v4 : Int32) (cm : CMu) (mm : Nat → Nat → Int32) (oo : Nat → Int64) : Prop := (vp_in (v4 + 1) L) ∧ w_L_water (fun (r59 : Int32) (u60 : CMu × (Nat → Int64)) => (vp_in (v4 + 1) L) ∧ w_X13_water (fun (r62 : Int32) (u63 : (Nat → Nat → Int32)) => w_X13_thrown (fun (r64 : Int32) (u65 : (Nat → Nat → Int32)) => (r64 = r59 → ((¬ r59 = 0 → (kk (v4 + 6) u60.1 u65 u60.2)) ∧ (r59 = 0 → (((lg_cmp (u60.2 (Int32.toNatClampNeg (0 : Int32))) (Int32.toInt64 r62)) = 0 → (kk (v4 + 6) u60.1 u65 u60.2)) ∧ (¬ (lg_cmp (u60.2 (Int32.toNatClampNeg (0 : Int32))) (Int32.toInt64 r62)) = 0 → (False)))))) ∧ (¬ r64 = r59 → (False))) u63) (xs (Int32.toNatClampNeg (v4 + 1))) mm) (xs (Int32.toNatClampNeg (v4 + 1))) cm oo
set_option maxHeartbeats 4000000 in
set_option maxRecDepth 100000 in
theorem TC_L_law_7 (X : MC p l s m args meth c code 7 RL G ρ A) {L : Nat} {xs : Nat → Int32} (hX : va_X (ρ 5000) L xs s s.heap) (hb : ρ 5000 < s.heap.size) (hbA : ¬ A (ρ 5000)) {kk : (Int32 → CMu → (Nat → Nat → Int32) → (Nat → Int64) → Prop)} {n ce se : Nat} (hce : ce + 20 * (n + 1) ≤ 600000) (hse : se + 120 * (n + 1) ≤ 7200000) {v4 : Int32} {cm : CMu} {mm : Nat → Nat → Int32} {oo : Nat → Int64}
    (ih : ∀ (v4 : Int32) (cm : CMu) (mm : Nat → Nat → Int32) (oo : Nat → Int64) (ce se : Nat), ce + 20 * n ≤ 600000 → se + 120 * n ≤ 7200000 → kk v4 cm mm oo → LW p l e room_1 s m args below meth c Q G ρ A 7 ce se 23 [(0, .ref 5000), (1, .ref 1), (2, .ref 703), (3, .ref 715), (4, .int v4)] [] (cm, mm, oo))
    (h : C_L_law_7 kk L xs v4 cm mm oo) : LW p l e room_1 s m args below meth c Q G ρ A 7 ce se 491 [(0, .ref 5000), (1, .ref 1), (2, .ref 703), (3, .ref 715), (4, .int v4)] [] (cm, mm, oo) := by
  unfold C_L_law_7 at h
  refine L_aload_n (pc := 491) X d_L_law_491 rfl 1 rfl ?_
  refine L_aload_n (pc := 492) X d_L_law_492 rfl 0 rfl ?_
  refine L_iload (pc := 493) X d_L_law_493 4 rfl ?_
  refine L_iconst (pc := 495) (v := 1) X d_L_law_495 (by decide) ?_
  refine L_iadd (pc := 496) X d_L_law_496 ?_
  obtain ⟨q58, h⟩ := h
  refine L_sld (pc := 497) X hX hb hbA q58 d_L_law_497 ?_
  refine L_aload_n (pc := 498) X d_L_law_498 rfl 3 rfl ?_
  refine L_callSH (pc := 499) X lk_L_111 (c_L_water X.hst h) rfl rfl rfl ⟨by decide, by decide⟩ ⟨by show _ + 1 ≤ 601024; omega, by show _ + 6 ≤ 7293034; omega⟩ (Nat.zero_le _) d_L_law_499 rfl (fun r59 u60 h => ?_)
  refine L_istore (pc := 502) (lv2 := [(5, .int r59), (0, .ref 5000), (1, .ref 1), (2, .ref 703), (3, .ref 715), (4, .int v4)]) X d_L_law_502 (by decide) rfl ?_
  refine L_aload_n (pc := 504) X d_L_law_504 rfl 3 rfl ?_
  refine L_aload_n (pc := 505) X d_L_law_505 rfl 1 rfl ?_
  refine L_iload (pc := 506) X d_L_law_506 5 rfl ?_
  refine L_iconst (pc := 508) (v := 1) X d_L_law_508 (by decide) ?_
  refine L_iadd (pc := 509) X d_L_law_509 ?_
  obtain ⟨q61, h⟩ := h
  refine L_sld (pc := 510) X hX hb hbA q61 d_L_law_510 ?_
  refine L_callVI (pc := 511) X lk_L_113 (c_X13_water X.hst h) rfl rfl kd_703 (by decide) rfl rfl ⟨by decide, by decide⟩ ⟨by show _ + 0 ≤ 601024; omega, by show _ + 0 ≤ 7293034; omega⟩ (Nat.zero_le _) d_L_law_511 rfl (fun x κ1 hx => L_nox hx) (fun r62 u63 h => ?_)
  refine L_istore (pc := 514) (lv2 := [(6, .int r62), (5, .int r59), (0, .ref 5000), (1, .ref 1), (2, .ref 703), (3, .ref 715), (4, .int v4)]) X d_L_law_514 (by decide) rfl ?_
  refine L_aload_n (pc := 516) X d_L_law_516 rfl 4 rfl ?_
  refine L_callVI (pc := 517) X lk_L_93 (c_X13_thrown X.hst h) rfl rfl kd_703 (by decide) rfl rfl ⟨by decide, by decide⟩ ⟨by show _ + 0 ≤ 601024; omega, by show _ + 0 ≤ 7293034; omega⟩ (Nat.zero_le _) d_L_law_517 rfl (fun x κ1 hx => L_nox hx) (fun r64 u65 h => ?_)
  refine L_iload (pc := 520) X d_L_law_520 1 rfl ?_
  refine L_icmp_eq (pc := 522) (tgt := 527) X d_L_law_522 (by decide) (fun c522 => ?_) (fun c522 => ?_)
  · replace h := h.1 c522
    refine L_iload (pc := 527) X d_L_law_527 1 rfl ?_
    refine L_if_ne (pc := 529) (tgt := 544) X d_L_law_529 (by decide) (fun c529 => ?_) (fun c529 => ?_)
    · replace h := h.1 c529
      refine L_goto (pc := 544) (tgt := 1522) X d_L_law_544 (by decide) ?_
      refine L_iinc (pc := 1522) (v := v4 + 6) (lv2 := [(4, .int (v4 + 6)), (6, .int r62), (5, .int r59), (0, .ref 5000), (1, .ref 1), (2, .ref 703), (3, .ref 715)]) X d_L_law_1522 6 rfl rfl (by decide) rfl ?_
      refine L_goto (pc := 1525) (tgt := 23) X d_L_law_1525 (by decide) ?_
      refine LW.sub [3, 4, 5, 6, 0] rfl ?_
      exact ih _ _ _ _ _ _ (by omega) (by omega) h
    · replace h := h.2 c529
      refine L_aload_n (pc := 532) X d_L_law_532 rfl 5 rfl ?_
      refine L_iconst (pc := 533) (v := 0) X d_L_law_533 (by decide) ?_
      refine L_laldO (pc := 534) X (by unfold vp_in; decide) d_L_law_534 ?_
      refine L_iload (pc := 535) X d_L_law_535 0 rfl ?_
      refine L_i2l (pc := 537) X d_L_law_537 ?_
      refine L_lcmp (pc := 538) X d_L_law_538 ?_
      refine L_if_eq (pc := 539) (tgt := 544) X d_L_law_539 (by decide) (fun c539 => ?_) (fun c539 => ?_)
      · replace h := h.1 c539
        refine L_goto (pc := 544) (tgt := 1522) X d_L_law_544 (by decide) ?_
        refine L_iinc (pc := 1522) (v := v4 + 6) (lv2 := [(4, .int (v4 + 6)), (6, .int r62), (5, .int r59), (0, .ref 5000), (1, .ref 1), (2, .ref 703), (3, .ref 715)]) X d_L_law_1522 6 rfl rfl (by decide) rfl ?_
        refine L_goto (pc := 1525) (tgt := 23) X d_L_law_1525 (by decide) ?_
        refine LW.sub [3, 4, 5, 6, 0] rfl ?_
        exact ih _ _ _ _ _ _ (by omega) (by omega) h
      · replace h := h.2 c539
        refine L_iconst (pc := 542) (v := 0) X d_L_law_542 (by decide) ?_
        exact False.elim h
  · replace h := h.2 c522
    refine L_iconst (pc := 525) (v := 0) X d_L_law_525 (by decide) ?_
    exact False.elim h
def C_L_law_8 (kk : (Int32 → CMu → (Nat → Nat → Int32) → (Nat → Int64) → Prop)) (L : Nat) (xs : Nat → Int32) (v4 : Int32) (cm : CMu) (mm : Nat → Nat → Int32) (oo : Nat → Int64) : Prop := (vp_in (v4 + 1) L) ∧ (vp_in (v4 + 2) L) ∧ w_L_look (fun (r68 : Int32) (u69 : CMu × (Nat → Int64)) => (vp_in (v4 + 1) L) ∧ (vp_in (v4 + 2) L) ∧ w_X13_look (fun (r72 : Int32) (u73 : (Nat → Nat → Int32)) => w_X13_thrown (fun (r74 : Int32) (u75 : (Nat → Nat → Int32)) => (r74 = r68 → ((¬ r68 = 0 → (kk (v4 + 6) u69.1 u75 u69.2)) ∧ (r68 = 0 → (((lg_cmp (u69.2 (Int32.toNatClampNeg (0 : Int32))) (Int32.toInt64 r72)) = 0 → (kk (v4 + 6) u69.1 u75 u69.2)) ∧ (¬ (lg_cmp (u69.2 (Int32.toNatClampNeg (0 : Int32))) (Int32.toInt64 r72)) = 0 → (False)))))) ∧ (¬ r74 = r68 → (False))) u73) (xs (Int32.toNatClampNeg (v4 + 1))) (xs (Int32.toNatClampNeg (v4 + 2))) mm) (xs (Int32.toNatClampNeg (v4 + 1))) (xs (Int32.toNatClampNeg (v4 + 2))) cm oo
set_option maxHeartbeats 4000000 in
set_option maxRecDepth 100000 in
theorem TC_L_law_8 (X : MC p l s m args meth c code 7 RL G ρ A) {L : Nat} {xs : Nat → Int32} (hX : va_X (ρ 5000) L xs s s.heap) (hb : ρ 5000 < s.heap.size) (hbA : ¬ A (ρ 5000)) {kk : (Int32 → CMu → (Nat → Nat → Int32) → (Nat → Int64) → Prop)} {n ce se : Nat} (hce : ce + 20 * (n + 1) ≤ 600000) (hse : se + 120 * (n + 1) ≤ 7200000) {v4 : Int32} {cm : CMu} {mm : Nat → Nat → Int32} {oo : Nat → Int64}
    (ih : ∀ (v4 : Int32) (cm : CMu) (mm : Nat → Nat → Int32) (oo : Nat → Int64) (ce se : Nat), ce + 20 * n ≤ 600000 → se + 120 * n ≤ 7200000 → kk v4 cm mm oo → LW p l e room_1 s m args below meth c Q G ρ A 7 ce se 23 [(0, .ref 5000), (1, .ref 1), (2, .ref 703), (3, .ref 715), (4, .int v4)] [] (cm, mm, oo))
    (h : C_L_law_8 kk L xs v4 cm mm oo) : LW p l e room_1 s m args below meth c Q G ρ A 7 ce se 547 [(0, .ref 5000), (1, .ref 1), (2, .ref 703), (3, .ref 715), (4, .int v4)] [] (cm, mm, oo) := by
  unfold C_L_law_8 at h
  refine L_aload_n (pc := 547) X d_L_law_547 rfl 1 rfl ?_
  refine L_aload_n (pc := 548) X d_L_law_548 rfl 0 rfl ?_
  refine L_iload (pc := 549) X d_L_law_549 4 rfl ?_
  refine L_iconst (pc := 551) (v := 1) X d_L_law_551 (by decide) ?_
  refine L_iadd (pc := 552) X d_L_law_552 ?_
  obtain ⟨q66, h⟩ := h
  refine L_sld (pc := 553) X hX hb hbA q66 d_L_law_553 ?_
  refine L_aload_n (pc := 554) X d_L_law_554 rfl 0 rfl ?_
  refine L_iload (pc := 555) X d_L_law_555 4 rfl ?_
  refine L_iconst (pc := 557) (v := 2) X d_L_law_557 (by decide) ?_
  refine L_iadd (pc := 558) X d_L_law_558 ?_
  obtain ⟨q67, h⟩ := h
  refine L_sld (pc := 559) X hX hb hbA q67 d_L_law_559 ?_
  refine L_aload_n (pc := 560) X d_L_law_560 rfl 3 rfl ?_
  refine L_callSH (pc := 561) X lk_L_114 (c_L_look X.hst h) rfl rfl rfl ⟨by decide, by decide⟩ ⟨by show _ + 1 ≤ 601024; omega, by show _ + 6 ≤ 7293034; omega⟩ (Nat.zero_le _) d_L_law_561 rfl (fun r68 u69 h => ?_)
  refine L_istore (pc := 564) (lv2 := [(5, .int r68), (0, .ref 5000), (1, .ref 1), (2, .ref 703), (3, .ref 715), (4, .int v4)]) X d_L_law_564 (by decide) rfl ?_
  refine L_aload_n (pc := 566) X d_L_law_566 rfl 3 rfl ?_
  refine L_aload_n (pc := 567) X d_L_law_567 rfl 1 rfl ?_
  refine L_iload (pc := 568) X d_L_law_568 5 rfl ?_
  refine L_iconst (pc := 570) (v := 1) X d_L_law_570 (by decide) ?_
  refine L_iadd (pc := 571) X d_L_law_571 ?_
  obtain ⟨q70, h⟩ := h
  refine L_sld (pc := 572) X hX hb hbA q70 d_L_law_572 ?_
  refine L_aload_n (pc := 573) X d_L_law_573 rfl 1 rfl ?_
  refine L_iload (pc := 574) X d_L_law_574 5 rfl ?_
  refine L_iconst (pc := 576) (v := 2) X d_L_law_576 (by decide) ?_
  refine L_iadd (pc := 577) X d_L_law_577 ?_
  obtain ⟨q71, h⟩ := h
  refine L_sld (pc := 578) X hX hb hbA q71 d_L_law_578 ?_
  refine L_callVI (pc := 579) X lk_L_116 (c_X13_look X.hst h) rfl rfl kd_703 (by decide) rfl rfl ⟨by decide, by decide⟩ ⟨by show _ + 0 ≤ 601024; omega, by show _ + 0 ≤ 7293034; omega⟩ (Nat.zero_le _) d_L_law_579 rfl (fun x κ1 hx => L_nox hx) (fun r72 u73 h => ?_)
  refine L_istore (pc := 582) (lv2 := [(6, .int r72), (5, .int r68), (0, .ref 5000), (1, .ref 1), (2, .ref 703), (3, .ref 715), (4, .int v4)]) X d_L_law_582 (by decide) rfl ?_
  refine L_aload_n (pc := 584) X d_L_law_584 rfl 4 rfl ?_
  refine L_callVI (pc := 585) X lk_L_93 (c_X13_thrown X.hst h) rfl rfl kd_703 (by decide) rfl rfl ⟨by decide, by decide⟩ ⟨by show _ + 0 ≤ 601024; omega, by show _ + 0 ≤ 7293034; omega⟩ (Nat.zero_le _) d_L_law_585 rfl (fun x κ1 hx => L_nox hx) (fun r74 u75 h => ?_)
  refine L_iload (pc := 588) X d_L_law_588 1 rfl ?_
  refine L_icmp_eq (pc := 590) (tgt := 595) X d_L_law_590 (by decide) (fun c590 => ?_) (fun c590 => ?_)
  · replace h := h.1 c590
    refine L_iload (pc := 595) X d_L_law_595 1 rfl ?_
    refine L_if_ne (pc := 597) (tgt := 612) X d_L_law_597 (by decide) (fun c597 => ?_) (fun c597 => ?_)
    · replace h := h.1 c597
      refine L_goto (pc := 612) (tgt := 1522) X d_L_law_612 (by decide) ?_
      refine L_iinc (pc := 1522) (v := v4 + 6) (lv2 := [(4, .int (v4 + 6)), (6, .int r72), (5, .int r68), (0, .ref 5000), (1, .ref 1), (2, .ref 703), (3, .ref 715)]) X d_L_law_1522 6 rfl rfl (by decide) rfl ?_
      refine L_goto (pc := 1525) (tgt := 23) X d_L_law_1525 (by decide) ?_
      refine LW.sub [3, 4, 5, 6, 0] rfl ?_
      exact ih _ _ _ _ _ _ (by omega) (by omega) h
    · replace h := h.2 c597
      refine L_aload_n (pc := 600) X d_L_law_600 rfl 5 rfl ?_
      refine L_iconst (pc := 601) (v := 0) X d_L_law_601 (by decide) ?_
      refine L_laldO (pc := 602) X (by unfold vp_in; decide) d_L_law_602 ?_
      refine L_iload (pc := 603) X d_L_law_603 0 rfl ?_
      refine L_i2l (pc := 605) X d_L_law_605 ?_
      refine L_lcmp (pc := 606) X d_L_law_606 ?_
      refine L_if_eq (pc := 607) (tgt := 612) X d_L_law_607 (by decide) (fun c607 => ?_) (fun c607 => ?_)
      · replace h := h.1 c607
        refine L_goto (pc := 612) (tgt := 1522) X d_L_law_612 (by decide) ?_
        refine L_iinc (pc := 1522) (v := v4 + 6) (lv2 := [(4, .int (v4 + 6)), (6, .int r72), (5, .int r68), (0, .ref 5000), (1, .ref 1), (2, .ref 703), (3, .ref 715)]) X d_L_law_1522 6 rfl rfl (by decide) rfl ?_
        refine L_goto (pc := 1525) (tgt := 23) X d_L_law_1525 (by decide) ?_
        refine LW.sub [3, 4, 5, 6, 0] rfl ?_
        exact ih _ _ _ _ _ _ (by omega) (by omega) h
      · replace h := h.2 c607
        refine L_iconst (pc := 610) (v := 0) X d_L_law_610 (by decide) ?_
        exact False.elim h
  · replace h := h.2 c590
    refine L_iconst (pc := 593) (v := 0) X d_L_law_593 (by decide) ?_
    exact False.elim h
def C_L_law_9 (kk : (Int32 → CMu → (Nat → Nat → Int32) → (Nat → Int64) → Prop)) (L : Nat) (xs : Nat → Int32) (v4 : Int32) (cm : CMu) (mm : Nat → Nat → Int32) (oo : Nat → Int64) : Prop := (vp_in (v4 + 1) L) ∧ (vp_in (v4 + 2) L) ∧ w_L_camp (fun (r78 : Int32) (u79 : CMu × (Nat → Int64)) => (vp_in (v4 + 1) L) ∧ (vp_in (v4 + 2) L) ∧ w_X13_camp (fun (r82 : Int32) (u83 : (Nat → Nat → Int32)) => w_X13_thrown (fun (r84 : Int32) (u85 : (Nat → Nat → Int32)) => (r84 = r78 → ((¬ r78 = 0 → (kk (v4 + 6) u79.1 u85 u79.2)) ∧ (r78 = 0 → (((lg_cmp (u79.2 (Int32.toNatClampNeg (0 : Int32))) (Int32.toInt64 r82)) = 0 → (kk (v4 + 6) u79.1 u85 u79.2)) ∧ (¬ (lg_cmp (u79.2 (Int32.toNatClampNeg (0 : Int32))) (Int32.toInt64 r82)) = 0 → (False)))))) ∧ (¬ r84 = r78 → (False))) u83) (xs (Int32.toNatClampNeg (v4 + 1))) (xs (Int32.toNatClampNeg (v4 + 2))) mm) (xs (Int32.toNatClampNeg (v4 + 1))) (xs (Int32.toNatClampNeg (v4 + 2))) cm oo
set_option maxHeartbeats 4000000 in
set_option maxRecDepth 100000 in
theorem TC_L_law_9 (X : MC p l s m args meth c code 7 RL G ρ A) {L : Nat} {xs : Nat → Int32} (hX : va_X (ρ 5000) L xs s s.heap) (hb : ρ 5000 < s.heap.size) (hbA : ¬ A (ρ 5000)) {kk : (Int32 → CMu → (Nat → Nat → Int32) → (Nat → Int64) → Prop)} {n ce se : Nat} (hce : ce + 20 * (n + 1) ≤ 600000) (hse : se + 120 * (n + 1) ≤ 7200000) {v4 : Int32} {cm : CMu} {mm : Nat → Nat → Int32} {oo : Nat → Int64}
    (ih : ∀ (v4 : Int32) (cm : CMu) (mm : Nat → Nat → Int32) (oo : Nat → Int64) (ce se : Nat), ce + 20 * n ≤ 600000 → se + 120 * n ≤ 7200000 → kk v4 cm mm oo → LW p l e room_1 s m args below meth c Q G ρ A 7 ce se 23 [(0, .ref 5000), (1, .ref 1), (2, .ref 703), (3, .ref 715), (4, .int v4)] [] (cm, mm, oo))
    (h : C_L_law_9 kk L xs v4 cm mm oo) : LW p l e room_1 s m args below meth c Q G ρ A 7 ce se 615 [(0, .ref 5000), (1, .ref 1), (2, .ref 703), (3, .ref 715), (4, .int v4)] [] (cm, mm, oo) := by
  unfold C_L_law_9 at h
  refine L_aload_n (pc := 615) X d_L_law_615 rfl 1 rfl ?_
  refine L_aload_n (pc := 616) X d_L_law_616 rfl 0 rfl ?_
  refine L_iload (pc := 617) X d_L_law_617 4 rfl ?_
  refine L_iconst (pc := 619) (v := 1) X d_L_law_619 (by decide) ?_
  refine L_iadd (pc := 620) X d_L_law_620 ?_
  obtain ⟨q76, h⟩ := h
  refine L_sld (pc := 621) X hX hb hbA q76 d_L_law_621 ?_
  refine L_aload_n (pc := 622) X d_L_law_622 rfl 0 rfl ?_
  refine L_iload (pc := 623) X d_L_law_623 4 rfl ?_
  refine L_iconst (pc := 625) (v := 2) X d_L_law_625 (by decide) ?_
  refine L_iadd (pc := 626) X d_L_law_626 ?_
  obtain ⟨q77, h⟩ := h
  refine L_sld (pc := 627) X hX hb hbA q77 d_L_law_627 ?_
  refine L_aload_n (pc := 628) X d_L_law_628 rfl 3 rfl ?_
  refine L_callSH (pc := 629) X lk_L_117 (c_L_camp X.hst h) rfl rfl rfl ⟨by decide, by decide⟩ ⟨by show _ + 2 ≤ 601024; omega, by show _ + 12 ≤ 7293034; omega⟩ (Nat.zero_le _) d_L_law_629 rfl (fun r78 u79 h => ?_)
  refine L_istore (pc := 632) (lv2 := [(5, .int r78), (0, .ref 5000), (1, .ref 1), (2, .ref 703), (3, .ref 715), (4, .int v4)]) X d_L_law_632 (by decide) rfl ?_
  refine L_aload_n (pc := 634) X d_L_law_634 rfl 3 rfl ?_
  refine L_aload_n (pc := 635) X d_L_law_635 rfl 1 rfl ?_
  refine L_iload (pc := 636) X d_L_law_636 5 rfl ?_
  refine L_iconst (pc := 638) (v := 1) X d_L_law_638 (by decide) ?_
  refine L_iadd (pc := 639) X d_L_law_639 ?_
  obtain ⟨q80, h⟩ := h
  refine L_sld (pc := 640) X hX hb hbA q80 d_L_law_640 ?_
  refine L_aload_n (pc := 641) X d_L_law_641 rfl 1 rfl ?_
  refine L_iload (pc := 642) X d_L_law_642 5 rfl ?_
  refine L_iconst (pc := 644) (v := 2) X d_L_law_644 (by decide) ?_
  refine L_iadd (pc := 645) X d_L_law_645 ?_
  obtain ⟨q81, h⟩ := h
  refine L_sld (pc := 646) X hX hb hbA q81 d_L_law_646 ?_
  refine L_callVI (pc := 647) X lk_L_119 (c_X13_camp X.hst h) rfl rfl kd_703 (by decide) rfl rfl ⟨by decide, by decide⟩ ⟨by show _ + 0 ≤ 601024; omega, by show _ + 0 ≤ 7293034; omega⟩ (Nat.zero_le _) d_L_law_647 rfl (fun x κ1 hx => L_nox hx) (fun r82 u83 h => ?_)
  refine L_istore (pc := 650) (lv2 := [(6, .int r82), (5, .int r78), (0, .ref 5000), (1, .ref 1), (2, .ref 703), (3, .ref 715), (4, .int v4)]) X d_L_law_650 (by decide) rfl ?_
  refine L_aload_n (pc := 652) X d_L_law_652 rfl 4 rfl ?_
  refine L_callVI (pc := 653) X lk_L_93 (c_X13_thrown X.hst h) rfl rfl kd_703 (by decide) rfl rfl ⟨by decide, by decide⟩ ⟨by show _ + 0 ≤ 601024; omega, by show _ + 0 ≤ 7293034; omega⟩ (Nat.zero_le _) d_L_law_653 rfl (fun x κ1 hx => L_nox hx) (fun r84 u85 h => ?_)
  refine L_iload (pc := 656) X d_L_law_656 1 rfl ?_
  refine L_icmp_eq (pc := 658) (tgt := 663) X d_L_law_658 (by decide) (fun c658 => ?_) (fun c658 => ?_)
  · replace h := h.1 c658
    refine L_iload (pc := 663) X d_L_law_663 1 rfl ?_
    refine L_if_ne (pc := 665) (tgt := 680) X d_L_law_665 (by decide) (fun c665 => ?_) (fun c665 => ?_)
    · replace h := h.1 c665
      refine L_goto (pc := 680) (tgt := 1522) X d_L_law_680 (by decide) ?_
      refine L_iinc (pc := 1522) (v := v4 + 6) (lv2 := [(4, .int (v4 + 6)), (6, .int r82), (5, .int r78), (0, .ref 5000), (1, .ref 1), (2, .ref 703), (3, .ref 715)]) X d_L_law_1522 6 rfl rfl (by decide) rfl ?_
      refine L_goto (pc := 1525) (tgt := 23) X d_L_law_1525 (by decide) ?_
      refine LW.sub [3, 4, 5, 6, 0] rfl ?_
      exact ih _ _ _ _ _ _ (by omega) (by omega) h
    · replace h := h.2 c665
      refine L_aload_n (pc := 668) X d_L_law_668 rfl 5 rfl ?_
      refine L_iconst (pc := 669) (v := 0) X d_L_law_669 (by decide) ?_
      refine L_laldO (pc := 670) X (by unfold vp_in; decide) d_L_law_670 ?_
      refine L_iload (pc := 671) X d_L_law_671 0 rfl ?_
      refine L_i2l (pc := 673) X d_L_law_673 ?_
      refine L_lcmp (pc := 674) X d_L_law_674 ?_
      refine L_if_eq (pc := 675) (tgt := 680) X d_L_law_675 (by decide) (fun c675 => ?_) (fun c675 => ?_)
      · replace h := h.1 c675
        refine L_goto (pc := 680) (tgt := 1522) X d_L_law_680 (by decide) ?_
        refine L_iinc (pc := 1522) (v := v4 + 6) (lv2 := [(4, .int (v4 + 6)), (6, .int r82), (5, .int r78), (0, .ref 5000), (1, .ref 1), (2, .ref 703), (3, .ref 715)]) X d_L_law_1522 6 rfl rfl (by decide) rfl ?_
        refine L_goto (pc := 1525) (tgt := 23) X d_L_law_1525 (by decide) ?_
        refine LW.sub [3, 4, 5, 6, 0] rfl ?_
        exact ih _ _ _ _ _ _ (by omega) (by omega) h
      · replace h := h.2 c675
        refine L_iconst (pc := 678) (v := 0) X d_L_law_678 (by decide) ?_
        exact False.elim h
  · replace h := h.2 c658
    refine L_iconst (pc := 661) (v := 0) X d_L_law_661 (by decide) ?_
    exact False.elim h
def C_L_law_10 (kk : (Int32 → CMu → (Nat → Nat → Int32) → (Nat → Int64) → Prop)) (L : Nat) (xs : Nat → Int32) (v4 : Int32) (cm : CMu) (mm : Nat → Nat → Int32) (oo : Nat → Int64) : Prop := (vp_in (v4 + 1) L) ∧ (vp_in (v4 + 2) L) ∧ w_L_reach (fun (r88 : Int32) (u89 : CMu × (Nat → Int64)) => (vp_in (v4 + 1) L) ∧ (vp_in (v4 + 2) L) ∧ w_X13_reach (fun (r92 : Int32) (u93 : (Nat → Nat → Int32)) => w_X13_thrown (fun (r94 : Int32) (u95 : (Nat → Nat → Int32)) => (r94 = r88 → ((¬ r88 = 0 → (kk (v4 + 6) u89.1 u95 u89.2)) ∧ (r88 = 0 → (((lg_cmp (u89.2 (Int32.toNatClampNeg (0 : Int32))) (Int32.toInt64 r92)) = 0 → (kk (v4 + 6) u89.1 u95 u89.2)) ∧ (¬ (lg_cmp (u89.2 (Int32.toNatClampNeg (0 : Int32))) (Int32.toInt64 r92)) = 0 → (False)))))) ∧ (¬ r94 = r88 → (False))) u93) (xs (Int32.toNatClampNeg (v4 + 1))) (xs (Int32.toNatClampNeg (v4 + 2))) mm) (xs (Int32.toNatClampNeg (v4 + 1))) (xs (Int32.toNatClampNeg (v4 + 2))) cm oo
set_option maxHeartbeats 4000000 in
set_option maxRecDepth 100000 in
theorem TC_L_law_10 (X : MC p l s m args meth c code 7 RL G ρ A) {L : Nat} {xs : Nat → Int32} (hX : va_X (ρ 5000) L xs s s.heap) (hb : ρ 5000 < s.heap.size) (hbA : ¬ A (ρ 5000)) {kk : (Int32 → CMu → (Nat → Nat → Int32) → (Nat → Int64) → Prop)} {n ce se : Nat} (hce : ce + 20 * (n + 1) ≤ 600000) (hse : se + 120 * (n + 1) ≤ 7200000) {v4 : Int32} {cm : CMu} {mm : Nat → Nat → Int32} {oo : Nat → Int64}
    (ih : ∀ (v4 : Int32) (cm : CMu) (mm : Nat → Nat → Int32) (oo : Nat → Int64) (ce se : Nat), ce + 20 * n ≤ 600000 → se + 120 * n ≤ 7200000 → kk v4 cm mm oo → LW p l e room_1 s m args below meth c Q G ρ A 7 ce se 23 [(0, .ref 5000), (1, .ref 1), (2, .ref 703), (3, .ref 715), (4, .int v4)] [] (cm, mm, oo))
    (h : C_L_law_10 kk L xs v4 cm mm oo) : LW p l e room_1 s m args below meth c Q G ρ A 7 ce se 683 [(0, .ref 5000), (1, .ref 1), (2, .ref 703), (3, .ref 715), (4, .int v4)] [] (cm, mm, oo) := by
  unfold C_L_law_10 at h
  refine L_aload_n (pc := 683) X d_L_law_683 rfl 1 rfl ?_
  refine L_aload_n (pc := 684) X d_L_law_684 rfl 0 rfl ?_
  refine L_iload (pc := 685) X d_L_law_685 4 rfl ?_
  refine L_iconst (pc := 687) (v := 1) X d_L_law_687 (by decide) ?_
  refine L_iadd (pc := 688) X d_L_law_688 ?_
  obtain ⟨q86, h⟩ := h
  refine L_sld (pc := 689) X hX hb hbA q86 d_L_law_689 ?_
  refine L_aload_n (pc := 690) X d_L_law_690 rfl 0 rfl ?_
  refine L_iload (pc := 691) X d_L_law_691 4 rfl ?_
  refine L_iconst (pc := 693) (v := 2) X d_L_law_693 (by decide) ?_
  refine L_iadd (pc := 694) X d_L_law_694 ?_
  obtain ⟨q87, h⟩ := h
  refine L_sld (pc := 695) X hX hb hbA q87 d_L_law_695 ?_
  refine L_aload_n (pc := 696) X d_L_law_696 rfl 3 rfl ?_
  refine L_callSH (pc := 697) X lk_L_120 (c_L_reach X.hst h) rfl rfl rfl ⟨by decide, by decide⟩ ⟨by show _ + 2 ≤ 601024; omega, by show _ + 12 ≤ 7293034; omega⟩ (Nat.zero_le _) d_L_law_697 rfl (fun r88 u89 h => ?_)
  refine L_istore (pc := 700) (lv2 := [(5, .int r88), (0, .ref 5000), (1, .ref 1), (2, .ref 703), (3, .ref 715), (4, .int v4)]) X d_L_law_700 (by decide) rfl ?_
  refine L_aload_n (pc := 702) X d_L_law_702 rfl 3 rfl ?_
  refine L_aload_n (pc := 703) X d_L_law_703 rfl 1 rfl ?_
  refine L_iload (pc := 704) X d_L_law_704 5 rfl ?_
  refine L_iconst (pc := 706) (v := 1) X d_L_law_706 (by decide) ?_
  refine L_iadd (pc := 707) X d_L_law_707 ?_
  obtain ⟨q90, h⟩ := h
  refine L_sld (pc := 708) X hX hb hbA q90 d_L_law_708 ?_
  refine L_aload_n (pc := 709) X d_L_law_709 rfl 1 rfl ?_
  refine L_iload (pc := 710) X d_L_law_710 5 rfl ?_
  refine L_iconst (pc := 712) (v := 2) X d_L_law_712 (by decide) ?_
  refine L_iadd (pc := 713) X d_L_law_713 ?_
  obtain ⟨q91, h⟩ := h
  refine L_sld (pc := 714) X hX hb hbA q91 d_L_law_714 ?_
  refine L_callVI (pc := 715) X lk_L_122 (c_X13_reach X.hst h) rfl rfl kd_703 (by decide) rfl rfl ⟨by decide, by decide⟩ ⟨by show _ + 0 ≤ 601024; omega, by show _ + 0 ≤ 7293034; omega⟩ (Nat.zero_le _) d_L_law_715 rfl (fun x κ1 hx => L_nox hx) (fun r92 u93 h => ?_)
  refine L_istore (pc := 718) (lv2 := [(6, .int r92), (5, .int r88), (0, .ref 5000), (1, .ref 1), (2, .ref 703), (3, .ref 715), (4, .int v4)]) X d_L_law_718 (by decide) rfl ?_
  refine L_aload_n (pc := 720) X d_L_law_720 rfl 4 rfl ?_
  refine L_callVI (pc := 721) X lk_L_93 (c_X13_thrown X.hst h) rfl rfl kd_703 (by decide) rfl rfl ⟨by decide, by decide⟩ ⟨by show _ + 0 ≤ 601024; omega, by show _ + 0 ≤ 7293034; omega⟩ (Nat.zero_le _) d_L_law_721 rfl (fun x κ1 hx => L_nox hx) (fun r94 u95 h => ?_)
  refine L_iload (pc := 724) X d_L_law_724 1 rfl ?_
  refine L_icmp_eq (pc := 726) (tgt := 731) X d_L_law_726 (by decide) (fun c726 => ?_) (fun c726 => ?_)
  · replace h := h.1 c726
    refine L_iload (pc := 731) X d_L_law_731 1 rfl ?_
    refine L_if_ne (pc := 733) (tgt := 748) X d_L_law_733 (by decide) (fun c733 => ?_) (fun c733 => ?_)
    · replace h := h.1 c733
      refine L_goto (pc := 748) (tgt := 1522) X d_L_law_748 (by decide) ?_
      refine L_iinc (pc := 1522) (v := v4 + 6) (lv2 := [(4, .int (v4 + 6)), (6, .int r92), (5, .int r88), (0, .ref 5000), (1, .ref 1), (2, .ref 703), (3, .ref 715)]) X d_L_law_1522 6 rfl rfl (by decide) rfl ?_
      refine L_goto (pc := 1525) (tgt := 23) X d_L_law_1525 (by decide) ?_
      refine LW.sub [3, 4, 5, 6, 0] rfl ?_
      exact ih _ _ _ _ _ _ (by omega) (by omega) h
    · replace h := h.2 c733
      refine L_aload_n (pc := 736) X d_L_law_736 rfl 5 rfl ?_
      refine L_iconst (pc := 737) (v := 0) X d_L_law_737 (by decide) ?_
      refine L_laldO (pc := 738) X (by unfold vp_in; decide) d_L_law_738 ?_
      refine L_iload (pc := 739) X d_L_law_739 0 rfl ?_
      refine L_i2l (pc := 741) X d_L_law_741 ?_
      refine L_lcmp (pc := 742) X d_L_law_742 ?_
      refine L_if_eq (pc := 743) (tgt := 748) X d_L_law_743 (by decide) (fun c743 => ?_) (fun c743 => ?_)
      · replace h := h.1 c743
        refine L_goto (pc := 748) (tgt := 1522) X d_L_law_748 (by decide) ?_
        refine L_iinc (pc := 1522) (v := v4 + 6) (lv2 := [(4, .int (v4 + 6)), (6, .int r92), (5, .int r88), (0, .ref 5000), (1, .ref 1), (2, .ref 703), (3, .ref 715)]) X d_L_law_1522 6 rfl rfl (by decide) rfl ?_
        refine L_goto (pc := 1525) (tgt := 23) X d_L_law_1525 (by decide) ?_
        refine LW.sub [3, 4, 5, 6, 0] rfl ?_
        exact ih _ _ _ _ _ _ (by omega) (by omega) h
      · replace h := h.2 c743
        refine L_iconst (pc := 746) (v := 0) X d_L_law_746 (by decide) ?_
        exact False.elim h
  · replace h := h.2 c726
    refine L_iconst (pc := 729) (v := 0) X d_L_law_729 (by decide) ?_
    exact False.elim h
def C_L_law_11 (kk : (Int32 → CMu → (Nat → Nat → Int32) → (Nat → Int64) → Prop)) (L : Nat) (xs : Nat → Int32) (v4 : Int32) (cm : CMu) (mm : Nat → Nat → Int32) (oo : Nat → Int64) : Prop := (vp_in (v4 + 1) L) ∧ w_X12_out (fun (r97 : Int32) (u98 : CMu) => (vp_in (v4 + 1) L) ∧ w_X13_out (fun (r100 : Int32) (u101 : (Nat → Nat → Int32)) => (r97 = r100 → (kk (v4 + 6) u98 u101 oo)) ∧ (¬ r97 = r100 → (False))) (xs (Int32.toNatClampNeg (v4 + 1))) mm) (xs (Int32.toNatClampNeg (v4 + 1))) cm
set_option maxHeartbeats 4000000 in
set_option maxRecDepth 100000 in
theorem TC_L_law_11 (X : MC p l s m args meth c code 7 RL G ρ A) {L : Nat} {xs : Nat → Int32} (hX : va_X (ρ 5000) L xs s s.heap) (hb : ρ 5000 < s.heap.size) (hbA : ¬ A (ρ 5000)) {kk : (Int32 → CMu → (Nat → Nat → Int32) → (Nat → Int64) → Prop)} {n ce se : Nat} (hce : ce + 20 * (n + 1) ≤ 600000) (hse : se + 120 * (n + 1) ≤ 7200000) {v4 : Int32} {cm : CMu} {mm : Nat → Nat → Int32} {oo : Nat → Int64}
    (ih : ∀ (v4 : Int32) (cm : CMu) (mm : Nat → Nat → Int32) (oo : Nat → Int64) (ce se : Nat), ce + 20 * n ≤ 600000 → se + 120 * n ≤ 7200000 → kk v4 cm mm oo → LW p l e room_1 s m args below meth c Q G ρ A 7 ce se 23 [(0, .ref 5000), (1, .ref 1), (2, .ref 703), (3, .ref 715), (4, .int v4)] [] (cm, mm, oo))
    (h : C_L_law_11 kk L xs v4 cm mm oo) : LW p l e room_1 s m args below meth c Q G ρ A 7 ce se 751 [(0, .ref 5000), (1, .ref 1), (2, .ref 703), (3, .ref 715), (4, .int v4)] [] (cm, mm, oo) := by
  unfold C_L_law_11 at h
  refine L_aload_n (pc := 751) X d_L_law_751 rfl 1 rfl ?_
  refine L_aload_n (pc := 752) X d_L_law_752 rfl 0 rfl ?_
  refine L_iload (pc := 753) X d_L_law_753 4 rfl ?_
  refine L_iconst (pc := 755) (v := 1) X d_L_law_755 (by decide) ?_
  refine L_iadd (pc := 756) X d_L_law_756 ?_
  obtain ⟨q96, h⟩ := h
  refine L_sld (pc := 757) X hX hb hbA q96 d_L_law_757 ?_
  refine L_callVI (pc := 758) X lk_L_123 (c_X12_out X.hst h) rfl rfl kd_1 (by decide) rfl rfl ⟨by decide, by decide⟩ ⟨by show _ + 0 ≤ 601024; omega, by show _ + 0 ≤ 7293034; omega⟩ (Nat.zero_le _) d_L_law_758 rfl (fun x κ1 hx => L_nox hx) (fun r97 u98 h => ?_)
  refine L_aload_n (pc := 761) X d_L_law_761 rfl 2 rfl ?_
  refine L_aload_n (pc := 762) X d_L_law_762 rfl 0 rfl ?_
  refine L_iload (pc := 763) X d_L_law_763 4 rfl ?_
  refine L_iconst (pc := 765) (v := 1) X d_L_law_765 (by decide) ?_
  refine L_iadd (pc := 766) X d_L_law_766 ?_
  obtain ⟨q99, h⟩ := h
  refine L_sld (pc := 767) X hX hb hbA q99 d_L_law_767 ?_
  refine L_callVI (pc := 768) X lk_L_126 (c_X13_out X.hst h) rfl rfl kd_703 (by decide) rfl rfl ⟨by decide, by decide⟩ ⟨by show _ + 0 ≤ 601024; omega, by show _ + 0 ≤ 7293034; omega⟩ (Nat.le_of_ble_eq_true rfl) d_L_law_768 rfl (fun x κ1 hx => L_nox hx) (fun r100 u101 h => ?_)
  refine L_icmp_eq (pc := 771) (tgt := 1522) X d_L_law_771 (by decide) (fun c771 => ?_) (fun c771 => ?_)
  · replace h := h.1 c771
    refine L_iinc (pc := 1522) (v := v4 + 6) (lv2 := [(4, .int (v4 + 6)), (0, .ref 5000), (1, .ref 1), (2, .ref 703), (3, .ref 715)]) X d_L_law_1522 4 rfl rfl (by decide) rfl ?_
    refine L_goto (pc := 1525) (tgt := 23) X d_L_law_1525 (by decide) ?_
    refine LW.sub [1, 2, 3, 4, 0] rfl ?_
    exact ih _ _ _ _ _ _ (by omega) (by omega) h
  · replace h := h.2 c771
    refine L_iconst (pc := 774) (v := 0) X d_L_law_774 (by decide) ?_
    exact False.elim h
def C_L_law_12 (kk : (Int32 → CMu → (Nat → Nat → Int32) → (Nat → Int64) → Prop)) (L : Nat) (xs : Nat → Int32) (v4 : Int32) (cm : CMu) (mm : Nat → Nat → Int32) (oo : Nat → Int64) : Prop := (vp_in (v4 + 1) L) ∧ (vp_in (v4 + 2) L) ∧ (vp_in (v4 + 3) L) ∧ (vp_in (v4 + 4) L) ∧ w_L_time (fun (r106 : Int32) (u107 : CMu × (Nat → Int64)) => (vp_in (v4 + 1) L) ∧ (vp_in (v4 + 2) L) ∧ (vp_in (v4 + 3) L) ∧ (vp_in (v4 + 4) L) ∧ w_X13_time (fun (r112 : Int32) (u113 : (Nat → Nat → Int32)) => w_X13_thrown (fun (r114 : Int32) (u115 : (Nat → Nat → Int32)) => (r114 = r106 → ((¬ r106 = 0 → (kk (v4 + 6) u107.1 u115 u107.2)) ∧ (r106 = 0 → (((lg_cmp (u107.2 (Int32.toNatClampNeg (0 : Int32))) (Int32.toInt64 r112)) = 0 → (kk (v4 + 6) u107.1 u115 u107.2)) ∧ (¬ (lg_cmp (u107.2 (Int32.toNatClampNeg (0 : Int32))) (Int32.toInt64 r112)) = 0 → (False)))))) ∧ (¬ r114 = r106 → (False))) u113) (xs (Int32.toNatClampNeg (v4 + 1))) (xs (Int32.toNatClampNeg (v4 + 2))) (xs (Int32.toNatClampNeg (v4 + 3))) (xs (Int32.toNatClampNeg (v4 + 4))) mm) (xs (Int32.toNatClampNeg (v4 + 1))) (xs (Int32.toNatClampNeg (v4 + 2))) (xs (Int32.toNatClampNeg (v4 + 3))) (xs (Int32.toNatClampNeg (v4 + 4))) cm oo
set_option maxHeartbeats 4000000 in
set_option maxRecDepth 100000 in
theorem TC_L_law_12 (X : MC p l s m args meth c code 7 RL G ρ A) {L : Nat} {xs : Nat → Int32} (hX : va_X (ρ 5000) L xs s s.heap) (hb : ρ 5000 < s.heap.size) (hbA : ¬ A (ρ 5000)) {kk : (Int32 → CMu → (Nat → Nat → Int32) → (Nat → Int64) → Prop)} {n ce se : Nat} (hce : ce + 20 * (n + 1) ≤ 600000) (hse : se + 120 * (n + 1) ≤ 7200000) {v4 : Int32} {cm : CMu} {mm : Nat → Nat → Int32} {oo : Nat → Int64}
    (ih : ∀ (v4 : Int32) (cm : CMu) (mm : Nat → Nat → Int32) (oo : Nat → Int64) (ce se : Nat), ce + 20 * n ≤ 600000 → se + 120 * n ≤ 7200000 → kk v4 cm mm oo → LW p l e room_1 s m args below meth c Q G ρ A 7 ce se 23 [(0, .ref 5000), (1, .ref 1), (2, .ref 703), (3, .ref 715), (4, .int v4)] [] (cm, mm, oo))
    (h : C_L_law_12 kk L xs v4 cm mm oo) : LW p l e room_1 s m args below meth c Q G ρ A 7 ce se 776 [(0, .ref 5000), (1, .ref 1), (2, .ref 703), (3, .ref 715), (4, .int v4)] [] (cm, mm, oo) := by
  unfold C_L_law_12 at h
  refine L_aload_n (pc := 776) X d_L_law_776 rfl 1 rfl ?_
  refine L_aload_n (pc := 777) X d_L_law_777 rfl 0 rfl ?_
  refine L_iload (pc := 778) X d_L_law_778 4 rfl ?_
  refine L_iconst (pc := 780) (v := 1) X d_L_law_780 (by decide) ?_
  refine L_iadd (pc := 781) X d_L_law_781 ?_
  obtain ⟨q102, h⟩ := h
  refine L_sld (pc := 782) X hX hb hbA q102 d_L_law_782 ?_
  refine L_aload_n (pc := 783) X d_L_law_783 rfl 0 rfl ?_
  refine L_iload (pc := 784) X d_L_law_784 4 rfl ?_
  refine L_iconst (pc := 786) (v := 2) X d_L_law_786 (by decide) ?_
  refine L_iadd (pc := 787) X d_L_law_787 ?_
  obtain ⟨q103, h⟩ := h
  refine L_sld (pc := 788) X hX hb hbA q103 d_L_law_788 ?_
  refine L_aload_n (pc := 789) X d_L_law_789 rfl 0 rfl ?_
  refine L_iload (pc := 790) X d_L_law_790 4 rfl ?_
  refine L_iconst (pc := 792) (v := 3) X d_L_law_792 (by decide) ?_
  refine L_iadd (pc := 793) X d_L_law_793 ?_
  obtain ⟨q104, h⟩ := h
  refine L_sld (pc := 794) X hX hb hbA q104 d_L_law_794 ?_
  refine L_aload_n (pc := 795) X d_L_law_795 rfl 0 rfl ?_
  refine L_iload (pc := 796) X d_L_law_796 4 rfl ?_
  refine L_iconst (pc := 798) (v := 4) X d_L_law_798 (by decide) ?_
  refine L_iadd (pc := 799) X d_L_law_799 ?_
  obtain ⟨q105, h⟩ := h
  refine L_sld (pc := 800) X hX hb hbA q105 d_L_law_800 ?_
  refine L_aload_n (pc := 801) X d_L_law_801 rfl 3 rfl ?_
  refine L_callSH (pc := 802) X lk_L_127 (c_L_time X.hst h) rfl rfl rfl ⟨by decide, by decide⟩ ⟨by show _ + 5 ≤ 601024; omega, by show _ + 30 ≤ 7293034; omega⟩ (Nat.zero_le _) d_L_law_802 rfl (fun r106 u107 h => ?_)
  refine L_istore (pc := 805) (lv2 := [(5, .int r106), (0, .ref 5000), (1, .ref 1), (2, .ref 703), (3, .ref 715), (4, .int v4)]) X d_L_law_805 (by decide) rfl ?_
  refine L_aload_n (pc := 807) X d_L_law_807 rfl 3 rfl ?_
  refine L_aload_n (pc := 808) X d_L_law_808 rfl 1 rfl ?_
  refine L_iload (pc := 809) X d_L_law_809 5 rfl ?_
  refine L_iconst (pc := 811) (v := 1) X d_L_law_811 (by decide) ?_
  refine L_iadd (pc := 812) X d_L_law_812 ?_
  obtain ⟨q108, h⟩ := h
  refine L_sld (pc := 813) X hX hb hbA q108 d_L_law_813 ?_
  refine L_aload_n (pc := 814) X d_L_law_814 rfl 1 rfl ?_
  refine L_iload (pc := 815) X d_L_law_815 5 rfl ?_
  refine L_iconst (pc := 817) (v := 2) X d_L_law_817 (by decide) ?_
  refine L_iadd (pc := 818) X d_L_law_818 ?_
  obtain ⟨q109, h⟩ := h
  refine L_sld (pc := 819) X hX hb hbA q109 d_L_law_819 ?_
  refine L_aload_n (pc := 820) X d_L_law_820 rfl 1 rfl ?_
  refine L_iload (pc := 821) X d_L_law_821 5 rfl ?_
  refine L_iconst (pc := 823) (v := 3) X d_L_law_823 (by decide) ?_
  refine L_iadd (pc := 824) X d_L_law_824 ?_
  obtain ⟨q110, h⟩ := h
  refine L_sld (pc := 825) X hX hb hbA q110 d_L_law_825 ?_
  refine L_aload_n (pc := 826) X d_L_law_826 rfl 1 rfl ?_
  refine L_iload (pc := 827) X d_L_law_827 5 rfl ?_
  refine L_iconst (pc := 829) (v := 4) X d_L_law_829 (by decide) ?_
  refine L_iadd (pc := 830) X d_L_law_830 ?_
  obtain ⟨q111, h⟩ := h
  refine L_sld (pc := 831) X hX hb hbA q111 d_L_law_831 ?_
  refine L_callVI (pc := 832) X lk_L_130 (c_X13_time X.hst h) rfl rfl kd_703 (by decide) rfl rfl ⟨by decide, by decide⟩ ⟨by show _ + 0 ≤ 601024; omega, by show _ + 0 ≤ 7293034; omega⟩ (Nat.zero_le _) d_L_law_832 rfl (fun x κ1 hx => L_nox hx) (fun r112 u113 h => ?_)
  refine L_istore (pc := 835) (lv2 := [(6, .int r112), (5, .int r106), (0, .ref 5000), (1, .ref 1), (2, .ref 703), (3, .ref 715), (4, .int v4)]) X d_L_law_835 (by decide) rfl ?_
  refine L_aload_n (pc := 837) X d_L_law_837 rfl 4 rfl ?_
  refine L_callVI (pc := 838) X lk_L_93 (c_X13_thrown X.hst h) rfl rfl kd_703 (by decide) rfl rfl ⟨by decide, by decide⟩ ⟨by show _ + 0 ≤ 601024; omega, by show _ + 0 ≤ 7293034; omega⟩ (Nat.zero_le _) d_L_law_838 rfl (fun x κ1 hx => L_nox hx) (fun r114 u115 h => ?_)
  refine L_iload (pc := 841) X d_L_law_841 1 rfl ?_
  refine L_icmp_eq (pc := 843) (tgt := 848) X d_L_law_843 (by decide) (fun c843 => ?_) (fun c843 => ?_)
  · replace h := h.1 c843
    refine L_iload (pc := 848) X d_L_law_848 1 rfl ?_
    refine L_if_ne (pc := 850) (tgt := 865) X d_L_law_850 (by decide) (fun c850 => ?_) (fun c850 => ?_)
    · replace h := h.1 c850
      refine L_goto (pc := 865) (tgt := 1522) X d_L_law_865 (by decide) ?_
      refine L_iinc (pc := 1522) (v := v4 + 6) (lv2 := [(4, .int (v4 + 6)), (6, .int r112), (5, .int r106), (0, .ref 5000), (1, .ref 1), (2, .ref 703), (3, .ref 715)]) X d_L_law_1522 6 rfl rfl (by decide) rfl ?_
      refine L_goto (pc := 1525) (tgt := 23) X d_L_law_1525 (by decide) ?_
      refine LW.sub [3, 4, 5, 6, 0] rfl ?_
      exact ih _ _ _ _ _ _ (by omega) (by omega) h
    · replace h := h.2 c850
      refine L_aload_n (pc := 853) X d_L_law_853 rfl 5 rfl ?_
      refine L_iconst (pc := 854) (v := 0) X d_L_law_854 (by decide) ?_
      refine L_laldO (pc := 855) X (by unfold vp_in; decide) d_L_law_855 ?_
      refine L_iload (pc := 856) X d_L_law_856 0 rfl ?_
      refine L_i2l (pc := 858) X d_L_law_858 ?_
      refine L_lcmp (pc := 859) X d_L_law_859 ?_
      refine L_if_eq (pc := 860) (tgt := 865) X d_L_law_860 (by decide) (fun c860 => ?_) (fun c860 => ?_)
      · replace h := h.1 c860
        refine L_goto (pc := 865) (tgt := 1522) X d_L_law_865 (by decide) ?_
        refine L_iinc (pc := 1522) (v := v4 + 6) (lv2 := [(4, .int (v4 + 6)), (6, .int r112), (5, .int r106), (0, .ref 5000), (1, .ref 1), (2, .ref 703), (3, .ref 715)]) X d_L_law_1522 6 rfl rfl (by decide) rfl ?_
        refine L_goto (pc := 1525) (tgt := 23) X d_L_law_1525 (by decide) ?_
        refine LW.sub [3, 4, 5, 6, 0] rfl ?_
        exact ih _ _ _ _ _ _ (by omega) (by omega) h
      · replace h := h.2 c860
        refine L_iconst (pc := 863) (v := 0) X d_L_law_863 (by decide) ?_
        exact False.elim h
  · replace h := h.2 c843
    refine L_iconst (pc := 846) (v := 0) X d_L_law_846 (by decide) ?_
    exact False.elim h
def C_L_law_13 (kk : (Int32 → CMu → (Nat → Nat → Int32) → (Nat → Int64) → Prop)) (L : Nat) (xs : Nat → Int32) (v4 : Int32) (cm : CMu) (mm : Nat → Nat → Int32) (oo : Nat → Int64) : Prop := (vp_in (v4 + 1) L) ∧ (vp_in (v4 + 2) L) ∧ (vp_in (v4 + 3) L) ∧ (vp_in (v4 + 4) L) ∧ (vp_in (v4 + 5) L) ∧ w_L_waits (fun (r121 : Int32) (u122 : CMu × (Nat → Int64)) => (vp_in (v4 + 1) L) ∧ (vp_in (v4 + 2) L) ∧ (vp_in (v4 + 3) L) ∧ (vp_in (v4 + 4) L) ∧ (vp_in (v4 + 5) L) ∧ w_X13_waits (fun (r128 : Int32) (u129 : (Nat → Nat → Int32)) => w_X13_thrown (fun (r130 : Int32) (u131 : (Nat → Nat → Int32)) => (r130 = r121 → ((¬ r121 = 0 → (kk (v4 + 6) u122.1 u131 u122.2)) ∧ (r121 = 0 → (((lg_cmp (u122.2 (Int32.toNatClampNeg (0 : Int32))) (Int32.toInt64 r128)) = 0 → (kk (v4 + 6) u122.1 u131 u122.2)) ∧ (¬ (lg_cmp (u122.2 (Int32.toNatClampNeg (0 : Int32))) (Int32.toInt64 r128)) = 0 → (False)))))) ∧ (¬ r130 = r121 → (False))) u129) (xs (Int32.toNatClampNeg (v4 + 1))) (xs (Int32.toNatClampNeg (v4 + 2))) (xs (Int32.toNatClampNeg (v4 + 3))) (xs (Int32.toNatClampNeg (v4 + 4))) (xs (Int32.toNatClampNeg (v4 + 5))) mm) (xs (Int32.toNatClampNeg (v4 + 1))) (xs (Int32.toNatClampNeg (v4 + 2))) (xs (Int32.toNatClampNeg (v4 + 3))) (xs (Int32.toNatClampNeg (v4 + 4))) (xs (Int32.toNatClampNeg (v4 + 5))) cm oo
set_option maxHeartbeats 4000000 in
set_option maxRecDepth 100000 in
theorem TC_L_law_13 (X : MC p l s m args meth c code 7 RL G ρ A) {L : Nat} {xs : Nat → Int32} (hX : va_X (ρ 5000) L xs s s.heap) (hb : ρ 5000 < s.heap.size) (hbA : ¬ A (ρ 5000)) {kk : (Int32 → CMu → (Nat → Nat → Int32) → (Nat → Int64) → Prop)} {n ce se : Nat} (hce : ce + 20 * (n + 1) ≤ 600000) (hse : se + 120 * (n + 1) ≤ 7200000) {v4 : Int32} {cm : CMu} {mm : Nat → Nat → Int32} {oo : Nat → Int64}
    (ih : ∀ (v4 : Int32) (cm : CMu) (mm : Nat → Nat → Int32) (oo : Nat → Int64) (ce se : Nat), ce + 20 * n ≤ 600000 → se + 120 * n ≤ 7200000 → kk v4 cm mm oo → LW p l e room_1 s m args below meth c Q G ρ A 7 ce se 23 [(0, .ref 5000), (1, .ref 1), (2, .ref 703), (3, .ref 715), (4, .int v4)] [] (cm, mm, oo))
    (h : C_L_law_13 kk L xs v4 cm mm oo) : LW p l e room_1 s m args below meth c Q G ρ A 7 ce se 868 [(0, .ref 5000), (1, .ref 1), (2, .ref 703), (3, .ref 715), (4, .int v4)] [] (cm, mm, oo) := by
  unfold C_L_law_13 at h
  refine L_aload_n (pc := 868) X d_L_law_868 rfl 1 rfl ?_
  refine L_aload_n (pc := 869) X d_L_law_869 rfl 0 rfl ?_
  refine L_iload (pc := 870) X d_L_law_870 4 rfl ?_
  refine L_iconst (pc := 872) (v := 1) X d_L_law_872 (by decide) ?_
  refine L_iadd (pc := 873) X d_L_law_873 ?_
  obtain ⟨q116, h⟩ := h
  refine L_sld (pc := 874) X hX hb hbA q116 d_L_law_874 ?_
  refine L_aload_n (pc := 875) X d_L_law_875 rfl 0 rfl ?_
  refine L_iload (pc := 876) X d_L_law_876 4 rfl ?_
  refine L_iconst (pc := 878) (v := 2) X d_L_law_878 (by decide) ?_
  refine L_iadd (pc := 879) X d_L_law_879 ?_
  obtain ⟨q117, h⟩ := h
  refine L_sld (pc := 880) X hX hb hbA q117 d_L_law_880 ?_
  refine L_aload_n (pc := 881) X d_L_law_881 rfl 0 rfl ?_
  refine L_iload (pc := 882) X d_L_law_882 4 rfl ?_
  refine L_iconst (pc := 884) (v := 3) X d_L_law_884 (by decide) ?_
  refine L_iadd (pc := 885) X d_L_law_885 ?_
  obtain ⟨q118, h⟩ := h
  refine L_sld (pc := 886) X hX hb hbA q118 d_L_law_886 ?_
  refine L_aload_n (pc := 887) X d_L_law_887 rfl 0 rfl ?_
  refine L_iload (pc := 888) X d_L_law_888 4 rfl ?_
  refine L_iconst (pc := 890) (v := 4) X d_L_law_890 (by decide) ?_
  refine L_iadd (pc := 891) X d_L_law_891 ?_
  obtain ⟨q119, h⟩ := h
  refine L_sld (pc := 892) X hX hb hbA q119 d_L_law_892 ?_
  refine L_aload_n (pc := 893) X d_L_law_893 rfl 0 rfl ?_
  refine L_iload (pc := 894) X d_L_law_894 4 rfl ?_
  refine L_iconst (pc := 896) (v := 5) X d_L_law_896 (by decide) ?_
  refine L_iadd (pc := 897) X d_L_law_897 ?_
  obtain ⟨q120, h⟩ := h
  refine L_sld (pc := 898) X hX hb hbA q120 d_L_law_898 ?_
  refine L_aload_n (pc := 899) X d_L_law_899 rfl 3 rfl ?_
  refine L_callSH (pc := 900) X lk_L_131 (c_L_waits X.hst h) rfl rfl rfl ⟨by decide, by decide⟩ ⟨by show _ + 6 ≤ 601024; omega, by show _ + 36 ≤ 7293034; omega⟩ (Nat.zero_le _) d_L_law_900 rfl (fun r121 u122 h => ?_)
  refine L_istore (pc := 903) (lv2 := [(5, .int r121), (0, .ref 5000), (1, .ref 1), (2, .ref 703), (3, .ref 715), (4, .int v4)]) X d_L_law_903 (by decide) rfl ?_
  refine L_aload_n (pc := 905) X d_L_law_905 rfl 3 rfl ?_
  refine L_aload_n (pc := 906) X d_L_law_906 rfl 1 rfl ?_
  refine L_iload (pc := 907) X d_L_law_907 5 rfl ?_
  refine L_iconst (pc := 909) (v := 1) X d_L_law_909 (by decide) ?_
  refine L_iadd (pc := 910) X d_L_law_910 ?_
  obtain ⟨q123, h⟩ := h
  refine L_sld (pc := 911) X hX hb hbA q123 d_L_law_911 ?_
  refine L_aload_n (pc := 912) X d_L_law_912 rfl 1 rfl ?_
  refine L_iload (pc := 913) X d_L_law_913 5 rfl ?_
  refine L_iconst (pc := 915) (v := 2) X d_L_law_915 (by decide) ?_
  refine L_iadd (pc := 916) X d_L_law_916 ?_
  obtain ⟨q124, h⟩ := h
  refine L_sld (pc := 917) X hX hb hbA q124 d_L_law_917 ?_
  refine L_aload_n (pc := 918) X d_L_law_918 rfl 1 rfl ?_
  refine L_iload (pc := 919) X d_L_law_919 5 rfl ?_
  refine L_iconst (pc := 921) (v := 3) X d_L_law_921 (by decide) ?_
  refine L_iadd (pc := 922) X d_L_law_922 ?_
  obtain ⟨q125, h⟩ := h
  refine L_sld (pc := 923) X hX hb hbA q125 d_L_law_923 ?_
  refine L_aload_n (pc := 924) X d_L_law_924 rfl 1 rfl ?_
  refine L_iload (pc := 925) X d_L_law_925 5 rfl ?_
  refine L_iconst (pc := 927) (v := 4) X d_L_law_927 (by decide) ?_
  refine L_iadd (pc := 928) X d_L_law_928 ?_
  obtain ⟨q126, h⟩ := h
  refine L_sld (pc := 929) X hX hb hbA q126 d_L_law_929 ?_
  refine L_aload_n (pc := 930) X d_L_law_930 rfl 1 rfl ?_
  refine L_iload (pc := 931) X d_L_law_931 5 rfl ?_
  refine L_iconst (pc := 933) (v := 5) X d_L_law_933 (by decide) ?_
  refine L_iadd (pc := 934) X d_L_law_934 ?_
  obtain ⟨q127, h⟩ := h
  refine L_sld (pc := 935) X hX hb hbA q127 d_L_law_935 ?_
  refine L_callVI (pc := 936) X lk_L_134 (c_X13_waits X.hst h) rfl rfl kd_703 (by decide) rfl rfl ⟨by decide, by decide⟩ ⟨by show _ + 0 ≤ 601024; omega, by show _ + 0 ≤ 7293034; omega⟩ (Nat.zero_le _) d_L_law_936 rfl (fun x κ1 hx => L_nox hx) (fun r128 u129 h => ?_)
  refine L_istore (pc := 939) (lv2 := [(6, .int r128), (5, .int r121), (0, .ref 5000), (1, .ref 1), (2, .ref 703), (3, .ref 715), (4, .int v4)]) X d_L_law_939 (by decide) rfl ?_
  refine L_aload_n (pc := 941) X d_L_law_941 rfl 4 rfl ?_
  refine L_callVI (pc := 942) X lk_L_93 (c_X13_thrown X.hst h) rfl rfl kd_703 (by decide) rfl rfl ⟨by decide, by decide⟩ ⟨by show _ + 0 ≤ 601024; omega, by show _ + 0 ≤ 7293034; omega⟩ (Nat.zero_le _) d_L_law_942 rfl (fun x κ1 hx => L_nox hx) (fun r130 u131 h => ?_)
  refine L_iload (pc := 945) X d_L_law_945 1 rfl ?_
  refine L_icmp_eq (pc := 947) (tgt := 952) X d_L_law_947 (by decide) (fun c947 => ?_) (fun c947 => ?_)
  · replace h := h.1 c947
    refine L_iload (pc := 952) X d_L_law_952 1 rfl ?_
    refine L_if_ne (pc := 954) (tgt := 969) X d_L_law_954 (by decide) (fun c954 => ?_) (fun c954 => ?_)
    · replace h := h.1 c954
      refine L_goto (pc := 969) (tgt := 1522) X d_L_law_969 (by decide) ?_
      refine L_iinc (pc := 1522) (v := v4 + 6) (lv2 := [(4, .int (v4 + 6)), (6, .int r128), (5, .int r121), (0, .ref 5000), (1, .ref 1), (2, .ref 703), (3, .ref 715)]) X d_L_law_1522 6 rfl rfl (by decide) rfl ?_
      refine L_goto (pc := 1525) (tgt := 23) X d_L_law_1525 (by decide) ?_
      refine LW.sub [3, 4, 5, 6, 0] rfl ?_
      exact ih _ _ _ _ _ _ (by omega) (by omega) h
    · replace h := h.2 c954
      refine L_aload_n (pc := 957) X d_L_law_957 rfl 5 rfl ?_
      refine L_iconst (pc := 958) (v := 0) X d_L_law_958 (by decide) ?_
      refine L_laldO (pc := 959) X (by unfold vp_in; decide) d_L_law_959 ?_
      refine L_iload (pc := 960) X d_L_law_960 0 rfl ?_
      refine L_i2l (pc := 962) X d_L_law_962 ?_
      refine L_lcmp (pc := 963) X d_L_law_963 ?_
      refine L_if_eq (pc := 964) (tgt := 969) X d_L_law_964 (by decide) (fun c964 => ?_) (fun c964 => ?_)
      · replace h := h.1 c964
        refine L_goto (pc := 969) (tgt := 1522) X d_L_law_969 (by decide) ?_
        refine L_iinc (pc := 1522) (v := v4 + 6) (lv2 := [(4, .int (v4 + 6)), (6, .int r128), (5, .int r121), (0, .ref 5000), (1, .ref 1), (2, .ref 703), (3, .ref 715)]) X d_L_law_1522 6 rfl rfl (by decide) rfl ?_
        refine L_goto (pc := 1525) (tgt := 23) X d_L_law_1525 (by decide) ?_
        refine LW.sub [3, 4, 5, 6, 0] rfl ?_
        exact ih _ _ _ _ _ _ (by omega) (by omega) h
      · replace h := h.2 c964
        refine L_iconst (pc := 967) (v := 0) X d_L_law_967 (by decide) ?_
        exact False.elim h
  · replace h := h.2 c947
    refine L_iconst (pc := 950) (v := 0) X d_L_law_950 (by decide) ?_
    exact False.elim h
def C_L_law_14 (kk : (Int32 → CMu → (Nat → Nat → Int32) → (Nat → Int64) → Prop)) (L : Nat) (xs : Nat → Int32) (v4 : Int32) (cm : CMu) (mm : Nat → Nat → Int32) (oo : Nat → Int64) : Prop := (vp_in (v4 + 1) L) ∧ (vp_in (v4 + 2) L) ∧ w_L_order (fun (r134 : Int32) (u135 : CMu × (Nat → Int64)) => (vp_in (v4 + 1) L) ∧ (vp_in (v4 + 2) L) ∧ w_X13_order (fun (r138 : Int32) (u139 : (Nat → Nat → Int32)) => w_X13_thrown (fun (r140 : Int32) (u141 : (Nat → Nat → Int32)) => (r140 = r134 → ((¬ r134 = 0 → (kk (v4 + 6) u135.1 u141 u135.2)) ∧ (r134 = 0 → (((lg_cmp (u135.2 (Int32.toNatClampNeg (0 : Int32))) (Int32.toInt64 r138)) = 0 → (kk (v4 + 6) u135.1 u141 u135.2)) ∧ (¬ (lg_cmp (u135.2 (Int32.toNatClampNeg (0 : Int32))) (Int32.toInt64 r138)) = 0 → (False)))))) ∧ (¬ r140 = r134 → (False))) u139) (xs (Int32.toNatClampNeg (v4 + 1))) (xs (Int32.toNatClampNeg (v4 + 2))) mm) (xs (Int32.toNatClampNeg (v4 + 1))) (xs (Int32.toNatClampNeg (v4 + 2))) cm oo
set_option maxHeartbeats 4000000 in
set_option maxRecDepth 100000 in
theorem TC_L_law_14 (X : MC p l s m args meth c code 7 RL G ρ A) {L : Nat} {xs : Nat → Int32} (hX : va_X (ρ 5000) L xs s s.heap) (hb : ρ 5000 < s.heap.size) (hbA : ¬ A (ρ 5000)) {kk : (Int32 → CMu → (Nat → Nat → Int32) → (Nat → Int64) → Prop)} {n ce se : Nat} (hce : ce + 20 * (n + 1) ≤ 600000) (hse : se + 120 * (n + 1) ≤ 7200000) {v4 : Int32} {cm : CMu} {mm : Nat → Nat → Int32} {oo : Nat → Int64}
    (ih : ∀ (v4 : Int32) (cm : CMu) (mm : Nat → Nat → Int32) (oo : Nat → Int64) (ce se : Nat), ce + 20 * n ≤ 600000 → se + 120 * n ≤ 7200000 → kk v4 cm mm oo → LW p l e room_1 s m args below meth c Q G ρ A 7 ce se 23 [(0, .ref 5000), (1, .ref 1), (2, .ref 703), (3, .ref 715), (4, .int v4)] [] (cm, mm, oo))
    (h : C_L_law_14 kk L xs v4 cm mm oo) : LW p l e room_1 s m args below meth c Q G ρ A 7 ce se 972 [(0, .ref 5000), (1, .ref 1), (2, .ref 703), (3, .ref 715), (4, .int v4)] [] (cm, mm, oo) := by
  unfold C_L_law_14 at h
  refine L_aload_n (pc := 972) X d_L_law_972 rfl 1 rfl ?_
  refine L_aload_n (pc := 973) X d_L_law_973 rfl 0 rfl ?_
  refine L_iload (pc := 974) X d_L_law_974 4 rfl ?_
  refine L_iconst (pc := 976) (v := 1) X d_L_law_976 (by decide) ?_
  refine L_iadd (pc := 977) X d_L_law_977 ?_
  obtain ⟨q132, h⟩ := h
  refine L_sld (pc := 978) X hX hb hbA q132 d_L_law_978 ?_
  refine L_aload_n (pc := 979) X d_L_law_979 rfl 0 rfl ?_
  refine L_iload (pc := 980) X d_L_law_980 4 rfl ?_
  refine L_iconst (pc := 982) (v := 2) X d_L_law_982 (by decide) ?_
  refine L_iadd (pc := 983) X d_L_law_983 ?_
  obtain ⟨q133, h⟩ := h
  refine L_sld (pc := 984) X hX hb hbA q133 d_L_law_984 ?_
  refine L_aload_n (pc := 985) X d_L_law_985 rfl 3 rfl ?_
  refine L_callSH (pc := 986) X lk_L_135 (c_L_order X.hst h) rfl rfl rfl ⟨by decide, by decide⟩ ⟨by show _ + 3 ≤ 601024; omega, by show _ + 18 ≤ 7293034; omega⟩ (Nat.zero_le _) d_L_law_986 rfl (fun r134 u135 h => ?_)
  refine L_istore (pc := 989) (lv2 := [(5, .int r134), (0, .ref 5000), (1, .ref 1), (2, .ref 703), (3, .ref 715), (4, .int v4)]) X d_L_law_989 (by decide) rfl ?_
  refine L_aload_n (pc := 991) X d_L_law_991 rfl 3 rfl ?_
  refine L_aload_n (pc := 992) X d_L_law_992 rfl 1 rfl ?_
  refine L_iload (pc := 993) X d_L_law_993 5 rfl ?_
  refine L_iconst (pc := 995) (v := 1) X d_L_law_995 (by decide) ?_
  refine L_iadd (pc := 996) X d_L_law_996 ?_
  obtain ⟨q136, h⟩ := h
  refine L_sld (pc := 997) X hX hb hbA q136 d_L_law_997 ?_
  refine L_aload_n (pc := 998) X d_L_law_998 rfl 1 rfl ?_
  refine L_iload (pc := 999) X d_L_law_999 5 rfl ?_
  refine L_iconst (pc := 1001) (v := 2) X d_L_law_1001 (by decide) ?_
  refine L_iadd (pc := 1002) X d_L_law_1002 ?_
  obtain ⟨q137, h⟩ := h
  refine L_sld (pc := 1003) X hX hb hbA q137 d_L_law_1003 ?_
  refine L_callVI (pc := 1004) X lk_L_137 (c_X13_order X.hst h) rfl rfl kd_703 (by decide) rfl rfl ⟨by decide, by decide⟩ ⟨by show _ + 0 ≤ 601024; omega, by show _ + 0 ≤ 7293034; omega⟩ (Nat.zero_le _) d_L_law_1004 rfl (fun x κ1 hx => L_nox hx) (fun r138 u139 h => ?_)
  refine L_istore (pc := 1007) (lv2 := [(6, .int r138), (5, .int r134), (0, .ref 5000), (1, .ref 1), (2, .ref 703), (3, .ref 715), (4, .int v4)]) X d_L_law_1007 (by decide) rfl ?_
  refine L_aload_n (pc := 1009) X d_L_law_1009 rfl 4 rfl ?_
  refine L_callVI (pc := 1010) X lk_L_93 (c_X13_thrown X.hst h) rfl rfl kd_703 (by decide) rfl rfl ⟨by decide, by decide⟩ ⟨by show _ + 0 ≤ 601024; omega, by show _ + 0 ≤ 7293034; omega⟩ (Nat.zero_le _) d_L_law_1010 rfl (fun x κ1 hx => L_nox hx) (fun r140 u141 h => ?_)
  refine L_iload (pc := 1013) X d_L_law_1013 1 rfl ?_
  refine L_icmp_eq (pc := 1015) (tgt := 1020) X d_L_law_1015 (by decide) (fun c1015 => ?_) (fun c1015 => ?_)
  · replace h := h.1 c1015
    refine L_iload (pc := 1020) X d_L_law_1020 1 rfl ?_
    refine L_if_ne (pc := 1022) (tgt := 1037) X d_L_law_1022 (by decide) (fun c1022 => ?_) (fun c1022 => ?_)
    · replace h := h.1 c1022
      refine L_goto (pc := 1037) (tgt := 1522) X d_L_law_1037 (by decide) ?_
      refine L_iinc (pc := 1522) (v := v4 + 6) (lv2 := [(4, .int (v4 + 6)), (6, .int r138), (5, .int r134), (0, .ref 5000), (1, .ref 1), (2, .ref 703), (3, .ref 715)]) X d_L_law_1522 6 rfl rfl (by decide) rfl ?_
      refine L_goto (pc := 1525) (tgt := 23) X d_L_law_1525 (by decide) ?_
      refine LW.sub [3, 4, 5, 6, 0] rfl ?_
      exact ih _ _ _ _ _ _ (by omega) (by omega) h
    · replace h := h.2 c1022
      refine L_aload_n (pc := 1025) X d_L_law_1025 rfl 5 rfl ?_
      refine L_iconst (pc := 1026) (v := 0) X d_L_law_1026 (by decide) ?_
      refine L_laldO (pc := 1027) X (by unfold vp_in; decide) d_L_law_1027 ?_
      refine L_iload (pc := 1028) X d_L_law_1028 0 rfl ?_
      refine L_i2l (pc := 1030) X d_L_law_1030 ?_
      refine L_lcmp (pc := 1031) X d_L_law_1031 ?_
      refine L_if_eq (pc := 1032) (tgt := 1037) X d_L_law_1032 (by decide) (fun c1032 => ?_) (fun c1032 => ?_)
      · replace h := h.1 c1032
        refine L_goto (pc := 1037) (tgt := 1522) X d_L_law_1037 (by decide) ?_
        refine L_iinc (pc := 1522) (v := v4 + 6) (lv2 := [(4, .int (v4 + 6)), (6, .int r138), (5, .int r134), (0, .ref 5000), (1, .ref 1), (2, .ref 703), (3, .ref 715)]) X d_L_law_1522 6 rfl rfl (by decide) rfl ?_
        refine L_goto (pc := 1525) (tgt := 23) X d_L_law_1525 (by decide) ?_
        refine LW.sub [3, 4, 5, 6, 0] rfl ?_
        exact ih _ _ _ _ _ _ (by omega) (by omega) h
      · replace h := h.2 c1032
        refine L_iconst (pc := 1035) (v := 0) X d_L_law_1035 (by decide) ?_
        exact False.elim h
  · replace h := h.2 c1015
    refine L_iconst (pc := 1018) (v := 0) X d_L_law_1018 (by decide) ?_
    exact False.elim h
def C_L_law_15 (kk : (Int32 → CMu → (Nat → Nat → Int32) → (Nat → Int64) → Prop)) (L : Nat) (xs : Nat → Int32) (v4 : Int32) (cm : CMu) (mm : Nat → Nat → Int32) (oo : Nat → Int64) : Prop := (vp_in (v4 + 1) L) ∧ (vp_in (v4 + 2) L) ∧ (vp_in (v4 + 3) L) ∧ w_L_ahead (fun (r145 : Int32) (u146 : CMu × (Nat → Int64)) => (vp_in (v4 + 1) L) ∧ (vp_in (v4 + 2) L) ∧ (vp_in (v4 + 3) L) ∧ w_X13_ahead (fun (r150 : Int32) (u151 : (Nat → Nat → Int32)) => w_X13_thrown (fun (r152 : Int32) (u153 : (Nat → Nat → Int32)) => (r152 = r145 → ((¬ r145 = 0 → (kk (v4 + 6) u146.1 u153 u146.2)) ∧ (r145 = 0 → (((lg_cmp (u146.2 (Int32.toNatClampNeg (0 : Int32))) (Int32.toInt64 r150)) = 0 → (kk (v4 + 6) u146.1 u153 u146.2)) ∧ (¬ (lg_cmp (u146.2 (Int32.toNatClampNeg (0 : Int32))) (Int32.toInt64 r150)) = 0 → (False)))))) ∧ (¬ r152 = r145 → (False))) u151) (xs (Int32.toNatClampNeg (v4 + 1))) (xs (Int32.toNatClampNeg (v4 + 2))) (xs (Int32.toNatClampNeg (v4 + 3))) mm) (xs (Int32.toNatClampNeg (v4 + 1))) (xs (Int32.toNatClampNeg (v4 + 2))) (xs (Int32.toNatClampNeg (v4 + 3))) cm oo
set_option maxHeartbeats 4000000 in
set_option maxRecDepth 100000 in
theorem TC_L_law_15 (X : MC p l s m args meth c code 7 RL G ρ A) {L : Nat} {xs : Nat → Int32} (hX : va_X (ρ 5000) L xs s s.heap) (hb : ρ 5000 < s.heap.size) (hbA : ¬ A (ρ 5000)) {kk : (Int32 → CMu → (Nat → Nat → Int32) → (Nat → Int64) → Prop)} {n ce se : Nat} (hce : ce + 20 * (n + 1) ≤ 600000) (hse : se + 120 * (n + 1) ≤ 7200000) {v4 : Int32} {cm : CMu} {mm : Nat → Nat → Int32} {oo : Nat → Int64}
    (ih : ∀ (v4 : Int32) (cm : CMu) (mm : Nat → Nat → Int32) (oo : Nat → Int64) (ce se : Nat), ce + 20 * n ≤ 600000 → se + 120 * n ≤ 7200000 → kk v4 cm mm oo → LW p l e room_1 s m args below meth c Q G ρ A 7 ce se 23 [(0, .ref 5000), (1, .ref 1), (2, .ref 703), (3, .ref 715), (4, .int v4)] [] (cm, mm, oo))
    (h : C_L_law_15 kk L xs v4 cm mm oo) : LW p l e room_1 s m args below meth c Q G ρ A 7 ce se 1040 [(0, .ref 5000), (1, .ref 1), (2, .ref 703), (3, .ref 715), (4, .int v4)] [] (cm, mm, oo) := by
  unfold C_L_law_15 at h
  refine L_aload_n (pc := 1040) X d_L_law_1040 rfl 1 rfl ?_
  refine L_aload_n (pc := 1041) X d_L_law_1041 rfl 0 rfl ?_
  refine L_iload (pc := 1042) X d_L_law_1042 4 rfl ?_
  refine L_iconst (pc := 1044) (v := 1) X d_L_law_1044 (by decide) ?_
  refine L_iadd (pc := 1045) X d_L_law_1045 ?_
  obtain ⟨q142, h⟩ := h
  refine L_sld (pc := 1046) X hX hb hbA q142 d_L_law_1046 ?_
  refine L_aload_n (pc := 1047) X d_L_law_1047 rfl 0 rfl ?_
  refine L_iload (pc := 1048) X d_L_law_1048 4 rfl ?_
  refine L_iconst (pc := 1050) (v := 2) X d_L_law_1050 (by decide) ?_
  refine L_iadd (pc := 1051) X d_L_law_1051 ?_
  obtain ⟨q143, h⟩ := h
  refine L_sld (pc := 1052) X hX hb hbA q143 d_L_law_1052 ?_
  refine L_aload_n (pc := 1053) X d_L_law_1053 rfl 0 rfl ?_
  refine L_iload (pc := 1054) X d_L_law_1054 4 rfl ?_
  refine L_iconst (pc := 1056) (v := 3) X d_L_law_1056 (by decide) ?_
  refine L_iadd (pc := 1057) X d_L_law_1057 ?_
  obtain ⟨q144, h⟩ := h
  refine L_sld (pc := 1058) X hX hb hbA q144 d_L_law_1058 ?_
  refine L_aload_n (pc := 1059) X d_L_law_1059 rfl 3 rfl ?_
  refine L_callSH (pc := 1060) X lk_L_138 (c_L_ahead X.hst h) rfl rfl rfl ⟨by decide, by decide⟩ ⟨by show _ + 3 ≤ 601024; omega, by show _ + 18 ≤ 7293034; omega⟩ (Nat.zero_le _) d_L_law_1060 rfl (fun r145 u146 h => ?_)
  refine L_istore (pc := 1063) (lv2 := [(5, .int r145), (0, .ref 5000), (1, .ref 1), (2, .ref 703), (3, .ref 715), (4, .int v4)]) X d_L_law_1063 (by decide) rfl ?_
  refine L_aload_n (pc := 1065) X d_L_law_1065 rfl 3 rfl ?_
  refine L_aload_n (pc := 1066) X d_L_law_1066 rfl 1 rfl ?_
  refine L_iload (pc := 1067) X d_L_law_1067 5 rfl ?_
  refine L_iconst (pc := 1069) (v := 1) X d_L_law_1069 (by decide) ?_
  refine L_iadd (pc := 1070) X d_L_law_1070 ?_
  obtain ⟨q147, h⟩ := h
  refine L_sld (pc := 1071) X hX hb hbA q147 d_L_law_1071 ?_
  refine L_aload_n (pc := 1072) X d_L_law_1072 rfl 1 rfl ?_
  refine L_iload (pc := 1073) X d_L_law_1073 5 rfl ?_
  refine L_iconst (pc := 1075) (v := 2) X d_L_law_1075 (by decide) ?_
  refine L_iadd (pc := 1076) X d_L_law_1076 ?_
  obtain ⟨q148, h⟩ := h
  refine L_sld (pc := 1077) X hX hb hbA q148 d_L_law_1077 ?_
  refine L_aload_n (pc := 1078) X d_L_law_1078 rfl 1 rfl ?_
  refine L_iload (pc := 1079) X d_L_law_1079 5 rfl ?_
  refine L_iconst (pc := 1081) (v := 3) X d_L_law_1081 (by decide) ?_
  refine L_iadd (pc := 1082) X d_L_law_1082 ?_
  obtain ⟨q149, h⟩ := h
  refine L_sld (pc := 1083) X hX hb hbA q149 d_L_law_1083 ?_
  refine L_callVI (pc := 1084) X lk_L_141 (c_X13_ahead X.hst h) rfl rfl kd_703 (by decide) rfl rfl ⟨by decide, by decide⟩ ⟨by show _ + 0 ≤ 601024; omega, by show _ + 0 ≤ 7293034; omega⟩ (Nat.zero_le _) d_L_law_1084 rfl (fun x κ1 hx => L_nox hx) (fun r150 u151 h => ?_)
  refine L_istore (pc := 1087) (lv2 := [(6, .int r150), (5, .int r145), (0, .ref 5000), (1, .ref 1), (2, .ref 703), (3, .ref 715), (4, .int v4)]) X d_L_law_1087 (by decide) rfl ?_
  refine L_aload_n (pc := 1089) X d_L_law_1089 rfl 4 rfl ?_
  refine L_callVI (pc := 1090) X lk_L_93 (c_X13_thrown X.hst h) rfl rfl kd_703 (by decide) rfl rfl ⟨by decide, by decide⟩ ⟨by show _ + 0 ≤ 601024; omega, by show _ + 0 ≤ 7293034; omega⟩ (Nat.zero_le _) d_L_law_1090 rfl (fun x κ1 hx => L_nox hx) (fun r152 u153 h => ?_)
  refine L_iload (pc := 1093) X d_L_law_1093 1 rfl ?_
  refine L_icmp_eq (pc := 1095) (tgt := 1100) X d_L_law_1095 (by decide) (fun c1095 => ?_) (fun c1095 => ?_)
  · replace h := h.1 c1095
    refine L_iload (pc := 1100) X d_L_law_1100 1 rfl ?_
    refine L_if_ne (pc := 1102) (tgt := 1117) X d_L_law_1102 (by decide) (fun c1102 => ?_) (fun c1102 => ?_)
    · replace h := h.1 c1102
      refine L_goto (pc := 1117) (tgt := 1522) X d_L_law_1117 (by decide) ?_
      refine L_iinc (pc := 1522) (v := v4 + 6) (lv2 := [(4, .int (v4 + 6)), (6, .int r150), (5, .int r145), (0, .ref 5000), (1, .ref 1), (2, .ref 703), (3, .ref 715)]) X d_L_law_1522 6 rfl rfl (by decide) rfl ?_
      refine L_goto (pc := 1525) (tgt := 23) X d_L_law_1525 (by decide) ?_
      refine LW.sub [3, 4, 5, 6, 0] rfl ?_
      exact ih _ _ _ _ _ _ (by omega) (by omega) h
    · replace h := h.2 c1102
      refine L_aload_n (pc := 1105) X d_L_law_1105 rfl 5 rfl ?_
      refine L_iconst (pc := 1106) (v := 0) X d_L_law_1106 (by decide) ?_
      refine L_laldO (pc := 1107) X (by unfold vp_in; decide) d_L_law_1107 ?_
      refine L_iload (pc := 1108) X d_L_law_1108 0 rfl ?_
      refine L_i2l (pc := 1110) X d_L_law_1110 ?_
      refine L_lcmp (pc := 1111) X d_L_law_1111 ?_
      refine L_if_eq (pc := 1112) (tgt := 1117) X d_L_law_1112 (by decide) (fun c1112 => ?_) (fun c1112 => ?_)
      · replace h := h.1 c1112
        refine L_goto (pc := 1117) (tgt := 1522) X d_L_law_1117 (by decide) ?_
        refine L_iinc (pc := 1522) (v := v4 + 6) (lv2 := [(4, .int (v4 + 6)), (6, .int r150), (5, .int r145), (0, .ref 5000), (1, .ref 1), (2, .ref 703), (3, .ref 715)]) X d_L_law_1522 6 rfl rfl (by decide) rfl ?_
        refine L_goto (pc := 1525) (tgt := 23) X d_L_law_1525 (by decide) ?_
        refine LW.sub [3, 4, 5, 6, 0] rfl ?_
        exact ih _ _ _ _ _ _ (by omega) (by omega) h
      · replace h := h.2 c1112
        refine L_iconst (pc := 1115) (v := 0) X d_L_law_1115 (by decide) ?_
        exact False.elim h
  · replace h := h.2 c1095
    refine L_iconst (pc := 1098) (v := 0) X d_L_law_1098 (by decide) ?_
    exact False.elim h
def C_L_law_16 (kk : (Int32 → CMu → (Nat → Nat → Int32) → (Nat → Int64) → Prop)) (L : Nat) (xs : Nat → Int32) (v4 : Int32) (cm : CMu) (mm : Nat → Nat → Int32) (oo : Nat → Int64) : Prop := (vp_in (v4 + 1) L) ∧ w_L_plan (fun (r155 : Int32) (u156 : CMu × (Nat → Int64)) => (vp_in (v4 + 1) L) ∧ w_X13_plan (fun (r158 : Int32) (u159 : (Nat → Nat → Int32)) => w_X13_thrown (fun (r160 : Int32) (u161 : (Nat → Nat → Int32)) => (r160 = r155 → ((¬ r155 = 0 → (kk (v4 + 6) u156.1 u161 u156.2)) ∧ (r155 = 0 → (((lg_cmp (u156.2 (Int32.toNatClampNeg (0 : Int32))) (Int32.toInt64 r158)) = 0 → (kk (v4 + 6) u156.1 u161 u156.2)) ∧ (¬ (lg_cmp (u156.2 (Int32.toNatClampNeg (0 : Int32))) (Int32.toInt64 r158)) = 0 → (False)))))) ∧ (¬ r160 = r155 → (False))) u159) (xs (Int32.toNatClampNeg (v4 + 1))) mm) (xs (Int32.toNatClampNeg (v4 + 1))) cm oo
set_option maxHeartbeats 4000000 in
set_option maxRecDepth 100000 in
theorem TC_L_law_16 (X : MC p l s m args meth c code 7 RL G ρ A) {L : Nat} {xs : Nat → Int32} (hX : va_X (ρ 5000) L xs s s.heap) (hb : ρ 5000 < s.heap.size) (hbA : ¬ A (ρ 5000)) {kk : (Int32 → CMu → (Nat → Nat → Int32) → (Nat → Int64) → Prop)} {n ce se : Nat} (hce : ce + 20 * (n + 1) ≤ 600000) (hse : se + 120 * (n + 1) ≤ 7200000) {v4 : Int32} {cm : CMu} {mm : Nat → Nat → Int32} {oo : Nat → Int64}
    (ih : ∀ (v4 : Int32) (cm : CMu) (mm : Nat → Nat → Int32) (oo : Nat → Int64) (ce se : Nat), ce + 20 * n ≤ 600000 → se + 120 * n ≤ 7200000 → kk v4 cm mm oo → LW p l e room_1 s m args below meth c Q G ρ A 7 ce se 23 [(0, .ref 5000), (1, .ref 1), (2, .ref 703), (3, .ref 715), (4, .int v4)] [] (cm, mm, oo))
    (h : C_L_law_16 kk L xs v4 cm mm oo) : LW p l e room_1 s m args below meth c Q G ρ A 7 ce se 1120 [(0, .ref 5000), (1, .ref 1), (2, .ref 703), (3, .ref 715), (4, .int v4)] [] (cm, mm, oo) := by
  unfold C_L_law_16 at h
  refine L_aload_n (pc := 1120) X d_L_law_1120 rfl 1 rfl ?_
  refine L_aload_n (pc := 1121) X d_L_law_1121 rfl 0 rfl ?_
  refine L_iload (pc := 1122) X d_L_law_1122 4 rfl ?_
  refine L_iconst (pc := 1124) (v := 1) X d_L_law_1124 (by decide) ?_
  refine L_iadd (pc := 1125) X d_L_law_1125 ?_
  obtain ⟨q154, h⟩ := h
  refine L_sld (pc := 1126) X hX hb hbA q154 d_L_law_1126 ?_
  refine L_aload_n (pc := 1127) X d_L_law_1127 rfl 3 rfl ?_
  refine L_callSH (pc := 1128) X lk_L_142 (c_L_plan X.hst h) rfl rfl rfl ⟨by decide, by decide⟩ ⟨by show _ + 1 ≤ 601024; omega, by show _ + 6 ≤ 7293034; omega⟩ (Nat.zero_le _) d_L_law_1128 rfl (fun r155 u156 h => ?_)
  refine L_istore (pc := 1131) (lv2 := [(5, .int r155), (0, .ref 5000), (1, .ref 1), (2, .ref 703), (3, .ref 715), (4, .int v4)]) X d_L_law_1131 (by decide) rfl ?_
  refine L_aload_n (pc := 1133) X d_L_law_1133 rfl 3 rfl ?_
  refine L_aload_n (pc := 1134) X d_L_law_1134 rfl 1 rfl ?_
  refine L_iload (pc := 1135) X d_L_law_1135 5 rfl ?_
  refine L_iconst (pc := 1137) (v := 1) X d_L_law_1137 (by decide) ?_
  refine L_iadd (pc := 1138) X d_L_law_1138 ?_
  obtain ⟨q157, h⟩ := h
  refine L_sld (pc := 1139) X hX hb hbA q157 d_L_law_1139 ?_
  refine L_callVI (pc := 1140) X lk_L_144 (c_X13_plan X.hst h) rfl rfl kd_703 (by decide) rfl rfl ⟨by decide, by decide⟩ ⟨by show _ + 0 ≤ 601024; omega, by show _ + 0 ≤ 7293034; omega⟩ (Nat.zero_le _) d_L_law_1140 rfl (fun x κ1 hx => L_nox hx) (fun r158 u159 h => ?_)
  refine L_istore (pc := 1143) (lv2 := [(6, .int r158), (5, .int r155), (0, .ref 5000), (1, .ref 1), (2, .ref 703), (3, .ref 715), (4, .int v4)]) X d_L_law_1143 (by decide) rfl ?_
  refine L_aload_n (pc := 1145) X d_L_law_1145 rfl 4 rfl ?_
  refine L_callVI (pc := 1146) X lk_L_93 (c_X13_thrown X.hst h) rfl rfl kd_703 (by decide) rfl rfl ⟨by decide, by decide⟩ ⟨by show _ + 0 ≤ 601024; omega, by show _ + 0 ≤ 7293034; omega⟩ (Nat.zero_le _) d_L_law_1146 rfl (fun x κ1 hx => L_nox hx) (fun r160 u161 h => ?_)
  refine L_iload (pc := 1149) X d_L_law_1149 1 rfl ?_
  refine L_icmp_eq (pc := 1151) (tgt := 1156) X d_L_law_1151 (by decide) (fun c1151 => ?_) (fun c1151 => ?_)
  · replace h := h.1 c1151
    refine L_iload (pc := 1156) X d_L_law_1156 1 rfl ?_
    refine L_if_ne (pc := 1158) (tgt := 1173) X d_L_law_1158 (by decide) (fun c1158 => ?_) (fun c1158 => ?_)
    · replace h := h.1 c1158
      refine L_goto (pc := 1173) (tgt := 1522) X d_L_law_1173 (by decide) ?_
      refine L_iinc (pc := 1522) (v := v4 + 6) (lv2 := [(4, .int (v4 + 6)), (6, .int r158), (5, .int r155), (0, .ref 5000), (1, .ref 1), (2, .ref 703), (3, .ref 715)]) X d_L_law_1522 6 rfl rfl (by decide) rfl ?_
      refine L_goto (pc := 1525) (tgt := 23) X d_L_law_1525 (by decide) ?_
      refine LW.sub [3, 4, 5, 6, 0] rfl ?_
      exact ih _ _ _ _ _ _ (by omega) (by omega) h
    · replace h := h.2 c1158
      refine L_aload_n (pc := 1161) X d_L_law_1161 rfl 5 rfl ?_
      refine L_iconst (pc := 1162) (v := 0) X d_L_law_1162 (by decide) ?_
      refine L_laldO (pc := 1163) X (by unfold vp_in; decide) d_L_law_1163 ?_
      refine L_iload (pc := 1164) X d_L_law_1164 0 rfl ?_
      refine L_i2l (pc := 1166) X d_L_law_1166 ?_
      refine L_lcmp (pc := 1167) X d_L_law_1167 ?_
      refine L_if_eq (pc := 1168) (tgt := 1173) X d_L_law_1168 (by decide) (fun c1168 => ?_) (fun c1168 => ?_)
      · replace h := h.1 c1168
        refine L_goto (pc := 1173) (tgt := 1522) X d_L_law_1173 (by decide) ?_
        refine L_iinc (pc := 1522) (v := v4 + 6) (lv2 := [(4, .int (v4 + 6)), (6, .int r158), (5, .int r155), (0, .ref 5000), (1, .ref 1), (2, .ref 703), (3, .ref 715)]) X d_L_law_1522 6 rfl rfl (by decide) rfl ?_
        refine L_goto (pc := 1525) (tgt := 23) X d_L_law_1525 (by decide) ?_
        refine LW.sub [3, 4, 5, 6, 0] rfl ?_
        exact ih _ _ _ _ _ _ (by omega) (by omega) h
      · replace h := h.2 c1168
        refine L_iconst (pc := 1171) (v := 0) X d_L_law_1171 (by decide) ?_
        exact False.elim h
  · replace h := h.2 c1151
    refine L_iconst (pc := 1154) (v := 0) X d_L_law_1154 (by decide) ?_
    exact False.elim h
def C_L_law_17 (kk : (Int32 → CMu → (Nat → Nat → Int32) → (Nat → Int64) → Prop)) (L : Nat) (xs : Nat → Int32) (v4 : Int32) (cm : CMu) (mm : Nat → Nat → Int32) (oo : Nat → Int64) : Prop := (vp_in (v4 + 1) L) ∧ (vp_in (v4 + 2) L) ∧ w_L_chance (fun (r164 : Int32) (u165 : CMu × (Nat → Int64)) => (vp_in (v4 + 1) L) ∧ (vp_in (v4 + 2) L) ∧ w_X13_chance (fun (r168 : Int32) (u169 : (Nat → Nat → Int32)) => w_X13_thrown (fun (r170 : Int32) (u171 : (Nat → Nat → Int32)) => (r170 = r164 → ((¬ r164 = 0 → (kk (v4 + 6) u165.1 u171 u165.2)) ∧ (r164 = 0 → (((lg_cmp (u165.2 (Int32.toNatClampNeg (0 : Int32))) (Int32.toInt64 r168)) = 0 → (kk (v4 + 6) u165.1 u171 u165.2)) ∧ (¬ (lg_cmp (u165.2 (Int32.toNatClampNeg (0 : Int32))) (Int32.toInt64 r168)) = 0 → (False)))))) ∧ (¬ r170 = r164 → (False))) u169) (xs (Int32.toNatClampNeg (v4 + 1))) (xs (Int32.toNatClampNeg (v4 + 2))) mm) (xs (Int32.toNatClampNeg (v4 + 1))) (xs (Int32.toNatClampNeg (v4 + 2))) cm oo
set_option maxHeartbeats 4000000 in
set_option maxRecDepth 100000 in
theorem TC_L_law_17 (X : MC p l s m args meth c code 7 RL G ρ A) {L : Nat} {xs : Nat → Int32} (hX : va_X (ρ 5000) L xs s s.heap) (hb : ρ 5000 < s.heap.size) (hbA : ¬ A (ρ 5000)) {kk : (Int32 → CMu → (Nat → Nat → Int32) → (Nat → Int64) → Prop)} {n ce se : Nat} (hce : ce + 20 * (n + 1) ≤ 600000) (hse : se + 120 * (n + 1) ≤ 7200000) {v4 : Int32} {cm : CMu} {mm : Nat → Nat → Int32} {oo : Nat → Int64}
    (ih : ∀ (v4 : Int32) (cm : CMu) (mm : Nat → Nat → Int32) (oo : Nat → Int64) (ce se : Nat), ce + 20 * n ≤ 600000 → se + 120 * n ≤ 7200000 → kk v4 cm mm oo → LW p l e room_1 s m args below meth c Q G ρ A 7 ce se 23 [(0, .ref 5000), (1, .ref 1), (2, .ref 703), (3, .ref 715), (4, .int v4)] [] (cm, mm, oo))
    (h : C_L_law_17 kk L xs v4 cm mm oo) : LW p l e room_1 s m args below meth c Q G ρ A 7 ce se 1176 [(0, .ref 5000), (1, .ref 1), (2, .ref 703), (3, .ref 715), (4, .int v4)] [] (cm, mm, oo) := by
  unfold C_L_law_17 at h
  refine L_aload_n (pc := 1176) X d_L_law_1176 rfl 1 rfl ?_
  refine L_aload_n (pc := 1177) X d_L_law_1177 rfl 0 rfl ?_
  refine L_iload (pc := 1178) X d_L_law_1178 4 rfl ?_
  refine L_iconst (pc := 1180) (v := 1) X d_L_law_1180 (by decide) ?_
  refine L_iadd (pc := 1181) X d_L_law_1181 ?_
  obtain ⟨q162, h⟩ := h
  refine L_sld (pc := 1182) X hX hb hbA q162 d_L_law_1182 ?_
  refine L_aload_n (pc := 1183) X d_L_law_1183 rfl 0 rfl ?_
  refine L_iload (pc := 1184) X d_L_law_1184 4 rfl ?_
  refine L_iconst (pc := 1186) (v := 2) X d_L_law_1186 (by decide) ?_
  refine L_iadd (pc := 1187) X d_L_law_1187 ?_
  obtain ⟨q163, h⟩ := h
  refine L_sld (pc := 1188) X hX hb hbA q163 d_L_law_1188 ?_
  refine L_aload_n (pc := 1189) X d_L_law_1189 rfl 3 rfl ?_
  refine L_callSH (pc := 1190) X lk_L_145 (c_L_chance X.hst h) rfl rfl rfl ⟨by decide, by decide⟩ ⟨by show _ + 3 ≤ 601024; omega, by show _ + 18 ≤ 7293034; omega⟩ (Nat.zero_le _) d_L_law_1190 rfl (fun r164 u165 h => ?_)
  refine L_istore (pc := 1193) (lv2 := [(5, .int r164), (0, .ref 5000), (1, .ref 1), (2, .ref 703), (3, .ref 715), (4, .int v4)]) X d_L_law_1193 (by decide) rfl ?_
  refine L_aload_n (pc := 1195) X d_L_law_1195 rfl 3 rfl ?_
  refine L_aload_n (pc := 1196) X d_L_law_1196 rfl 1 rfl ?_
  refine L_iload (pc := 1197) X d_L_law_1197 5 rfl ?_
  refine L_iconst (pc := 1199) (v := 1) X d_L_law_1199 (by decide) ?_
  refine L_iadd (pc := 1200) X d_L_law_1200 ?_
  obtain ⟨q166, h⟩ := h
  refine L_sld (pc := 1201) X hX hb hbA q166 d_L_law_1201 ?_
  refine L_aload_n (pc := 1202) X d_L_law_1202 rfl 1 rfl ?_
  refine L_iload (pc := 1203) X d_L_law_1203 5 rfl ?_
  refine L_iconst (pc := 1205) (v := 2) X d_L_law_1205 (by decide) ?_
  refine L_iadd (pc := 1206) X d_L_law_1206 ?_
  obtain ⟨q167, h⟩ := h
  refine L_sld (pc := 1207) X hX hb hbA q167 d_L_law_1207 ?_
  refine L_callVI (pc := 1208) X lk_L_147 (c_X13_chance X.hst h) rfl rfl kd_703 (by decide) rfl rfl ⟨by decide, by decide⟩ ⟨by show _ + 0 ≤ 601024; omega, by show _ + 0 ≤ 7293034; omega⟩ (Nat.zero_le _) d_L_law_1208 rfl (fun x κ1 hx => L_nox hx) (fun r168 u169 h => ?_)
  refine L_istore (pc := 1211) (lv2 := [(6, .int r168), (5, .int r164), (0, .ref 5000), (1, .ref 1), (2, .ref 703), (3, .ref 715), (4, .int v4)]) X d_L_law_1211 (by decide) rfl ?_
  refine L_aload_n (pc := 1213) X d_L_law_1213 rfl 4 rfl ?_
  refine L_callVI (pc := 1214) X lk_L_93 (c_X13_thrown X.hst h) rfl rfl kd_703 (by decide) rfl rfl ⟨by decide, by decide⟩ ⟨by show _ + 0 ≤ 601024; omega, by show _ + 0 ≤ 7293034; omega⟩ (Nat.zero_le _) d_L_law_1214 rfl (fun x κ1 hx => L_nox hx) (fun r170 u171 h => ?_)
  refine L_iload (pc := 1217) X d_L_law_1217 1 rfl ?_
  refine L_icmp_eq (pc := 1219) (tgt := 1224) X d_L_law_1219 (by decide) (fun c1219 => ?_) (fun c1219 => ?_)
  · replace h := h.1 c1219
    refine L_iload (pc := 1224) X d_L_law_1224 1 rfl ?_
    refine L_if_ne (pc := 1226) (tgt := 1241) X d_L_law_1226 (by decide) (fun c1226 => ?_) (fun c1226 => ?_)
    · replace h := h.1 c1226
      refine L_goto (pc := 1241) (tgt := 1522) X d_L_law_1241 (by decide) ?_
      refine L_iinc (pc := 1522) (v := v4 + 6) (lv2 := [(4, .int (v4 + 6)), (6, .int r168), (5, .int r164), (0, .ref 5000), (1, .ref 1), (2, .ref 703), (3, .ref 715)]) X d_L_law_1522 6 rfl rfl (by decide) rfl ?_
      refine L_goto (pc := 1525) (tgt := 23) X d_L_law_1525 (by decide) ?_
      refine LW.sub [3, 4, 5, 6, 0] rfl ?_
      exact ih _ _ _ _ _ _ (by omega) (by omega) h
    · replace h := h.2 c1226
      refine L_aload_n (pc := 1229) X d_L_law_1229 rfl 5 rfl ?_
      refine L_iconst (pc := 1230) (v := 0) X d_L_law_1230 (by decide) ?_
      refine L_laldO (pc := 1231) X (by unfold vp_in; decide) d_L_law_1231 ?_
      refine L_iload (pc := 1232) X d_L_law_1232 0 rfl ?_
      refine L_i2l (pc := 1234) X d_L_law_1234 ?_
      refine L_lcmp (pc := 1235) X d_L_law_1235 ?_
      refine L_if_eq (pc := 1236) (tgt := 1241) X d_L_law_1236 (by decide) (fun c1236 => ?_) (fun c1236 => ?_)
      · replace h := h.1 c1236
        refine L_goto (pc := 1241) (tgt := 1522) X d_L_law_1241 (by decide) ?_
        refine L_iinc (pc := 1522) (v := v4 + 6) (lv2 := [(4, .int (v4 + 6)), (6, .int r168), (5, .int r164), (0, .ref 5000), (1, .ref 1), (2, .ref 703), (3, .ref 715)]) X d_L_law_1522 6 rfl rfl (by decide) rfl ?_
        refine L_goto (pc := 1525) (tgt := 23) X d_L_law_1525 (by decide) ?_
        refine LW.sub [3, 4, 5, 6, 0] rfl ?_
        exact ih _ _ _ _ _ _ (by omega) (by omega) h
      · replace h := h.2 c1236
        refine L_iconst (pc := 1239) (v := 0) X d_L_law_1239 (by decide) ?_
        exact False.elim h
  · replace h := h.2 c1219
    refine L_iconst (pc := 1222) (v := 0) X d_L_law_1222 (by decide) ?_
    exact False.elim h
def C_L_law_18 (kk : (Int32 → CMu → (Nat → Nat → Int32) → (Nat → Int64) → Prop)) (L : Nat) (xs : Nat → Int32) (v4 : Int32) (cm : CMu) (mm : Nat → Nat → Int32) (oo : Nat → Int64) : Prop := (vp_in (v4 + 1) L) ∧ (vp_in (v4 + 2) L) ∧ (vp_in (v4 + 3) L) ∧ w_L_repeats (fun (r175 : Int32) (u176 : CMu × (Nat → Int64)) => (vp_in (v4 + 1) L) ∧ (vp_in (v4 + 2) L) ∧ (vp_in (v4 + 3) L) ∧ w_X13_repeats (fun (r180 : Int32) (u181 : (Nat → Nat → Int32)) => w_X13_thrown (fun (r182 : Int32) (u183 : (Nat → Nat → Int32)) => (r182 = r175 → ((¬ r175 = 0 → (kk (v4 + 6) u176.1 u183 u176.2)) ∧ (r175 = 0 → (((lg_cmp (u176.2 (Int32.toNatClampNeg (0 : Int32))) (Int32.toInt64 r180)) = 0 → (kk (v4 + 6) u176.1 u183 u176.2)) ∧ (¬ (lg_cmp (u176.2 (Int32.toNatClampNeg (0 : Int32))) (Int32.toInt64 r180)) = 0 → (False)))))) ∧ (¬ r182 = r175 → (False))) u181) (xs (Int32.toNatClampNeg (v4 + 1))) (xs (Int32.toNatClampNeg (v4 + 2))) (xs (Int32.toNatClampNeg (v4 + 3))) mm) (xs (Int32.toNatClampNeg (v4 + 1))) (xs (Int32.toNatClampNeg (v4 + 2))) (xs (Int32.toNatClampNeg (v4 + 3))) cm oo
set_option maxHeartbeats 4000000 in
set_option maxRecDepth 100000 in
theorem TC_L_law_18 (X : MC p l s m args meth c code 7 RL G ρ A) {L : Nat} {xs : Nat → Int32} (hX : va_X (ρ 5000) L xs s s.heap) (hb : ρ 5000 < s.heap.size) (hbA : ¬ A (ρ 5000)) {kk : (Int32 → CMu → (Nat → Nat → Int32) → (Nat → Int64) → Prop)} {n ce se : Nat} (hce : ce + 20 * (n + 1) ≤ 600000) (hse : se + 120 * (n + 1) ≤ 7200000) {v4 : Int32} {cm : CMu} {mm : Nat → Nat → Int32} {oo : Nat → Int64}
    (ih : ∀ (v4 : Int32) (cm : CMu) (mm : Nat → Nat → Int32) (oo : Nat → Int64) (ce se : Nat), ce + 20 * n ≤ 600000 → se + 120 * n ≤ 7200000 → kk v4 cm mm oo → LW p l e room_1 s m args below meth c Q G ρ A 7 ce se 23 [(0, .ref 5000), (1, .ref 1), (2, .ref 703), (3, .ref 715), (4, .int v4)] [] (cm, mm, oo))
    (h : C_L_law_18 kk L xs v4 cm mm oo) : LW p l e room_1 s m args below meth c Q G ρ A 7 ce se 1244 [(0, .ref 5000), (1, .ref 1), (2, .ref 703), (3, .ref 715), (4, .int v4)] [] (cm, mm, oo) := by
  unfold C_L_law_18 at h
  refine L_aload_n (pc := 1244) X d_L_law_1244 rfl 1 rfl ?_
  refine L_aload_n (pc := 1245) X d_L_law_1245 rfl 0 rfl ?_
  refine L_iload (pc := 1246) X d_L_law_1246 4 rfl ?_
  refine L_iconst (pc := 1248) (v := 1) X d_L_law_1248 (by decide) ?_
  refine L_iadd (pc := 1249) X d_L_law_1249 ?_
  obtain ⟨q172, h⟩ := h
  refine L_sld (pc := 1250) X hX hb hbA q172 d_L_law_1250 ?_
  refine L_aload_n (pc := 1251) X d_L_law_1251 rfl 0 rfl ?_
  refine L_iload (pc := 1252) X d_L_law_1252 4 rfl ?_
  refine L_iconst (pc := 1254) (v := 2) X d_L_law_1254 (by decide) ?_
  refine L_iadd (pc := 1255) X d_L_law_1255 ?_
  obtain ⟨q173, h⟩ := h
  refine L_sld (pc := 1256) X hX hb hbA q173 d_L_law_1256 ?_
  refine L_aload_n (pc := 1257) X d_L_law_1257 rfl 0 rfl ?_
  refine L_iload (pc := 1258) X d_L_law_1258 4 rfl ?_
  refine L_iconst (pc := 1260) (v := 3) X d_L_law_1260 (by decide) ?_
  refine L_iadd (pc := 1261) X d_L_law_1261 ?_
  obtain ⟨q174, h⟩ := h
  refine L_sld (pc := 1262) X hX hb hbA q174 d_L_law_1262 ?_
  refine L_aload_n (pc := 1263) X d_L_law_1263 rfl 3 rfl ?_
  refine L_callSH (pc := 1264) X lk_L_148 (c_L_repeats X.hst h) rfl rfl rfl ⟨by decide, by decide⟩ ⟨by show _ + 4 ≤ 601024; omega, by show _ + 24 ≤ 7293034; omega⟩ (Nat.zero_le _) d_L_law_1264 rfl (fun r175 u176 h => ?_)
  refine L_istore (pc := 1267) (lv2 := [(5, .int r175), (0, .ref 5000), (1, .ref 1), (2, .ref 703), (3, .ref 715), (4, .int v4)]) X d_L_law_1267 (by decide) rfl ?_
  refine L_aload_n (pc := 1269) X d_L_law_1269 rfl 3 rfl ?_
  refine L_aload_n (pc := 1270) X d_L_law_1270 rfl 1 rfl ?_
  refine L_iload (pc := 1271) X d_L_law_1271 5 rfl ?_
  refine L_iconst (pc := 1273) (v := 1) X d_L_law_1273 (by decide) ?_
  refine L_iadd (pc := 1274) X d_L_law_1274 ?_
  obtain ⟨q177, h⟩ := h
  refine L_sld (pc := 1275) X hX hb hbA q177 d_L_law_1275 ?_
  refine L_aload_n (pc := 1276) X d_L_law_1276 rfl 1 rfl ?_
  refine L_iload (pc := 1277) X d_L_law_1277 5 rfl ?_
  refine L_iconst (pc := 1279) (v := 2) X d_L_law_1279 (by decide) ?_
  refine L_iadd (pc := 1280) X d_L_law_1280 ?_
  obtain ⟨q178, h⟩ := h
  refine L_sld (pc := 1281) X hX hb hbA q178 d_L_law_1281 ?_
  refine L_aload_n (pc := 1282) X d_L_law_1282 rfl 1 rfl ?_
  refine L_iload (pc := 1283) X d_L_law_1283 5 rfl ?_
  refine L_iconst (pc := 1285) (v := 3) X d_L_law_1285 (by decide) ?_
  refine L_iadd (pc := 1286) X d_L_law_1286 ?_
  obtain ⟨q179, h⟩ := h
  refine L_sld (pc := 1287) X hX hb hbA q179 d_L_law_1287 ?_
  refine L_callVI (pc := 1288) X lk_L_150 (c_X13_repeats X.hst h) rfl rfl kd_703 (by decide) rfl rfl ⟨by decide, by decide⟩ ⟨by show _ + 0 ≤ 601024; omega, by show _ + 0 ≤ 7293034; omega⟩ (Nat.zero_le _) d_L_law_1288 rfl (fun x κ1 hx => L_nox hx) (fun r180 u181 h => ?_)
  refine L_istore (pc := 1291) (lv2 := [(6, .int r180), (5, .int r175), (0, .ref 5000), (1, .ref 1), (2, .ref 703), (3, .ref 715), (4, .int v4)]) X d_L_law_1291 (by decide) rfl ?_
  refine L_aload_n (pc := 1293) X d_L_law_1293 rfl 4 rfl ?_
  refine L_callVI (pc := 1294) X lk_L_93 (c_X13_thrown X.hst h) rfl rfl kd_703 (by decide) rfl rfl ⟨by decide, by decide⟩ ⟨by show _ + 0 ≤ 601024; omega, by show _ + 0 ≤ 7293034; omega⟩ (Nat.zero_le _) d_L_law_1294 rfl (fun x κ1 hx => L_nox hx) (fun r182 u183 h => ?_)
  refine L_iload (pc := 1297) X d_L_law_1297 1 rfl ?_
  refine L_icmp_eq (pc := 1299) (tgt := 1304) X d_L_law_1299 (by decide) (fun c1299 => ?_) (fun c1299 => ?_)
  · replace h := h.1 c1299
    refine L_iload (pc := 1304) X d_L_law_1304 1 rfl ?_
    refine L_if_ne (pc := 1306) (tgt := 1321) X d_L_law_1306 (by decide) (fun c1306 => ?_) (fun c1306 => ?_)
    · replace h := h.1 c1306
      refine L_goto (pc := 1321) (tgt := 1522) X d_L_law_1321 (by decide) ?_
      refine L_iinc (pc := 1522) (v := v4 + 6) (lv2 := [(4, .int (v4 + 6)), (6, .int r180), (5, .int r175), (0, .ref 5000), (1, .ref 1), (2, .ref 703), (3, .ref 715)]) X d_L_law_1522 6 rfl rfl (by decide) rfl ?_
      refine L_goto (pc := 1525) (tgt := 23) X d_L_law_1525 (by decide) ?_
      refine LW.sub [3, 4, 5, 6, 0] rfl ?_
      exact ih _ _ _ _ _ _ (by omega) (by omega) h
    · replace h := h.2 c1306
      refine L_aload_n (pc := 1309) X d_L_law_1309 rfl 5 rfl ?_
      refine L_iconst (pc := 1310) (v := 0) X d_L_law_1310 (by decide) ?_
      refine L_laldO (pc := 1311) X (by unfold vp_in; decide) d_L_law_1311 ?_
      refine L_iload (pc := 1312) X d_L_law_1312 0 rfl ?_
      refine L_i2l (pc := 1314) X d_L_law_1314 ?_
      refine L_lcmp (pc := 1315) X d_L_law_1315 ?_
      refine L_if_eq (pc := 1316) (tgt := 1321) X d_L_law_1316 (by decide) (fun c1316 => ?_) (fun c1316 => ?_)
      · replace h := h.1 c1316
        refine L_goto (pc := 1321) (tgt := 1522) X d_L_law_1321 (by decide) ?_
        refine L_iinc (pc := 1522) (v := v4 + 6) (lv2 := [(4, .int (v4 + 6)), (6, .int r180), (5, .int r175), (0, .ref 5000), (1, .ref 1), (2, .ref 703), (3, .ref 715)]) X d_L_law_1522 6 rfl rfl (by decide) rfl ?_
        refine L_goto (pc := 1525) (tgt := 23) X d_L_law_1525 (by decide) ?_
        refine LW.sub [3, 4, 5, 6, 0] rfl ?_
        exact ih _ _ _ _ _ _ (by omega) (by omega) h
      · replace h := h.2 c1316
        refine L_iconst (pc := 1319) (v := 0) X d_L_law_1319 (by decide) ?_
        exact False.elim h
  · replace h := h.2 c1299
    refine L_iconst (pc := 1302) (v := 0) X d_L_law_1302 (by decide) ?_
    exact False.elim h
def C_L_law_19 (kk : (Int32 → CMu → (Nat → Nat → Int32) → (Nat → Int64) → Prop)) (L : Nat) (xs : Nat → Int32) (v4 : Int32) (cm : CMu) (mm : Nat → Nat → Int32) (oo : Nat → Int64) : Prop := (vp_in (v4 + 1) L) ∧ w_L_fits (fun (r185 : Int32) (u186 : CMu × (Nat → Int64)) => (vp_in (v4 + 1) L) ∧ w_X13_fits (fun (r188 : Int32) (u189 : (Nat → Nat → Int32)) => w_X13_thrown (fun (r190 : Int32) (u191 : (Nat → Nat → Int32)) => (r190 = r185 → ((¬ r185 = 0 → (kk (v4 + 6) u186.1 u191 u186.2)) ∧ (r185 = 0 → (((lg_cmp (u186.2 (Int32.toNatClampNeg (0 : Int32))) (Int32.toInt64 r188)) = 0 → (kk (v4 + 6) u186.1 u191 u186.2)) ∧ (¬ (lg_cmp (u186.2 (Int32.toNatClampNeg (0 : Int32))) (Int32.toInt64 r188)) = 0 → (False)))))) ∧ (¬ r190 = r185 → (False))) u189) (xs (Int32.toNatClampNeg (v4 + 1))) mm) (xs (Int32.toNatClampNeg (v4 + 1))) cm oo
set_option maxHeartbeats 4000000 in
set_option maxRecDepth 100000 in
theorem TC_L_law_19 (X : MC p l s m args meth c code 7 RL G ρ A) {L : Nat} {xs : Nat → Int32} (hX : va_X (ρ 5000) L xs s s.heap) (hb : ρ 5000 < s.heap.size) (hbA : ¬ A (ρ 5000)) {kk : (Int32 → CMu → (Nat → Nat → Int32) → (Nat → Int64) → Prop)} {n ce se : Nat} (hce : ce + 20 * (n + 1) ≤ 600000) (hse : se + 120 * (n + 1) ≤ 7200000) {v4 : Int32} {cm : CMu} {mm : Nat → Nat → Int32} {oo : Nat → Int64}
    (ih : ∀ (v4 : Int32) (cm : CMu) (mm : Nat → Nat → Int32) (oo : Nat → Int64) (ce se : Nat), ce + 20 * n ≤ 600000 → se + 120 * n ≤ 7200000 → kk v4 cm mm oo → LW p l e room_1 s m args below meth c Q G ρ A 7 ce se 23 [(0, .ref 5000), (1, .ref 1), (2, .ref 703), (3, .ref 715), (4, .int v4)] [] (cm, mm, oo))
    (h : C_L_law_19 kk L xs v4 cm mm oo) : LW p l e room_1 s m args below meth c Q G ρ A 7 ce se 1324 [(0, .ref 5000), (1, .ref 1), (2, .ref 703), (3, .ref 715), (4, .int v4)] [] (cm, mm, oo) := by
  unfold C_L_law_19 at h
  refine L_aload_n (pc := 1324) X d_L_law_1324 rfl 1 rfl ?_
  refine L_aload_n (pc := 1325) X d_L_law_1325 rfl 0 rfl ?_
  refine L_iload (pc := 1326) X d_L_law_1326 4 rfl ?_
  refine L_iconst (pc := 1328) (v := 1) X d_L_law_1328 (by decide) ?_
  refine L_iadd (pc := 1329) X d_L_law_1329 ?_
  obtain ⟨q184, h⟩ := h
  refine L_sld (pc := 1330) X hX hb hbA q184 d_L_law_1330 ?_
  refine L_aload_n (pc := 1331) X d_L_law_1331 rfl 3 rfl ?_
  refine L_callSH (pc := 1332) X lk_L_151 (c_L_fits X.hst h) rfl rfl rfl ⟨by decide, by decide⟩ ⟨by show _ + 1 ≤ 601024; omega, by show _ + 6 ≤ 7293034; omega⟩ (Nat.zero_le _) d_L_law_1332 rfl (fun r185 u186 h => ?_)
  refine L_istore (pc := 1335) (lv2 := [(5, .int r185), (0, .ref 5000), (1, .ref 1), (2, .ref 703), (3, .ref 715), (4, .int v4)]) X d_L_law_1335 (by decide) rfl ?_
  refine L_aload_n (pc := 1337) X d_L_law_1337 rfl 3 rfl ?_
  refine L_aload_n (pc := 1338) X d_L_law_1338 rfl 1 rfl ?_
  refine L_iload (pc := 1339) X d_L_law_1339 5 rfl ?_
  refine L_iconst (pc := 1341) (v := 1) X d_L_law_1341 (by decide) ?_
  refine L_iadd (pc := 1342) X d_L_law_1342 ?_
  obtain ⟨q187, h⟩ := h
  refine L_sld (pc := 1343) X hX hb hbA q187 d_L_law_1343 ?_
  refine L_callVI (pc := 1344) X lk_L_153 (c_X13_fits X.hst h) rfl rfl kd_703 (by decide) rfl rfl ⟨by decide, by decide⟩ ⟨by show _ + 0 ≤ 601024; omega, by show _ + 0 ≤ 7293034; omega⟩ (Nat.zero_le _) d_L_law_1344 rfl (fun x κ1 hx => L_nox hx) (fun r188 u189 h => ?_)
  refine L_istore (pc := 1347) (lv2 := [(6, .int r188), (5, .int r185), (0, .ref 5000), (1, .ref 1), (2, .ref 703), (3, .ref 715), (4, .int v4)]) X d_L_law_1347 (by decide) rfl ?_
  refine L_aload_n (pc := 1349) X d_L_law_1349 rfl 4 rfl ?_
  refine L_callVI (pc := 1350) X lk_L_93 (c_X13_thrown X.hst h) rfl rfl kd_703 (by decide) rfl rfl ⟨by decide, by decide⟩ ⟨by show _ + 0 ≤ 601024; omega, by show _ + 0 ≤ 7293034; omega⟩ (Nat.zero_le _) d_L_law_1350 rfl (fun x κ1 hx => L_nox hx) (fun r190 u191 h => ?_)
  refine L_iload (pc := 1353) X d_L_law_1353 1 rfl ?_
  refine L_icmp_eq (pc := 1355) (tgt := 1360) X d_L_law_1355 (by decide) (fun c1355 => ?_) (fun c1355 => ?_)
  · replace h := h.1 c1355
    refine L_iload (pc := 1360) X d_L_law_1360 1 rfl ?_
    refine L_if_ne (pc := 1362) (tgt := 1377) X d_L_law_1362 (by decide) (fun c1362 => ?_) (fun c1362 => ?_)
    · replace h := h.1 c1362
      refine L_goto (pc := 1377) (tgt := 1522) X d_L_law_1377 (by decide) ?_
      refine L_iinc (pc := 1522) (v := v4 + 6) (lv2 := [(4, .int (v4 + 6)), (6, .int r188), (5, .int r185), (0, .ref 5000), (1, .ref 1), (2, .ref 703), (3, .ref 715)]) X d_L_law_1522 6 rfl rfl (by decide) rfl ?_
      refine L_goto (pc := 1525) (tgt := 23) X d_L_law_1525 (by decide) ?_
      refine LW.sub [3, 4, 5, 6, 0] rfl ?_
      exact ih _ _ _ _ _ _ (by omega) (by omega) h
    · replace h := h.2 c1362
      refine L_aload_n (pc := 1365) X d_L_law_1365 rfl 5 rfl ?_
      refine L_iconst (pc := 1366) (v := 0) X d_L_law_1366 (by decide) ?_
      refine L_laldO (pc := 1367) X (by unfold vp_in; decide) d_L_law_1367 ?_
      refine L_iload (pc := 1368) X d_L_law_1368 0 rfl ?_
      refine L_i2l (pc := 1370) X d_L_law_1370 ?_
      refine L_lcmp (pc := 1371) X d_L_law_1371 ?_
      refine L_if_eq (pc := 1372) (tgt := 1377) X d_L_law_1372 (by decide) (fun c1372 => ?_) (fun c1372 => ?_)
      · replace h := h.1 c1372
        refine L_goto (pc := 1377) (tgt := 1522) X d_L_law_1377 (by decide) ?_
        refine L_iinc (pc := 1522) (v := v4 + 6) (lv2 := [(4, .int (v4 + 6)), (6, .int r188), (5, .int r185), (0, .ref 5000), (1, .ref 1), (2, .ref 703), (3, .ref 715)]) X d_L_law_1522 6 rfl rfl (by decide) rfl ?_
        refine L_goto (pc := 1525) (tgt := 23) X d_L_law_1525 (by decide) ?_
        refine LW.sub [3, 4, 5, 6, 0] rfl ?_
        exact ih _ _ _ _ _ _ (by omega) (by omega) h
      · replace h := h.2 c1372
        refine L_iconst (pc := 1375) (v := 0) X d_L_law_1375 (by decide) ?_
        exact False.elim h
  · replace h := h.2 c1355
    refine L_iconst (pc := 1358) (v := 0) X d_L_law_1358 (by decide) ?_
    exact False.elim h
def C_L_law_20 (kk : (Int32 → CMu → (Nat → Nat → Int32) → (Nat → Int64) → Prop)) (L : Nat) (xs : Nat → Int32) (v4 : Int32) (cm : CMu) (mm : Nat → Nat → Int32) (oo : Nat → Int64) : Prop := (vp_in (v4 + 1) L) ∧ w_X12_test (fun (r193 : Int32) (u194 : CMu) => (vp_in (v4 + 1) L) ∧ w_X13_test (fun (r196 : Int32) (u197 : (Nat → Nat → Int32)) => (r193 = r196 → (kk (v4 + 6) u194 u197 oo)) ∧ (¬ r193 = r196 → (False))) (xs (Int32.toNatClampNeg (v4 + 1))) mm) (xs (Int32.toNatClampNeg (v4 + 1))) cm
set_option maxHeartbeats 4000000 in
set_option maxRecDepth 100000 in
theorem TC_L_law_20 (X : MC p l s m args meth c code 7 RL G ρ A) {L : Nat} {xs : Nat → Int32} (hX : va_X (ρ 5000) L xs s s.heap) (hb : ρ 5000 < s.heap.size) (hbA : ¬ A (ρ 5000)) {kk : (Int32 → CMu → (Nat → Nat → Int32) → (Nat → Int64) → Prop)} {n ce se : Nat} (hce : ce + 20 * (n + 1) ≤ 600000) (hse : se + 120 * (n + 1) ≤ 7200000) {v4 : Int32} {cm : CMu} {mm : Nat → Nat → Int32} {oo : Nat → Int64}
    (ih : ∀ (v4 : Int32) (cm : CMu) (mm : Nat → Nat → Int32) (oo : Nat → Int64) (ce se : Nat), ce + 20 * n ≤ 600000 → se + 120 * n ≤ 7200000 → kk v4 cm mm oo → LW p l e room_1 s m args below meth c Q G ρ A 7 ce se 23 [(0, .ref 5000), (1, .ref 1), (2, .ref 703), (3, .ref 715), (4, .int v4)] [] (cm, mm, oo))
    (h : C_L_law_20 kk L xs v4 cm mm oo) : LW p l e room_1 s m args below meth c Q G ρ A 7 ce se 1380 [(0, .ref 5000), (1, .ref 1), (2, .ref 703), (3, .ref 715), (4, .int v4)] [] (cm, mm, oo) := by
  unfold C_L_law_20 at h
  refine L_aload_n (pc := 1380) X d_L_law_1380 rfl 1 rfl ?_
  refine L_aload_n (pc := 1381) X d_L_law_1381 rfl 0 rfl ?_
  refine L_iload (pc := 1382) X d_L_law_1382 4 rfl ?_
  refine L_iconst (pc := 1384) (v := 1) X d_L_law_1384 (by decide) ?_
  refine L_iadd (pc := 1385) X d_L_law_1385 ?_
  obtain ⟨q192, h⟩ := h
  refine L_sld (pc := 1386) X hX hb hbA q192 d_L_law_1386 ?_
  refine L_callVI (pc := 1387) X lk_L_154 (c_X12_test X.hst h) rfl rfl kd_1 (by decide) rfl rfl ⟨by decide, by decide⟩ ⟨by show _ + 0 ≤ 601024; omega, by show _ + 0 ≤ 7293034; omega⟩ (Nat.zero_le _) d_L_law_1387 rfl (fun x κ1 hx => L_nox hx) (fun r193 u194 h => ?_)
  refine L_aload_n (pc := 1390) X d_L_law_1390 rfl 2 rfl ?_
  refine L_aload_n (pc := 1391) X d_L_law_1391 rfl 0 rfl ?_
  refine L_iload (pc := 1392) X d_L_law_1392 4 rfl ?_
  refine L_iconst (pc := 1394) (v := 1) X d_L_law_1394 (by decide) ?_
  refine L_iadd (pc := 1395) X d_L_law_1395 ?_
  obtain ⟨q195, h⟩ := h
  refine L_sld (pc := 1396) X hX hb hbA q195 d_L_law_1396 ?_
  refine L_callVI (pc := 1397) X lk_L_157 (c_X13_test X.hst h) rfl rfl kd_703 (by decide) rfl rfl ⟨by decide, by decide⟩ ⟨by show _ + 0 ≤ 601024; omega, by show _ + 0 ≤ 7293034; omega⟩ (Nat.le_of_ble_eq_true rfl) d_L_law_1397 rfl (fun x κ1 hx => L_nox hx) (fun r196 u197 h => ?_)
  refine L_icmp_eq (pc := 1400) (tgt := 1522) X d_L_law_1400 (by decide) (fun c1400 => ?_) (fun c1400 => ?_)
  · replace h := h.1 c1400
    refine L_iinc (pc := 1522) (v := v4 + 6) (lv2 := [(4, .int (v4 + 6)), (0, .ref 5000), (1, .ref 1), (2, .ref 703), (3, .ref 715)]) X d_L_law_1522 4 rfl rfl (by decide) rfl ?_
    refine L_goto (pc := 1525) (tgt := 23) X d_L_law_1525 (by decide) ?_
    refine LW.sub [1, 2, 3, 4, 0] rfl ?_
    exact ih _ _ _ _ _ _ (by omega) (by omega) h
  · replace h := h.2 c1400
    refine L_iconst (pc := 1403) (v := 0) X d_L_law_1403 (by decide) ?_
    exact False.elim h
def C_L_law_21 (kk : (Int32 → CMu → (Nat → Nat → Int32) → (Nat → Int64) → Prop)) (L : Nat) (xs : Nat → Int32) (v4 : Int32) (cm : CMu) (mm : Nat → Nat → Int32) (oo : Nat → Int64) : Prop := (vp_in (v4 + 1) L) ∧ (vp_in (v4 + 2) L) ∧ w_L_later (fun (r200 : Int32) (u201 : CMu × (Nat → Int64)) => (vp_in (v4 + 1) L) ∧ (vp_in (v4 + 2) L) ∧ w_X13_later (fun (r204 : Int32) (u205 : (Nat → Nat → Int32)) => w_X13_thrown (fun (r206 : Int32) (u207 : (Nat → Nat → Int32)) => (r206 = r200 → ((¬ r200 = 0 → (kk (v4 + 6) u201.1 u207 u201.2)) ∧ (r200 = 0 → (((lg_cmp (u201.2 (Int32.toNatClampNeg (0 : Int32))) (Int32.toInt64 r204)) = 0 → (kk (v4 + 6) u201.1 u207 u201.2)) ∧ (¬ (lg_cmp (u201.2 (Int32.toNatClampNeg (0 : Int32))) (Int32.toInt64 r204)) = 0 → (False)))))) ∧ (¬ r206 = r200 → (False))) u205) (xs (Int32.toNatClampNeg (v4 + 1))) (xs (Int32.toNatClampNeg (v4 + 2))) mm) (xs (Int32.toNatClampNeg (v4 + 1))) (xs (Int32.toNatClampNeg (v4 + 2))) cm oo
set_option maxHeartbeats 4000000 in
set_option maxRecDepth 100000 in
theorem TC_L_law_21 (X : MC p l s m args meth c code 7 RL G ρ A) {L : Nat} {xs : Nat → Int32} (hX : va_X (ρ 5000) L xs s s.heap) (hb : ρ 5000 < s.heap.size) (hbA : ¬ A (ρ 5000)) {kk : (Int32 → CMu → (Nat → Nat → Int32) → (Nat → Int64) → Prop)} {n ce se : Nat} (hce : ce + 20 * (n + 1) ≤ 600000) (hse : se + 120 * (n + 1) ≤ 7200000) {v4 : Int32} {cm : CMu} {mm : Nat → Nat → Int32} {oo : Nat → Int64}
    (ih : ∀ (v4 : Int32) (cm : CMu) (mm : Nat → Nat → Int32) (oo : Nat → Int64) (ce se : Nat), ce + 20 * n ≤ 600000 → se + 120 * n ≤ 7200000 → kk v4 cm mm oo → LW p l e room_1 s m args below meth c Q G ρ A 7 ce se 23 [(0, .ref 5000), (1, .ref 1), (2, .ref 703), (3, .ref 715), (4, .int v4)] [] (cm, mm, oo))
    (h : C_L_law_21 kk L xs v4 cm mm oo) : LW p l e room_1 s m args below meth c Q G ρ A 7 ce se 1405 [(0, .ref 5000), (1, .ref 1), (2, .ref 703), (3, .ref 715), (4, .int v4)] [] (cm, mm, oo) := by
  unfold C_L_law_21 at h
  refine L_aload_n (pc := 1405) X d_L_law_1405 rfl 1 rfl ?_
  refine L_aload_n (pc := 1406) X d_L_law_1406 rfl 0 rfl ?_
  refine L_iload (pc := 1407) X d_L_law_1407 4 rfl ?_
  refine L_iconst (pc := 1409) (v := 1) X d_L_law_1409 (by decide) ?_
  refine L_iadd (pc := 1410) X d_L_law_1410 ?_
  obtain ⟨q198, h⟩ := h
  refine L_sld (pc := 1411) X hX hb hbA q198 d_L_law_1411 ?_
  refine L_aload_n (pc := 1412) X d_L_law_1412 rfl 0 rfl ?_
  refine L_iload (pc := 1413) X d_L_law_1413 4 rfl ?_
  refine L_iconst (pc := 1415) (v := 2) X d_L_law_1415 (by decide) ?_
  refine L_iadd (pc := 1416) X d_L_law_1416 ?_
  obtain ⟨q199, h⟩ := h
  refine L_sld (pc := 1417) X hX hb hbA q199 d_L_law_1417 ?_
  refine L_aload_n (pc := 1418) X d_L_law_1418 rfl 3 rfl ?_
  refine L_callSH (pc := 1419) X lk_L_158 (c_L_later X.hst h) rfl rfl rfl ⟨by decide, by decide⟩ ⟨by show _ + 1 ≤ 601024; omega, by show _ + 6 ≤ 7293034; omega⟩ (Nat.zero_le _) d_L_law_1419 rfl (fun r200 u201 h => ?_)
  refine L_istore (pc := 1422) (lv2 := [(5, .int r200), (0, .ref 5000), (1, .ref 1), (2, .ref 703), (3, .ref 715), (4, .int v4)]) X d_L_law_1422 (by decide) rfl ?_
  refine L_aload_n (pc := 1424) X d_L_law_1424 rfl 3 rfl ?_
  refine L_aload_n (pc := 1425) X d_L_law_1425 rfl 1 rfl ?_
  refine L_iload (pc := 1426) X d_L_law_1426 5 rfl ?_
  refine L_iconst (pc := 1428) (v := 1) X d_L_law_1428 (by decide) ?_
  refine L_iadd (pc := 1429) X d_L_law_1429 ?_
  obtain ⟨q202, h⟩ := h
  refine L_sld (pc := 1430) X hX hb hbA q202 d_L_law_1430 ?_
  refine L_aload_n (pc := 1431) X d_L_law_1431 rfl 1 rfl ?_
  refine L_iload (pc := 1432) X d_L_law_1432 5 rfl ?_
  refine L_iconst (pc := 1434) (v := 2) X d_L_law_1434 (by decide) ?_
  refine L_iadd (pc := 1435) X d_L_law_1435 ?_
  obtain ⟨q203, h⟩ := h
  refine L_sld (pc := 1436) X hX hb hbA q203 d_L_law_1436 ?_
  refine L_callVI (pc := 1437) X lk_L_160 (c_X13_later X.hst h) rfl rfl kd_703 (by decide) rfl rfl ⟨by decide, by decide⟩ ⟨by show _ + 0 ≤ 601024; omega, by show _ + 0 ≤ 7293034; omega⟩ (Nat.zero_le _) d_L_law_1437 rfl (fun x κ1 hx => L_nox hx) (fun r204 u205 h => ?_)
  refine L_istore (pc := 1440) (lv2 := [(6, .int r204), (5, .int r200), (0, .ref 5000), (1, .ref 1), (2, .ref 703), (3, .ref 715), (4, .int v4)]) X d_L_law_1440 (by decide) rfl ?_
  refine L_aload_n (pc := 1442) X d_L_law_1442 rfl 4 rfl ?_
  refine L_callVI (pc := 1443) X lk_L_93 (c_X13_thrown X.hst h) rfl rfl kd_703 (by decide) rfl rfl ⟨by decide, by decide⟩ ⟨by show _ + 0 ≤ 601024; omega, by show _ + 0 ≤ 7293034; omega⟩ (Nat.zero_le _) d_L_law_1443 rfl (fun x κ1 hx => L_nox hx) (fun r206 u207 h => ?_)
  refine L_iload (pc := 1446) X d_L_law_1446 1 rfl ?_
  refine L_icmp_eq (pc := 1448) (tgt := 1453) X d_L_law_1448 (by decide) (fun c1448 => ?_) (fun c1448 => ?_)
  · replace h := h.1 c1448
    refine L_iload (pc := 1453) X d_L_law_1453 1 rfl ?_
    refine L_if_ne (pc := 1455) (tgt := 1470) X d_L_law_1455 (by decide) (fun c1455 => ?_) (fun c1455 => ?_)
    · replace h := h.1 c1455
      refine L_goto (pc := 1470) (tgt := 1522) X d_L_law_1470 (by decide) ?_
      refine L_iinc (pc := 1522) (v := v4 + 6) (lv2 := [(4, .int (v4 + 6)), (6, .int r204), (5, .int r200), (0, .ref 5000), (1, .ref 1), (2, .ref 703), (3, .ref 715)]) X d_L_law_1522 6 rfl rfl (by decide) rfl ?_
      refine L_goto (pc := 1525) (tgt := 23) X d_L_law_1525 (by decide) ?_
      refine LW.sub [3, 4, 5, 6, 0] rfl ?_
      exact ih _ _ _ _ _ _ (by omega) (by omega) h
    · replace h := h.2 c1455
      refine L_aload_n (pc := 1458) X d_L_law_1458 rfl 5 rfl ?_
      refine L_iconst (pc := 1459) (v := 0) X d_L_law_1459 (by decide) ?_
      refine L_laldO (pc := 1460) X (by unfold vp_in; decide) d_L_law_1460 ?_
      refine L_iload (pc := 1461) X d_L_law_1461 0 rfl ?_
      refine L_i2l (pc := 1463) X d_L_law_1463 ?_
      refine L_lcmp (pc := 1464) X d_L_law_1464 ?_
      refine L_if_eq (pc := 1465) (tgt := 1470) X d_L_law_1465 (by decide) (fun c1465 => ?_) (fun c1465 => ?_)
      · replace h := h.1 c1465
        refine L_goto (pc := 1470) (tgt := 1522) X d_L_law_1470 (by decide) ?_
        refine L_iinc (pc := 1522) (v := v4 + 6) (lv2 := [(4, .int (v4 + 6)), (6, .int r204), (5, .int r200), (0, .ref 5000), (1, .ref 1), (2, .ref 703), (3, .ref 715)]) X d_L_law_1522 6 rfl rfl (by decide) rfl ?_
        refine L_goto (pc := 1525) (tgt := 23) X d_L_law_1525 (by decide) ?_
        refine LW.sub [3, 4, 5, 6, 0] rfl ?_
        exact ih _ _ _ _ _ _ (by omega) (by omega) h
      · replace h := h.2 c1465
        refine L_iconst (pc := 1468) (v := 0) X d_L_law_1468 (by decide) ?_
        exact False.elim h
  · replace h := h.2 c1448
    refine L_iconst (pc := 1451) (v := 0) X d_L_law_1451 (by decide) ?_
    exact False.elim h
def C_L_law_22 (kk : (Int32 → CMu → (Nat → Nat → Int32) → (Nat → Int64) → Prop)) (L : Nat) (xs : Nat → Int32) (v4 : Int32) (cm : CMu) (mm : Nat → Nat → Int32) (oo : Nat → Int64) : Prop := w_X12_image (fun (u209 : CMu) => w_X13_image (fun (u211 : (Nat → Nat → Int32)) => kk (v4 + 6) u209 u211 oo) mm) cm
set_option maxHeartbeats 4000000 in
set_option maxRecDepth 100000 in
theorem TC_L_law_22 (X : MC p l s m args meth c code 7 RL G ρ A) {L : Nat} {xs : Nat → Int32} (hX : va_X (ρ 5000) L xs s s.heap) (hb : ρ 5000 < s.heap.size) (hbA : ¬ A (ρ 5000)) {kk : (Int32 → CMu → (Nat → Nat → Int32) → (Nat → Int64) → Prop)} {n ce se : Nat} (hce : ce + 20 * (n + 1) ≤ 600000) (hse : se + 120 * (n + 1) ≤ 7200000) {v4 : Int32} {cm : CMu} {mm : Nat → Nat → Int32} {oo : Nat → Int64}
    (ih : ∀ (v4 : Int32) (cm : CMu) (mm : Nat → Nat → Int32) (oo : Nat → Int64) (ce se : Nat), ce + 20 * n ≤ 600000 → se + 120 * n ≤ 7200000 → kk v4 cm mm oo → LW p l e room_1 s m args below meth c Q G ρ A 7 ce se 23 [(0, .ref 5000), (1, .ref 1), (2, .ref 703), (3, .ref 715), (4, .int v4)] [] (cm, mm, oo))
    (h : C_L_law_22 kk L xs v4 cm mm oo) : LW p l e room_1 s m args below meth c Q G ρ A 7 ce se 1473 [(0, .ref 5000), (1, .ref 1), (2, .ref 703), (3, .ref 715), (4, .int v4)] [] (cm, mm, oo) := by
  unfold C_L_law_22 at h
  refine L_aload_n (pc := 1473) X d_L_law_1473 rfl 1 rfl ?_
  refine L_callVV (pc := 1474) X lk_L_161 (c_X12_image X.hst h) rfl rfl kd_1 (by decide) rfl rfl ⟨by decide, by decide⟩ ⟨by show _ + 0 ≤ 601024; omega, by show _ + 0 ≤ 7293034; omega⟩ (Nat.zero_le _) d_L_law_1474 rfl (fun x κ1 hx => L_nox hx) (fun u209 h => ?_)
  refine L_aload_n (pc := 1477) X d_L_law_1477 rfl 2 rfl ?_
  refine L_callVV (pc := 1478) X lk_L_164 (c_X13_image X.hst h) rfl rfl kd_703 (by decide) rfl rfl ⟨by decide, by decide⟩ ⟨by show _ + 0 ≤ 601024; omega, by show _ + 0 ≤ 7293034; omega⟩ (Nat.zero_le _) d_L_law_1478 rfl (fun x κ1 hx => L_nox hx) (fun u211 h => ?_)
  refine L_goto (pc := 1481) (tgt := 1522) X d_L_law_1481 (by decide) ?_
  refine L_iinc (pc := 1522) (v := v4 + 6) (lv2 := [(4, .int (v4 + 6)), (0, .ref 5000), (1, .ref 1), (2, .ref 703), (3, .ref 715)]) X d_L_law_1522 4 rfl rfl (by decide) rfl ?_
  refine L_goto (pc := 1525) (tgt := 23) X d_L_law_1525 (by decide) ?_
  refine LW.sub [1, 2, 3, 4, 0] rfl ?_
  exact ih _ _ _ _ _ _ (by omega) (by omega) h
def C_L_law_23 (kk : (Int32 → CMu → (Nat → Nat → Int32) → (Nat → Int64) → Prop)) (L : Nat) (xs : Nat → Int32) (v4 : Int32) (cm : CMu) (mm : Nat → Nat → Int32) (oo : Nat → Int64) : Prop := w_X12_back (fun (r212 : Bool) (u213 : CMu) => w_X13_back (fun (r214 : Bool) (u215 : (Nat → Nat → Int32)) => ((b2 r212) = (b2 r214) → (kk (v4 + 6) u213 u215 oo)) ∧ (¬ (b2 r212) = (b2 r214) → (False))) mm) cm
set_option maxHeartbeats 4000000 in
set_option maxRecDepth 100000 in
theorem TC_L_law_23 (X : MC p l s m args meth c code 7 RL G ρ A) {L : Nat} {xs : Nat → Int32} (hX : va_X (ρ 5000) L xs s s.heap) (hb : ρ 5000 < s.heap.size) (hbA : ¬ A (ρ 5000)) {kk : (Int32 → CMu → (Nat → Nat → Int32) → (Nat → Int64) → Prop)} {n ce se : Nat} (hce : ce + 20 * (n + 1) ≤ 600000) (hse : se + 120 * (n + 1) ≤ 7200000) {v4 : Int32} {cm : CMu} {mm : Nat → Nat → Int32} {oo : Nat → Int64}
    (ih : ∀ (v4 : Int32) (cm : CMu) (mm : Nat → Nat → Int32) (oo : Nat → Int64) (ce se : Nat), ce + 20 * n ≤ 600000 → se + 120 * n ≤ 7200000 → kk v4 cm mm oo → LW p l e room_1 s m args below meth c Q G ρ A 7 ce se 23 [(0, .ref 5000), (1, .ref 1), (2, .ref 703), (3, .ref 715), (4, .int v4)] [] (cm, mm, oo))
    (h : C_L_law_23 kk L xs v4 cm mm oo) : LW p l e room_1 s m args below meth c Q G ρ A 7 ce se 1484 [(0, .ref 5000), (1, .ref 1), (2, .ref 703), (3, .ref 715), (4, .int v4)] [] (cm, mm, oo) := by
  unfold C_L_law_23 at h
  refine L_aload_n (pc := 1484) X d_L_law_1484 rfl 1 rfl ?_
  refine L_callVZ (pc := 1485) X lk_L_165 (c_X12_back X.hst h) rfl rfl kd_1 (by decide) rfl rfl ⟨by decide, by decide⟩ ⟨by show _ + 0 ≤ 601024; omega, by show _ + 0 ≤ 7293034; omega⟩ (Nat.zero_le _) d_L_law_1485 rfl (fun x κ1 hx => L_nox hx) (fun r212 u213 h => ?_)
  refine L_aload_n (pc := 1488) X d_L_law_1488 rfl 2 rfl ?_
  refine L_callVZ (pc := 1489) X lk_L_169 (c_X13_back X.hst h) rfl rfl kd_703 (by decide) rfl rfl ⟨by decide, by decide⟩ ⟨by show _ + 0 ≤ 601024; omega, by show _ + 0 ≤ 7293034; omega⟩ (Nat.le_of_ble_eq_true rfl) d_L_law_1489 rfl (fun x κ1 hx => L_nox hx) (fun r214 u215 h => ?_)
  refine L_icmp_eq (pc := 1492) (tgt := 1522) X d_L_law_1492 (by decide) (fun c1492 => ?_) (fun c1492 => ?_)
  · replace h := h.1 c1492
    refine L_iinc (pc := 1522) (v := v4 + 6) (lv2 := [(4, .int (v4 + 6)), (0, .ref 5000), (1, .ref 1), (2, .ref 703), (3, .ref 715)]) X d_L_law_1522 4 rfl rfl (by decide) rfl ?_
    refine L_goto (pc := 1525) (tgt := 23) X d_L_law_1525 (by decide) ?_
    refine LW.sub [1, 2, 3, 4, 0] rfl ?_
    exact ih _ _ _ _ _ _ (by omega) (by omega) h
  · replace h := h.2 c1492
    refine L_iconst (pc := 1495) (v := 0) X d_L_law_1495 (by decide) ?_
    exact False.elim h
def C_L_law_24 (kk : (Int32 → CMu → (Nat → Nat → Int32) → (Nat → Int64) → Prop)) (L : Nat) (xs : Nat → Int32) (v4 : Int32) (cm : CMu) (mm : Nat → Nat → Int32) (oo : Nat → Int64) : Prop := (vp_in (v4 + 1) L) ∧ w_X12_count (fun (r217 : Int32) (u218 : CMu) => (vp_in (v4 + 1) L) ∧ w_X13_count (fun (r220 : Int32) (u221 : (Nat → Nat → Int32)) => (r217 = r220 → (kk (v4 + 6) u218 u221 oo)) ∧ (¬ r217 = r220 → (False))) (xs (Int32.toNatClampNeg (v4 + 1))) mm) (xs (Int32.toNatClampNeg (v4 + 1))) cm
set_option maxHeartbeats 4000000 in
set_option maxRecDepth 100000 in
theorem TC_L_law_24 (X : MC p l s m args meth c code 7 RL G ρ A) {L : Nat} {xs : Nat → Int32} (hX : va_X (ρ 5000) L xs s s.heap) (hb : ρ 5000 < s.heap.size) (hbA : ¬ A (ρ 5000)) {kk : (Int32 → CMu → (Nat → Nat → Int32) → (Nat → Int64) → Prop)} {n ce se : Nat} (hce : ce + 20 * (n + 1) ≤ 600000) (hse : se + 120 * (n + 1) ≤ 7200000) {v4 : Int32} {cm : CMu} {mm : Nat → Nat → Int32} {oo : Nat → Int64}
    (ih : ∀ (v4 : Int32) (cm : CMu) (mm : Nat → Nat → Int32) (oo : Nat → Int64) (ce se : Nat), ce + 20 * n ≤ 600000 → se + 120 * n ≤ 7200000 → kk v4 cm mm oo → LW p l e room_1 s m args below meth c Q G ρ A 7 ce se 23 [(0, .ref 5000), (1, .ref 1), (2, .ref 703), (3, .ref 715), (4, .int v4)] [] (cm, mm, oo))
    (h : C_L_law_24 kk L xs v4 cm mm oo) : LW p l e room_1 s m args below meth c Q G ρ A 7 ce se 1497 [(0, .ref 5000), (1, .ref 1), (2, .ref 703), (3, .ref 715), (4, .int v4)] [] (cm, mm, oo) := by
  unfold C_L_law_24 at h
  refine L_aload_n (pc := 1497) X d_L_law_1497 rfl 1 rfl ?_
  refine L_aload_n (pc := 1498) X d_L_law_1498 rfl 0 rfl ?_
  refine L_iload (pc := 1499) X d_L_law_1499 4 rfl ?_
  refine L_iconst (pc := 1501) (v := 1) X d_L_law_1501 (by decide) ?_
  refine L_iadd (pc := 1502) X d_L_law_1502 ?_
  obtain ⟨q216, h⟩ := h
  refine L_sld (pc := 1503) X hX hb hbA q216 d_L_law_1503 ?_
  refine L_callVI (pc := 1504) X lk_L_170 (c_X12_count X.hst h) rfl rfl kd_1 (by decide) rfl rfl ⟨by decide, by decide⟩ ⟨by show _ + 0 ≤ 601024; omega, by show _ + 0 ≤ 7293034; omega⟩ (Nat.zero_le _) d_L_law_1504 rfl (fun x κ1 hx => L_nox hx) (fun r217 u218 h => ?_)
  refine L_aload_n (pc := 1507) X d_L_law_1507 rfl 2 rfl ?_
  refine L_aload_n (pc := 1508) X d_L_law_1508 rfl 0 rfl ?_
  refine L_iload (pc := 1509) X d_L_law_1509 4 rfl ?_
  refine L_iconst (pc := 1511) (v := 1) X d_L_law_1511 (by decide) ?_
  refine L_iadd (pc := 1512) X d_L_law_1512 ?_
  obtain ⟨q219, h⟩ := h
  refine L_sld (pc := 1513) X hX hb hbA q219 d_L_law_1513 ?_
  refine L_callVI (pc := 1514) X lk_L_173 (c_X13_count X.hst h) rfl rfl kd_703 (by decide) rfl rfl ⟨by decide, by decide⟩ ⟨by show _ + 0 ≤ 601024; omega, by show _ + 0 ≤ 7293034; omega⟩ (Nat.le_of_ble_eq_true rfl) d_L_law_1514 rfl (fun x κ1 hx => L_nox hx) (fun r220 u221 h => ?_)
  refine L_icmp_eq (pc := 1517) (tgt := 1522) X d_L_law_1517 (by decide) (fun c1517 => ?_) (fun c1517 => ?_)
  · replace h := h.1 c1517
    refine L_iinc (pc := 1522) (v := v4 + 6) (lv2 := [(4, .int (v4 + 6)), (0, .ref 5000), (1, .ref 1), (2, .ref 703), (3, .ref 715)]) X d_L_law_1522 4 rfl rfl (by decide) rfl ?_
    refine L_goto (pc := 1525) (tgt := 23) X d_L_law_1525 (by decide) ?_
    refine LW.sub [1, 2, 3, 4, 0] rfl ?_
    exact ih _ _ _ _ _ _ (by omega) (by omega) h
  · replace h := h.2 c1517
    refine L_iconst (pc := 1520) (v := 0) X d_L_law_1520 (by decide) ?_
    exact False.elim h
def B_L_law (L : Nat) (xs : Nat → Int32) : Nat → Int32 → CMu → (Nat → Nat → Int32) → (Nat → Int64) → Prop
  | 0 => fun _ _ _ _ => False
  | n + 1 => fun v4 cm mm oo => (((nI L) - 6) < v4 → (True)) ∧ (¬ ((nI L) - 6) < v4 → ((vp_in v4 L) ∧ ((Int32.toInt ((xs (Int32.toNatClampNeg v4)) &&& 31) < 0 ∨ 24 < Int32.toInt ((xs (Int32.toNatClampNeg v4)) &&& 31)) → (B_L_law L xs n (v4 + 6) cm mm oo)) ∧ (Int32.toInt ((xs (Int32.toNatClampNeg v4)) &&& 31) = 0 → (C_L_law_0 (B_L_law L xs n) L xs v4 cm mm oo)) ∧ (Int32.toInt ((xs (Int32.toNatClampNeg v4)) &&& 31) = 1 → (C_L_law_1 (B_L_law L xs n) L xs v4 cm mm oo)) ∧ (Int32.toInt ((xs (Int32.toNatClampNeg v4)) &&& 31) = 2 → (C_L_law_2 (B_L_law L xs n) L xs v4 cm mm oo)) ∧ (Int32.toInt ((xs (Int32.toNatClampNeg v4)) &&& 31) = 3 → (C_L_law_3 (B_L_law L xs n) L xs v4 cm mm oo)) ∧ (Int32.toInt ((xs (Int32.toNatClampNeg v4)) &&& 31) = 4 → (C_L_law_4 (B_L_law L xs n) L xs v4 cm mm oo)) ∧ (Int32.toInt ((xs (Int32.toNatClampNeg v4)) &&& 31) = 5 → (C_L_law_5 (B_L_law L xs n) L xs v4 cm mm oo)) ∧ (Int32.toInt ((xs (Int32.toNatClampNeg v4)) &&& 31) = 6 → (C_L_law_6 (B_L_law L xs n) L xs v4 cm mm oo)) ∧ (Int32.toInt ((xs (Int32.toNatClampNeg v4)) &&& 31) = 7 → (C_L_law_7 (B_L_law L xs n) L xs v4 cm mm oo)) ∧ (Int32.toInt ((xs (Int32.toNatClampNeg v4)) &&& 31) = 8 → (C_L_law_8 (B_L_law L xs n) L xs v4 cm mm oo)) ∧ (Int32.toInt ((xs (Int32.toNatClampNeg v4)) &&& 31) = 9 → (C_L_law_9 (B_L_law L xs n) L xs v4 cm mm oo)) ∧ (Int32.toInt ((xs (Int32.toNatClampNeg v4)) &&& 31) = 10 → (C_L_law_10 (B_L_law L xs n) L xs v4 cm mm oo)) ∧ (Int32.toInt ((xs (Int32.toNatClampNeg v4)) &&& 31) = 11 → (C_L_law_11 (B_L_law L xs n) L xs v4 cm mm oo)) ∧ (Int32.toInt ((xs (Int32.toNatClampNeg v4)) &&& 31) = 12 → (C_L_law_12 (B_L_law L xs n) L xs v4 cm mm oo)) ∧ (Int32.toInt ((xs (Int32.toNatClampNeg v4)) &&& 31) = 13 → (C_L_law_13 (B_L_law L xs n) L xs v4 cm mm oo)) ∧ (Int32.toInt ((xs (Int32.toNatClampNeg v4)) &&& 31) = 14 → (C_L_law_14 (B_L_law L xs n) L xs v4 cm mm oo)) ∧ (Int32.toInt ((xs (Int32.toNatClampNeg v4)) &&& 31) = 15 → (C_L_law_15 (B_L_law L xs n) L xs v4 cm mm oo)) ∧ (Int32.toInt ((xs (Int32.toNatClampNeg v4)) &&& 31) = 16 → (C_L_law_16 (B_L_law L xs n) L xs v4 cm mm oo)) ∧ (Int32.toInt ((xs (Int32.toNatClampNeg v4)) &&& 31) = 17 → (C_L_law_17 (B_L_law L xs n) L xs v4 cm mm oo)) ∧ (Int32.toInt ((xs (Int32.toNatClampNeg v4)) &&& 31) = 18 → (C_L_law_18 (B_L_law L xs n) L xs v4 cm mm oo)) ∧ (Int32.toInt ((xs (Int32.toNatClampNeg v4)) &&& 31) = 19 → (C_L_law_19 (B_L_law L xs n) L xs v4 cm mm oo)) ∧ (Int32.toInt ((xs (Int32.toNatClampNeg v4)) &&& 31) = 20 → (C_L_law_20 (B_L_law L xs n) L xs v4 cm mm oo)) ∧ (Int32.toInt ((xs (Int32.toNatClampNeg v4)) &&& 31) = 21 → (C_L_law_21 (B_L_law L xs n) L xs v4 cm mm oo)) ∧ (Int32.toInt ((xs (Int32.toNatClampNeg v4)) &&& 31) = 22 → (C_L_law_22 (B_L_law L xs n) L xs v4 cm mm oo)) ∧ (Int32.toInt ((xs (Int32.toNatClampNeg v4)) &&& 31) = 23 → (C_L_law_23 (B_L_law L xs n) L xs v4 cm mm oo)) ∧ (Int32.toInt ((xs (Int32.toNatClampNeg v4)) &&& 31) = 24 → (C_L_law_24 (B_L_law L xs n) L xs v4 cm mm oo))))
set_option maxHeartbeats 4000000 in
set_option maxRecDepth 100000 in
theorem T_L_law (X : MC p l s m args meth c code 7 RL G ρ A) {L : Nat} {xs : Nat → Int32} (hX : va_X (ρ 5000) L xs s s.heap) (hb : ρ 5000 < s.heap.size) (hbA : ¬ A (ρ 5000))
    (hend : ∀ (pc : Nat) (lv : List (Nat × Value)) (cm : CMu) (mm : Nat → Nat → Int32) (oo : Nat → Int64) (ce se : Nat), ce ≤ 600000 → se ≤ 7200000 → decode code pc = .ok (.ireturn, 1) → LW p l e room_1 s m args below meth c Q G ρ A 7 ce se pc lv [.int 1] (cm, mm, oo)) (n : Nat) :
    ∀ (v4 : Int32) (cm : CMu) (mm : Nat → Nat → Int32) (oo : Nat → Int64) (ce se : Nat), ce + 20 * n ≤ 600000 → se + 120 * n ≤ 7200000 → B_L_law L xs n v4 cm mm oo → LW p l e room_1 s m args below meth c Q G ρ A 7 ce se 23 [(0, .ref 5000), (1, .ref 1), (2, .ref 703), (3, .ref 715), (4, .int v4)] [] (cm, mm, oo) := by
  induction n with
  | zero =>
    intro v4 cm mm oo ce se hce hse h
    exact False.elim h
  | succ n ih =>
    intro v4 cm mm oo ce se hce hse h
    unfold B_L_law at h
    refine L_iload (pc := 23) X d_L_law_23 4 rfl ?_
    refine L_aload_n (pc := 25) X d_L_law_25 rfl 0 rfl ?_
    refine L_slen (pc := 26) X hX hb hbA d_L_law_26 ?_
    refine L_bipush (pc := 27) (v := 6) X d_L_law_27 (by decide) ?_
    refine L_isub (pc := 29) X d_L_law_29 ?_
    refine L_icmp_gt (pc := 30) (tgt := 1528) X d_L_law_30 (by decide) (fun c30 => ?_) (fun c30 => ?_)
    · replace h := h.1 c30
      refine L_iconst (pc := 1528) (v := 1) X d_L_law_1528 (by decide) ?_
      exact hend _ _ _ _ _ _ _ (by omega) (by omega) d_L_law_1529
    · replace h := h.2 c30
      refine L_aload_n (pc := 33) X d_L_law_33 rfl 0 rfl ?_
      refine L_iload (pc := 34) X d_L_law_34 4 rfl ?_
      obtain ⟨q1, h⟩ := h
      refine L_sld (pc := 36) X hX hb hbA q1 d_L_law_36 ?_
      refine L_bipush (pc := 37) (v := 31) X d_L_law_37 (by decide) ?_
      refine L_iand (pc := 39) X d_L_law_39 ?_
      by_cases ct1 : Int32.toInt ((xs (Int32.toNatClampNeg v4)) &&& 31) < 0
      · refine L_tableOut (pc := 40) (tgt := 1522) X d_L_law_40 (Or.inl ct1) (by decide) ?_
        replace h := h.1 (Or.inl ct1)
        refine L_iinc (pc := 1522) (v := v4 + 6) (lv2 := [(4, .int (v4 + 6)), (0, .ref 5000), (1, .ref 1), (2, .ref 703), (3, .ref 715)]) X d_L_law_1522 4 rfl rfl (by decide) rfl ?_
        refine L_goto (pc := 1525) (tgt := 23) X d_L_law_1525 (by decide) ?_
        refine LW.sub [1, 2, 3, 4, 0] rfl ?_
        exact ih _ _ _ _ _ _ (by omega) (by omega) h
      by_cases ct2 : 24 < Int32.toInt ((xs (Int32.toNatClampNeg v4)) &&& 31)
      · refine L_tableOut (pc := 40) (tgt := 1522) X d_L_law_40 (Or.inr ct2) (by decide) ?_
        replace h := h.1 (Or.inr ct2)
        refine L_iinc (pc := 1522) (v := v4 + 6) (lv2 := [(4, .int (v4 + 6)), (0, .ref 5000), (1, .ref 1), (2, .ref 703), (3, .ref 715)]) X d_L_law_1522 4 rfl rfl (by decide) rfl ?_
        refine L_goto (pc := 1525) (tgt := 23) X d_L_law_1525 (by decide) ?_
        refine LW.sub [1, 2, 3, 4, 0] rfl ?_
        exact ih _ _ _ _ _ _ (by omega) (by omega) h
      have ct3 : Int32.toInt ((xs (Int32.toNatClampNeg v4)) &&& 31) = 0 ∨ Int32.toInt ((xs (Int32.toNatClampNeg v4)) &&& 31) = 1 ∨ Int32.toInt ((xs (Int32.toNatClampNeg v4)) &&& 31) = 2 ∨ Int32.toInt ((xs (Int32.toNatClampNeg v4)) &&& 31) = 3 ∨ Int32.toInt ((xs (Int32.toNatClampNeg v4)) &&& 31) = 4 ∨ Int32.toInt ((xs (Int32.toNatClampNeg v4)) &&& 31) = 5 ∨ Int32.toInt ((xs (Int32.toNatClampNeg v4)) &&& 31) = 6 ∨ Int32.toInt ((xs (Int32.toNatClampNeg v4)) &&& 31) = 7 ∨ Int32.toInt ((xs (Int32.toNatClampNeg v4)) &&& 31) = 8 ∨ Int32.toInt ((xs (Int32.toNatClampNeg v4)) &&& 31) = 9 ∨ Int32.toInt ((xs (Int32.toNatClampNeg v4)) &&& 31) = 10 ∨ Int32.toInt ((xs (Int32.toNatClampNeg v4)) &&& 31) = 11 ∨ Int32.toInt ((xs (Int32.toNatClampNeg v4)) &&& 31) = 12 ∨ Int32.toInt ((xs (Int32.toNatClampNeg v4)) &&& 31) = 13 ∨ Int32.toInt ((xs (Int32.toNatClampNeg v4)) &&& 31) = 14 ∨ Int32.toInt ((xs (Int32.toNatClampNeg v4)) &&& 31) = 15 ∨ Int32.toInt ((xs (Int32.toNatClampNeg v4)) &&& 31) = 16 ∨ Int32.toInt ((xs (Int32.toNatClampNeg v4)) &&& 31) = 17 ∨ Int32.toInt ((xs (Int32.toNatClampNeg v4)) &&& 31) = 18 ∨ Int32.toInt ((xs (Int32.toNatClampNeg v4)) &&& 31) = 19 ∨ Int32.toInt ((xs (Int32.toNatClampNeg v4)) &&& 31) = 20 ∨ Int32.toInt ((xs (Int32.toNatClampNeg v4)) &&& 31) = 21 ∨ Int32.toInt ((xs (Int32.toNatClampNeg v4)) &&& 31) = 22 ∨ Int32.toInt ((xs (Int32.toNatClampNeg v4)) &&& 31) = 23 ∨ Int32.toInt ((xs (Int32.toNatClampNeg v4)) &&& 31) = 24 := by omega
      rcases ct3 with ct3 | ct3 | ct3 | ct3 | ct3 | ct3 | ct3 | ct3 | ct3 | ct3 | ct3 | ct3 | ct3 | ct3 | ct3 | ct3 | ct3 | ct3 | ct3 | ct3 | ct3 | ct3 | ct3 | ct3 | ct3
      · refine L_tableIn (pc := 40) (tgt := 156) (off := 116) X d_L_law_40 ct1 ct2 (by rw [ct3]; rfl) (by decide) ?_
        replace h := h.2.1 ct3
        exact TC_L_law_0 X hX hb hbA hce hse (fun v4 cm mm oo ce se h1 h2 h => ih v4 cm mm oo ce se h1 h2 h) h
      · refine L_tableIn (pc := 40) (tgt := 229) (off := 189) X d_L_law_40 ct1 ct2 (by rw [ct3]; rfl) (by decide) ?_
        replace h := h.2.2.1 ct3
        exact TC_L_law_1 X hX hb hbA hce hse (fun v4 cm mm oo ce se h1 h2 h => ih v4 cm mm oo ce se h1 h2 h) h
      · refine L_tableIn (pc := 40) (tgt := 254) (off := 214) X d_L_law_40 ct1 ct2 (by rw [ct3]; rfl) (by decide) ?_
        replace h := h.2.2.2.1 ct3
        exact TC_L_law_2 X hX hb hbA hce hse (fun v4 cm mm oo ce se h1 h2 h => ih v4 cm mm oo ce se h1 h2 h) h
      · refine L_tableIn (pc := 40) (tgt := 298) (off := 258) X d_L_law_40 ct1 ct2 (by rw [ct3]; rfl) (by decide) ?_
        replace h := h.2.2.2.2.1 ct3
        exact TC_L_law_3 X hX hb hbA hce hse (fun v4 cm mm oo ce se h1 h2 h => ih v4 cm mm oo ce se h1 h2 h) h
      · refine L_tableIn (pc := 40) (tgt := 366) (off := 326) X d_L_law_40 ct1 ct2 (by rw [ct3]; rfl) (by decide) ?_
        replace h := h.2.2.2.2.2.1 ct3
        exact TC_L_law_4 X hX hb hbA hce hse (fun v4 cm mm oo ce se h1 h2 h => ih v4 cm mm oo ce se h1 h2 h) h
      · refine L_tableIn (pc := 40) (tgt := 379) (off := 339) X d_L_law_40 ct1 ct2 (by rw [ct3]; rfl) (by decide) ?_
        replace h := h.2.2.2.2.2.2.1 ct3
        exact TC_L_law_5 X hX hb hbA hce hse (fun v4 cm mm oo ce se h1 h2 h => ih v4 cm mm oo ce se h1 h2 h) h
      · refine L_tableIn (pc := 40) (tgt := 435) (off := 395) X d_L_law_40 ct1 ct2 (by rw [ct3]; rfl) (by decide) ?_
        replace h := h.2.2.2.2.2.2.2.1 ct3
        exact TC_L_law_6 X hX hb hbA hce hse (fun v4 cm mm oo ce se h1 h2 h => ih v4 cm mm oo ce se h1 h2 h) h
      · refine L_tableIn (pc := 40) (tgt := 491) (off := 451) X d_L_law_40 ct1 ct2 (by rw [ct3]; rfl) (by decide) ?_
        replace h := h.2.2.2.2.2.2.2.2.1 ct3
        exact TC_L_law_7 X hX hb hbA hce hse (fun v4 cm mm oo ce se h1 h2 h => ih v4 cm mm oo ce se h1 h2 h) h
      · refine L_tableIn (pc := 40) (tgt := 547) (off := 507) X d_L_law_40 ct1 ct2 (by rw [ct3]; rfl) (by decide) ?_
        replace h := h.2.2.2.2.2.2.2.2.2.1 ct3
        exact TC_L_law_8 X hX hb hbA hce hse (fun v4 cm mm oo ce se h1 h2 h => ih v4 cm mm oo ce se h1 h2 h) h
      · refine L_tableIn (pc := 40) (tgt := 615) (off := 575) X d_L_law_40 ct1 ct2 (by rw [ct3]; rfl) (by decide) ?_
        replace h := h.2.2.2.2.2.2.2.2.2.2.1 ct3
        exact TC_L_law_9 X hX hb hbA hce hse (fun v4 cm mm oo ce se h1 h2 h => ih v4 cm mm oo ce se h1 h2 h) h
      · refine L_tableIn (pc := 40) (tgt := 683) (off := 643) X d_L_law_40 ct1 ct2 (by rw [ct3]; rfl) (by decide) ?_
        replace h := h.2.2.2.2.2.2.2.2.2.2.2.1 ct3
        exact TC_L_law_10 X hX hb hbA hce hse (fun v4 cm mm oo ce se h1 h2 h => ih v4 cm mm oo ce se h1 h2 h) h
      · refine L_tableIn (pc := 40) (tgt := 751) (off := 711) X d_L_law_40 ct1 ct2 (by rw [ct3]; rfl) (by decide) ?_
        replace h := h.2.2.2.2.2.2.2.2.2.2.2.2.1 ct3
        exact TC_L_law_11 X hX hb hbA hce hse (fun v4 cm mm oo ce se h1 h2 h => ih v4 cm mm oo ce se h1 h2 h) h
      · refine L_tableIn (pc := 40) (tgt := 776) (off := 736) X d_L_law_40 ct1 ct2 (by rw [ct3]; rfl) (by decide) ?_
        replace h := h.2.2.2.2.2.2.2.2.2.2.2.2.2.1 ct3
        exact TC_L_law_12 X hX hb hbA hce hse (fun v4 cm mm oo ce se h1 h2 h => ih v4 cm mm oo ce se h1 h2 h) h
      · refine L_tableIn (pc := 40) (tgt := 868) (off := 828) X d_L_law_40 ct1 ct2 (by rw [ct3]; rfl) (by decide) ?_
        replace h := h.2.2.2.2.2.2.2.2.2.2.2.2.2.2.1 ct3
        exact TC_L_law_13 X hX hb hbA hce hse (fun v4 cm mm oo ce se h1 h2 h => ih v4 cm mm oo ce se h1 h2 h) h
      · refine L_tableIn (pc := 40) (tgt := 972) (off := 932) X d_L_law_40 ct1 ct2 (by rw [ct3]; rfl) (by decide) ?_
        replace h := h.2.2.2.2.2.2.2.2.2.2.2.2.2.2.2.1 ct3
        exact TC_L_law_14 X hX hb hbA hce hse (fun v4 cm mm oo ce se h1 h2 h => ih v4 cm mm oo ce se h1 h2 h) h
      · refine L_tableIn (pc := 40) (tgt := 1040) (off := 1000) X d_L_law_40 ct1 ct2 (by rw [ct3]; rfl) (by decide) ?_
        replace h := h.2.2.2.2.2.2.2.2.2.2.2.2.2.2.2.2.1 ct3
        exact TC_L_law_15 X hX hb hbA hce hse (fun v4 cm mm oo ce se h1 h2 h => ih v4 cm mm oo ce se h1 h2 h) h
      · refine L_tableIn (pc := 40) (tgt := 1120) (off := 1080) X d_L_law_40 ct1 ct2 (by rw [ct3]; rfl) (by decide) ?_
        replace h := h.2.2.2.2.2.2.2.2.2.2.2.2.2.2.2.2.2.1 ct3
        exact TC_L_law_16 X hX hb hbA hce hse (fun v4 cm mm oo ce se h1 h2 h => ih v4 cm mm oo ce se h1 h2 h) h
      · refine L_tableIn (pc := 40) (tgt := 1176) (off := 1136) X d_L_law_40 ct1 ct2 (by rw [ct3]; rfl) (by decide) ?_
        replace h := h.2.2.2.2.2.2.2.2.2.2.2.2.2.2.2.2.2.2.1 ct3
        exact TC_L_law_17 X hX hb hbA hce hse (fun v4 cm mm oo ce se h1 h2 h => ih v4 cm mm oo ce se h1 h2 h) h
      · refine L_tableIn (pc := 40) (tgt := 1244) (off := 1204) X d_L_law_40 ct1 ct2 (by rw [ct3]; rfl) (by decide) ?_
        replace h := h.2.2.2.2.2.2.2.2.2.2.2.2.2.2.2.2.2.2.2.1 ct3
        exact TC_L_law_18 X hX hb hbA hce hse (fun v4 cm mm oo ce se h1 h2 h => ih v4 cm mm oo ce se h1 h2 h) h
      · refine L_tableIn (pc := 40) (tgt := 1324) (off := 1284) X d_L_law_40 ct1 ct2 (by rw [ct3]; rfl) (by decide) ?_
        replace h := h.2.2.2.2.2.2.2.2.2.2.2.2.2.2.2.2.2.2.2.2.1 ct3
        exact TC_L_law_19 X hX hb hbA hce hse (fun v4 cm mm oo ce se h1 h2 h => ih v4 cm mm oo ce se h1 h2 h) h
      · refine L_tableIn (pc := 40) (tgt := 1380) (off := 1340) X d_L_law_40 ct1 ct2 (by rw [ct3]; rfl) (by decide) ?_
        replace h := h.2.2.2.2.2.2.2.2.2.2.2.2.2.2.2.2.2.2.2.2.2.1 ct3
        exact TC_L_law_20 X hX hb hbA hce hse (fun v4 cm mm oo ce se h1 h2 h => ih v4 cm mm oo ce se h1 h2 h) h
      · refine L_tableIn (pc := 40) (tgt := 1405) (off := 1365) X d_L_law_40 ct1 ct2 (by rw [ct3]; rfl) (by decide) ?_
        replace h := h.2.2.2.2.2.2.2.2.2.2.2.2.2.2.2.2.2.2.2.2.2.2.1 ct3
        exact TC_L_law_21 X hX hb hbA hce hse (fun v4 cm mm oo ce se h1 h2 h => ih v4 cm mm oo ce se h1 h2 h) h
      · refine L_tableIn (pc := 40) (tgt := 1473) (off := 1433) X d_L_law_40 ct1 ct2 (by rw [ct3]; rfl) (by decide) ?_
        replace h := h.2.2.2.2.2.2.2.2.2.2.2.2.2.2.2.2.2.2.2.2.2.2.2.1 ct3
        exact TC_L_law_22 X hX hb hbA hce hse (fun v4 cm mm oo ce se h1 h2 h => ih v4 cm mm oo ce se h1 h2 h) h
      · refine L_tableIn (pc := 40) (tgt := 1484) (off := 1444) X d_L_law_40 ct1 ct2 (by rw [ct3]; rfl) (by decide) ?_
        replace h := h.2.2.2.2.2.2.2.2.2.2.2.2.2.2.2.2.2.2.2.2.2.2.2.2.1 ct3
        exact TC_L_law_23 X hX hb hbA hce hse (fun v4 cm mm oo ce se h1 h2 h => ih v4 cm mm oo ce se h1 h2 h) h
      · refine L_tableIn (pc := 40) (tgt := 1497) (off := 1457) X d_L_law_40 ct1 ct2 (by rw [ct3]; rfl) (by decide) ?_
        replace h := h.2.2.2.2.2.2.2.2.2.2.2.2.2.2.2.2.2.2.2.2.2.2.2.2.2 ct3
        exact TC_L_law_24 X hX hb hbA hce hse (fun v4 cm mm oo ce se h1 h2 h => ih v4 cm mm oo ce se h1 h2 h) h
end GLAW
