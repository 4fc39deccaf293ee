theorem dL_law_0 : decode cL_law 0 = .ok (.new 7, 3) := by decide +kernel
theorem dL_law_3 : decode cL_law 3 = .ok (.dup, 1) := by decide +kernel
theorem dL_law_4 : decode cL_law 4 = .ok (.invokespecial 9, 3) := by decide +kernel
theorem dL_law_7 : decode cL_law 7 = .ok (.astore_n 1, 1) := by decide +kernel
theorem dL_law_8 : decode cL_law 8 = .ok (.new 10, 3) := by decide +kernel
theorem dL_law_11 : decode cL_law 11 = .ok (.dup, 1) := by decide +kernel
theorem dL_law_12 : decode cL_law 12 = .ok (.invokespecial 12, 3) := by decide +kernel
theorem dL_law_15 : decode cL_law 15 = .ok (.astore_n 2, 1) := by decide +kernel
theorem dL_law_16 : decode cL_law 16 = .ok (.iconst 0, 1) := by decide +kernel
theorem dL_law_17 : decode cL_law 17 = .ok (.istore_n 3, 1) := by decide +kernel
theorem dL_law_18 : decode cL_law 18 = .ok (.iload_n 3, 1) := by decide +kernel
theorem dL_law_19 : decode cL_law 19 = .ok (.aload_n 0, 1) := by decide +kernel
theorem dL_law_20 : decode cL_law 20 = .ok (.arraylength, 1) := by decide +kernel
theorem dL_law_21 : decode cL_law 21 = .ok (.iconst 5, 1) := by decide +kernel
theorem dL_law_22 : decode cL_law 22 = .ok (.isub, 1) := by decide +kernel
theorem dL_law_23 : decode cL_law 23 = .ok (.if_icmp .gt 1218, 3) := by decide +kernel
theorem dL_law_26 : decode cL_law 26 = .ok (.aload_n 0, 1) := by decide +kernel
theorem dL_law_27 : decode cL_law 27 = .ok (.iload_n 3, 1) := by decide +kernel
theorem dL_law_28 : decode cL_law 28 = .ok (.iaload, 1) := by decide +kernel
theorem dL_law_29 : decode cL_law 29 = .ok (.bipush 63, 2) := by decide +kernel
theorem dL_law_31 : decode cL_law 31 = .ok (.iand, 1) := by decide +kernel
theorem dL_law_32 : decode cL_law 32 = .ok (.tableswitch 1203 0 34 #[156, 189, 212, 255, 278, 301, 314, 327, 360, 393, 406, 439, 472, 505, 538, 571, 604, 647, 690, 733, 776, 829, 882, 905, 928, 951, 974, 997, 1040, 1073, 1097, 1120, 1143, 1166, 1189], 156) := by decide +kernel
theorem dL_law_188 : decode cL_law 188 = .ok (.aload_n 1, 1) := by decide +kernel
theorem dL_law_189 : decode cL_law 189 = .ok (.aload_n 0, 1) := by decide +kernel
theorem dL_law_190 : decode cL_law 190 = .ok (.iload_n 3, 1) := by decide +kernel
theorem dL_law_191 : decode cL_law 191 = .ok (.iconst 1, 1) := by decide +kernel
theorem dL_law_192 : decode cL_law 192 = .ok (.iadd, 1) := by decide +kernel
theorem dL_law_193 : decode cL_law 193 = .ok (.iaload, 1) := by decide +kernel
theorem dL_law_194 : decode cL_law 194 = .ok (.aload_n 0, 1) := by decide +kernel
theorem dL_law_195 : decode cL_law 195 = .ok (.iload_n 3, 1) := by decide +kernel
theorem dL_law_196 : decode cL_law 196 = .ok (.iconst 2, 1) := by decide +kernel
theorem dL_law_197 : decode cL_law 197 = .ok (.iadd, 1) := by decide +kernel
theorem dL_law_198 : decode cL_law 198 = .ok (.iaload, 1) := by decide +kernel
theorem dL_law_199 : decode cL_law 199 = .ok (.invokevirtual 13, 3) := by decide +kernel
theorem dL_law_202 : decode cL_law 202 = .ok (.aload_n 2, 1) := by decide +kernel
theorem dL_law_203 : decode cL_law 203 = .ok (.aload_n 0, 1) := by decide +kernel
theorem dL_law_204 : decode cL_law 204 = .ok (.iload_n 3, 1) := by decide +kernel
theorem dL_law_205 : decode cL_law 205 = .ok (.iconst 1, 1) := by decide +kernel
theorem dL_law_206 : decode cL_law 206 = .ok (.iadd, 1) := by decide +kernel
theorem dL_law_207 : decode cL_law 207 = .ok (.iaload, 1) := by decide +kernel
theorem dL_law_208 : decode cL_law 208 = .ok (.aload_n 0, 1) := by decide +kernel
theorem dL_law_209 : decode cL_law 209 = .ok (.iload_n 3, 1) := by decide +kernel
theorem dL_law_210 : decode cL_law 210 = .ok (.iconst 2, 1) := by decide +kernel
theorem dL_law_211 : decode cL_law 211 = .ok (.iadd, 1) := by decide +kernel
theorem dL_law_212 : decode cL_law 212 = .ok (.iaload, 1) := by decide +kernel
theorem dL_law_213 : decode cL_law 213 = .ok (.invokevirtual 17, 3) := by decide +kernel
theorem dL_law_216 : decode cL_law 216 = .ok (.if_icmp .eq 1019, 3) := by decide +kernel
theorem dL_law_219 : decode cL_law 219 = .ok (.iconst 0, 1) := by decide +kernel
theorem dL_law_220 : decode cL_law 220 = .ok (.ireturn, 1) := by decide +kernel
theorem dL_law_221 : decode cL_law 221 = .ok (.aload_n 1, 1) := by decide +kernel
theorem dL_law_222 : decode cL_law 222 = .ok (.aload_n 0, 1) := by decide +kernel
theorem dL_law_223 : decode cL_law 223 = .ok (.iload_n 3, 1) := by decide +kernel
theorem dL_law_224 : decode cL_law 224 = .ok (.iconst 1, 1) := by decide +kernel
theorem dL_law_225 : decode cL_law 225 = .ok (.iadd, 1) := by decide +kernel
theorem dL_law_226 : decode cL_law 226 = .ok (.iaload, 1) := by decide +kernel
theorem dL_law_227 : decode cL_law 227 = .ok (.invokevirtual 18, 3) := by decide +kernel
theorem dL_law_230 : decode cL_law 230 = .ok (.aload_n 2, 1) := by decide +kernel
theorem dL_law_231 : decode cL_law 231 = .ok (.aload_n 0, 1) := by decide +kernel
theorem dL_law_232 : decode cL_law 232 = .ok (.iload_n 3, 1) := by decide +kernel
theorem dL_law_233 : decode cL_law 233 = .ok (.iconst 1, 1) := by decide +kernel
theorem dL_law_234 : decode cL_law 234 = .ok (.iadd, 1) := by decide +kernel
theorem dL_law_235 : decode cL_law 235 = .ok (.iaload, 1) := by decide +kernel
theorem dL_law_236 : decode cL_law 236 = .ok (.invokevirtual 22, 3) := by decide +kernel
theorem dL_law_239 : decode cL_law 239 = .ok (.if_icmp .eq 996, 3) := by decide +kernel
theorem dL_law_242 : decode cL_law 242 = .ok (.iconst 0, 1) := by decide +kernel
theorem dL_law_243 : decode cL_law 243 = .ok (.ireturn, 1) := by decide +kernel
theorem dL_law_244 : decode cL_law 244 = .ok (.aload_n 1, 1) := by decide +kernel
theorem dL_law_245 : decode cL_law 245 = .ok (.aload_n 0, 1) := by decide +kernel
theorem dL_law_246 : decode cL_law 246 = .ok (.iload_n 3, 1) := by decide +kernel
theorem dL_law_247 : decode cL_law 247 = .ok (.iconst 1, 1) := by decide +kernel
theorem dL_law_248 : decode cL_law 248 = .ok (.iadd, 1) := by decide +kernel
theorem dL_law_249 : decode cL_law 249 = .ok (.iaload, 1) := by decide +kernel
theorem dL_law_250 : decode cL_law 250 = .ok (.aload_n 0, 1) := by decide +kernel
theorem dL_law_251 : decode cL_law 251 = .ok (.iload_n 3, 1) := by decide +kernel
theorem dL_law_252 : decode cL_law 252 = .ok (.iconst 2, 1) := by decide +kernel
theorem dL_law_253 : decode cL_law 253 = .ok (.iadd, 1) := by decide +kernel
theorem dL_law_254 : decode cL_law 254 = .ok (.iaload, 1) := by decide +kernel
theorem dL_law_255 : decode cL_law 255 = .ok (.aload_n 0, 1) := by decide +kernel
theorem dL_law_256 : decode cL_law 256 = .ok (.iload_n 3, 1) := by decide +kernel
theorem dL_law_257 : decode cL_law 257 = .ok (.iconst 3, 1) := by decide +kernel
theorem dL_law_258 : decode cL_law 258 = .ok (.iadd, 1) := by decide +kernel
theorem dL_law_259 : decode cL_law 259 = .ok (.iaload, 1) := by decide +kernel
theorem dL_law_260 : decode cL_law 260 = .ok (.invokevirtual 23, 3) := by decide +kernel
theorem dL_law_263 : decode cL_law 263 = .ok (.aload_n 2, 1) := by decide +kernel
theorem dL_law_264 : decode cL_law 264 = .ok (.aload_n 0, 1) := by decide +kernel
theorem dL_law_265 : decode cL_law 265 = .ok (.iload_n 3, 1) := by decide +kernel
theorem dL_law_266 : decode cL_law 266 = .ok (.iconst 1, 1) := by decide +kernel
theorem dL_law_267 : decode cL_law 267 = .ok (.iadd, 1) := by decide +kernel
theorem dL_law_268 : decode cL_law 268 = .ok (.iaload, 1) := by decide +kernel
theorem dL_law_269 : decode cL_law 269 = .ok (.aload_n 0, 1) := by decide +kernel
theorem dL_law_270 : decode cL_law 270 = .ok (.iload_n 3, 1) := by decide +kernel
theorem dL_law_271 : decode cL_law 271 = .ok (.iconst 2, 1) := by decide +kernel
theorem dL_law_272 : decode cL_law 272 = .ok (.iadd, 1) := by decide +kernel
theorem dL_law_273 : decode cL_law 273 = .ok (.iaload, 1) := by decide +kernel
theorem dL_law_274 : decode cL_law 274 = .ok (.aload_n 0, 1) := by decide +kernel
theorem dL_law_275 : decode cL_law 275 = .ok (.iload_n 3, 1) := by decide +kernel
theorem dL_law_276 : decode cL_law 276 = .ok (.iconst 3, 1) := by decide +kernel
theorem dL_law_277 : decode cL_law 277 = .ok (.iadd, 1) := by decide +kernel
theorem dL_law_278 : decode cL_law 278 = .ok (.iaload, 1) := by decide +kernel
theorem dL_law_279 : decode cL_law 279 = .ok (.invokevirtual 27, 3) := by decide +kernel
theorem dL_law_282 : decode cL_law 282 = .ok (.if_icmp .eq 953, 3) := by decide +kernel
theorem dL_law_285 : decode cL_law 285 = .ok (.iconst 0, 1) := by decide +kernel
theorem dL_law_286 : decode cL_law 286 = .ok (.ireturn, 1) := by decide +kernel
theorem dL_law_287 : decode cL_law 287 = .ok (.aload_n 1, 1) := by decide +kernel
theorem dL_law_288 : decode cL_law 288 = .ok (.aload_n 0, 1) := by decide +kernel
theorem dL_law_289 : decode cL_law 289 = .ok (.iload_n 3, 1) := by decide +kernel
theorem dL_law_290 : decode cL_law 290 = .ok (.iconst 1, 1) := by decide +kernel
theorem dL_law_291 : decode cL_law 291 = .ok (.iadd, 1) := by decide +kernel
theorem dL_law_292 : decode cL_law 292 = .ok (.iaload, 1) := by decide +kernel
theorem dL_law_293 : decode cL_law 293 = .ok (.invokevirtual 28, 3) := by decide +kernel
theorem dL_law_296 : decode cL_law 296 = .ok (.aload_n 2, 1) := by decide +kernel
theorem dL_law_297 : decode cL_law 297 = .ok (.aload_n 0, 1) := by decide +kernel
theorem dL_law_298 : decode cL_law 298 = .ok (.iload_n 3, 1) := by decide +kernel
theorem dL_law_299 : decode cL_law 299 = .ok (.iconst 1, 1) := by decide +kernel
theorem dL_law_300 : decode cL_law 300 = .ok (.iadd, 1) := by decide +kernel
theorem dL_law_301 : decode cL_law 301 = .ok (.iaload, 1) := by decide +kernel
theorem dL_law_302 : decode cL_law 302 = .ok (.invokevirtual 31, 3) := by decide +kernel
theorem dL_law_305 : decode cL_law 305 = .ok (.if_icmp .eq 930, 3) := by decide +kernel
theorem dL_law_308 : decode cL_law 308 = .ok (.iconst 0, 1) := by decide +kernel
theorem dL_law_309 : decode cL_law 309 = .ok (.ireturn, 1) := by decide +kernel
theorem dL_law_310 : decode cL_law 310 = .ok (.aload_n 1, 1) := by decide +kernel
theorem dL_law_311 : decode cL_law 311 = .ok (.aload_n 0, 1) := by decide +kernel
theorem dL_law_312 : decode cL_law 312 = .ok (.iload_n 3, 1) := by decide +kernel
theorem dL_law_313 : decode cL_law 313 = .ok (.iconst 1, 1) := by decide +kernel
theorem dL_law_314 : decode cL_law 314 = .ok (.iadd, 1) := by decide +kernel
theorem dL_law_315 : decode cL_law 315 = .ok (.iaload, 1) := by decide +kernel
theorem dL_law_316 : decode cL_law 316 = .ok (.invokevirtual 32, 3) := by decide +kernel
theorem dL_law_319 : decode cL_law 319 = .ok (.aload_n 2, 1) := by decide +kernel
theorem dL_law_320 : decode cL_law 320 = .ok (.aload_n 0, 1) := by decide +kernel
theorem dL_law_321 : decode cL_law 321 = .ok (.iload_n 3, 1) := by decide +kernel
theorem dL_law_322 : decode cL_law 322 = .ok (.iconst 1, 1) := by decide +kernel
theorem dL_law_323 : decode cL_law 323 = .ok (.iadd, 1) := by decide +kernel
theorem dL_law_324 : decode cL_law 324 = .ok (.iaload, 1) := by decide +kernel
theorem dL_law_325 : decode cL_law 325 = .ok (.invokevirtual 35, 3) := by decide +kernel
theorem dL_law_328 : decode cL_law 328 = .ok (.if_icmp .eq 907, 3) := by decide +kernel
theorem dL_law_331 : decode cL_law 331 = .ok (.iconst 0, 1) := by decide +kernel
theorem dL_law_332 : decode cL_law 332 = .ok (.ireturn, 1) := by decide +kernel
theorem dL_law_333 : decode cL_law 333 = .ok (.aload_n 1, 1) := by decide +kernel
theorem dL_law_334 : decode cL_law 334 = .ok (.invokevirtual 36, 3) := by decide +kernel
theorem dL_law_337 : decode cL_law 337 = .ok (.aload_n 2, 1) := by decide +kernel
theorem dL_law_338 : decode cL_law 338 = .ok (.invokevirtual 40, 3) := by decide +kernel
theorem dL_law_341 : decode cL_law 341 = .ok (.if_icmp .eq 894, 3) := by decide +kernel
theorem dL_law_344 : decode cL_law 344 = .ok (.iconst 0, 1) := by decide +kernel
theorem dL_law_345 : decode cL_law 345 = .ok (.ireturn, 1) := by decide +kernel
theorem dL_law_346 : decode cL_law 346 = .ok (.aload_n 1, 1) := by decide +kernel
theorem dL_law_347 : decode cL_law 347 = .ok (.invokevirtual 41, 3) := by decide +kernel
theorem dL_law_350 : decode cL_law 350 = .ok (.aload_n 2, 1) := by decide +kernel
theorem dL_law_351 : decode cL_law 351 = .ok (.invokevirtual 44, 3) := by decide +kernel
theorem dL_law_354 : decode cL_law 354 = .ok (.if_icmp .eq 881, 3) := by decide +kernel
theorem dL_law_357 : decode cL_law 357 = .ok (.iconst 0, 1) := by decide +kernel
theorem dL_law_358 : decode cL_law 358 = .ok (.ireturn, 1) := by decide +kernel
theorem dL_law_359 : decode cL_law 359 = .ok (.aload_n 1, 1) := by decide +kernel
theorem dL_law_360 : decode cL_law 360 = .ok (.aload_n 0, 1) := by decide +kernel
theorem dL_law_361 : decode cL_law 361 = .ok (.iload_n 3, 1) := by decide +kernel
theorem dL_law_362 : decode cL_law 362 = .ok (.iconst 1, 1) := by decide +kernel
theorem dL_law_363 : decode cL_law 363 = .ok (.iadd, 1) := by decide +kernel
theorem dL_law_364 : decode cL_law 364 = .ok (.iaload, 1) := by decide +kernel
theorem dL_law_365 : decode cL_law 365 = .ok (.aload_n 0, 1) := by decide +kernel
theorem dL_law_366 : decode cL_law 366 = .ok (.iload_n 3, 1) := by decide +kernel
theorem dL_law_367 : decode cL_law 367 = .ok (.iconst 2, 1) := by decide +kernel
theorem dL_law_368 : decode cL_law 368 = .ok (.iadd, 1) := by decide +kernel
theorem dL_law_369 : decode cL_law 369 = .ok (.iaload, 1) := by decide +kernel
theorem dL_law_370 : decode cL_law 370 = .ok (.invokevirtual 45, 3) := by decide +kernel
theorem dL_law_373 : decode cL_law 373 = .ok (.aload_n 2, 1) := by decide +kernel
theorem dL_law_374 : decode cL_law 374 = .ok (.aload_n 0, 1) := by decide +kernel
theorem dL_law_375 : decode cL_law 375 = .ok (.iload_n 3, 1) := by decide +kernel
theorem dL_law_376 : decode cL_law 376 = .ok (.iconst 1, 1) := by decide +kernel
theorem dL_law_377 : decode cL_law 377 = .ok (.iadd, 1) := by decide +kernel
theorem dL_law_378 : decode cL_law 378 = .ok (.iaload, 1) := by decide +kernel
theorem dL_law_379 : decode cL_law 379 = .ok (.aload_n 0, 1) := by decide +kernel
theorem dL_law_380 : decode cL_law 380 = .ok (.iload_n 3, 1) := by decide +kernel
theorem dL_law_381 : decode cL_law 381 = .ok (.iconst 2, 1) := by decide +kernel
theorem dL_law_382 : decode cL_law 382 = .ok (.iadd, 1) := by decide +kernel
theorem dL_law_383 : decode cL_law 383 = .ok (.iaload, 1) := by decide +kernel
theorem dL_law_384 : decode cL_law 384 = .ok (.invokevirtual 48, 3) := by decide +kernel
theorem dL_law_387 : decode cL_law 387 = .ok (.if_icmp .eq 848, 3) := by decide +kernel
theorem dL_law_390 : decode cL_law 390 = .ok (.iconst 0, 1) := by decide +kernel
theorem dL_law_391 : decode cL_law 391 = .ok (.ireturn, 1) := by decide +kernel
theorem dL_law_392 : decode cL_law 392 = .ok (.aload_n 1, 1) := by decide +kernel
theorem dL_law_393 : decode cL_law 393 = .ok (.aload_n 0, 1) := by decide +kernel
theorem dL_law_394 : decode cL_law 394 = .ok (.iload_n 3, 1) := by decide +kernel
theorem dL_law_395 : decode cL_law 395 = .ok (.iconst 1, 1) := by decide +kernel
theorem dL_law_396 : decode cL_law 396 = .ok (.iadd, 1) := by decide +kernel
theorem dL_law_397 : decode cL_law 397 = .ok (.iaload, 1) := by decide +kernel
theorem dL_law_398 : decode cL_law 398 = .ok (.aload_n 0, 1) := by decide +kernel
theorem dL_law_399 : decode cL_law 399 = .ok (.iload_n 3, 1) := by decide +kernel
theorem dL_law_400 : decode cL_law 400 = .ok (.iconst 2, 1) := by decide +kernel
theorem dL_law_401 : decode cL_law 401 = .ok (.iadd, 1) := by decide +kernel
theorem dL_law_402 : decode cL_law 402 = .ok (.iaload, 1) := by decide +kernel
theorem dL_law_403 : decode cL_law 403 = .ok (.invokevirtual 49, 3) := by decide +kernel
theorem dL_law_406 : decode cL_law 406 = .ok (.aload_n 2, 1) := by decide +kernel
theorem dL_law_407 : decode cL_law 407 = .ok (.aload_n 0, 1) := by decide +kernel
theorem dL_law_408 : decode cL_law 408 = .ok (.iload_n 3, 1) := by decide +kernel
theorem dL_law_409 : decode cL_law 409 = .ok (.iconst 1, 1) := by decide +kernel
theorem dL_law_410 : decode cL_law 410 = .ok (.iadd, 1) := by decide +kernel
theorem dL_law_411 : decode cL_law 411 = .ok (.iaload, 1) := by decide +kernel
theorem dL_law_412 : decode cL_law 412 = .ok (.aload_n 0, 1) := by decide +kernel
theorem dL_law_413 : decode cL_law 413 = .ok (.iload_n 3, 1) := by decide +kernel
theorem dL_law_414 : decode cL_law 414 = .ok (.iconst 2, 1) := by decide +kernel
theorem dL_law_415 : decode cL_law 415 = .ok (.iadd, 1) := by decide +kernel
theorem dL_law_416 : decode cL_law 416 = .ok (.iaload, 1) := by decide +kernel
theorem dL_law_417 : decode cL_law 417 = .ok (.invokevirtual 52, 3) := by decide +kernel
theorem dL_law_420 : decode cL_law 420 = .ok (.if_icmp .eq 815, 3) := by decide +kernel
theorem dL_law_423 : decode cL_law 423 = .ok (.iconst 0, 1) := by decide +kernel
theorem dL_law_424 : decode cL_law 424 = .ok (.ireturn, 1) := by decide +kernel
theorem dL_law_425 : decode cL_law 425 = .ok (.aload_n 1, 1) := by decide +kernel
theorem dL_law_426 : decode cL_law 426 = .ok (.invokevirtual 53, 3) := by decide +kernel
theorem dL_law_429 : decode cL_law 429 = .ok (.aload_n 2, 1) := by decide +kernel
theorem dL_law_430 : decode cL_law 430 = .ok (.invokevirtual 56, 3) := by decide +kernel
theorem dL_law_433 : decode cL_law 433 = .ok (.if_icmp .eq 802, 3) := by decide +kernel
theorem dL_law_436 : decode cL_law 436 = .ok (.iconst 0, 1) := by decide +kernel
theorem dL_law_437 : decode cL_law 437 = .ok (.ireturn, 1) := by decide +kernel
theorem dL_law_438 : decode cL_law 438 = .ok (.aload_n 1, 1) := by decide +kernel
theorem dL_law_439 : decode cL_law 439 = .ok (.aload_n 0, 1) := by decide +kernel
theorem dL_law_440 : decode cL_law 440 = .ok (.iload_n 3, 1) := by decide +kernel
theorem dL_law_441 : decode cL_law 441 = .ok (.iconst 1, 1) := by decide +kernel
theorem dL_law_442 : decode cL_law 442 = .ok (.iadd, 1) := by decide +kernel
theorem dL_law_443 : decode cL_law 443 = .ok (.iaload, 1) := by decide +kernel
theorem dL_law_444 : decode cL_law 444 = .ok (.aload_n 0, 1) := by decide +kernel
theorem dL_law_445 : decode cL_law 445 = .ok (.iload_n 3, 1) := by decide +kernel
theorem dL_law_446 : decode cL_law 446 = .ok (.iconst 2, 1) := by decide +kernel
theorem dL_law_447 : decode cL_law 447 = .ok (.iadd, 1) := by decide +kernel
theorem dL_law_448 : decode cL_law 448 = .ok (.iaload, 1) := by decide +kernel
theorem dL_law_449 : decode cL_law 449 = .ok (.invokevirtual 57, 3) := by decide +kernel
theorem dL_law_452 : decode cL_law 452 = .ok (.aload_n 2, 1) := by decide +kernel
theorem dL_law_453 : decode cL_law 453 = .ok (.aload_n 0, 1) := by decide +kernel
theorem dL_law_454 : decode cL_law 454 = .ok (.iload_n 3, 1) := by decide +kernel
theorem dL_law_455 : decode cL_law 455 = .ok (.iconst 1, 1) := by decide +kernel
theorem dL_law_456 : decode cL_law 456 = .ok (.iadd, 1) := by decide +kernel
theorem dL_law_457 : decode cL_law 457 = .ok (.iaload, 1) := by decide +kernel
theorem dL_law_458 : decode cL_law 458 = .ok (.aload_n 0, 1) := by decide +kernel
theorem dL_law_459 : decode cL_law 459 = .ok (.iload_n 3, 1) := by decide +kernel
theorem dL_law_460 : decode cL_law 460 = .ok (.iconst 2, 1) := by decide +kernel
theorem dL_law_461 : decode cL_law 461 = .ok (.iadd, 1) := by decide +kernel
theorem dL_law_462 : decode cL_law 462 = .ok (.iaload, 1) := by decide +kernel
theorem dL_law_463 : decode cL_law 463 = .ok (.invokevirtual 60, 3) := by decide +kernel
theorem dL_law_466 : decode cL_law 466 = .ok (.if_icmp .eq 769, 3) := by decide +kernel
theorem dL_law_469 : decode cL_law 469 = .ok (.iconst 0, 1) := by decide +kernel
theorem dL_law_470 : decode cL_law 470 = .ok (.ireturn, 1) := by decide +kernel
theorem dL_law_471 : decode cL_law 471 = .ok (.aload_n 1, 1) := by decide +kernel
theorem dL_law_472 : decode cL_law 472 = .ok (.aload_n 0, 1) := by decide +kernel
theorem dL_law_473 : decode cL_law 473 = .ok (.iload_n 3, 1) := by decide +kernel
theorem dL_law_474 : decode cL_law 474 = .ok (.iconst 1, 1) := by decide +kernel
theorem dL_law_475 : decode cL_law 475 = .ok (.iadd, 1) := by decide +kernel
theorem dL_law_476 : decode cL_law 476 = .ok (.iaload, 1) := by decide +kernel
theorem dL_law_477 : decode cL_law 477 = .ok (.aload_n 0, 1) := by decide +kernel
theorem dL_law_478 : decode cL_law 478 = .ok (.iload_n 3, 1) := by decide +kernel
theorem dL_law_479 : decode cL_law 479 = .ok (.iconst 2, 1) := by decide +kernel
theorem dL_law_480 : decode cL_law 480 = .ok (.iadd, 1) := by decide +kernel
theorem dL_law_481 : decode cL_law 481 = .ok (.iaload, 1) := by decide +kernel
theorem dL_law_482 : decode cL_law 482 = .ok (.invokevirtual 61, 3) := by decide +kernel
theorem dL_law_485 : decode cL_law 485 = .ok (.aload_n 2, 1) := by decide +kernel
theorem dL_law_486 : decode cL_law 486 = .ok (.aload_n 0, 1) := by decide +kernel
theorem dL_law_487 : decode cL_law 487 = .ok (.iload_n 3, 1) := by decide +kernel
theorem dL_law_488 : decode cL_law 488 = .ok (.iconst 1, 1) := by decide +kernel
theorem dL_law_489 : decode cL_law 489 = .ok (.iadd, 1) := by decide +kernel
theorem dL_law_490 : decode cL_law 490 = .ok (.iaload, 1) := by decide +kernel
theorem dL_law_491 : decode cL_law 491 = .ok (.aload_n 0, 1) := by decide +kernel
theorem dL_law_492 : decode cL_law 492 = .ok (.iload_n 3, 1) := by decide +kernel
theorem dL_law_493 : decode cL_law 493 = .ok (.iconst 2, 1) := by decide +kernel
theorem dL_law_494 : decode cL_law 494 = .ok (.iadd, 1) := by decide +kernel
theorem dL_law_495 : decode cL_law 495 = .ok (.iaload, 1) := by decide +kernel
theorem dL_law_496 : decode cL_law 496 = .ok (.invokevirtual 64, 3) := by decide +kernel
theorem dL_law_499 : decode cL_law 499 = .ok (.if_icmp .eq 736, 3) := by decide +kernel
theorem dL_law_502 : decode cL_law 502 = .ok (.iconst 0, 1) := by decide +kernel
theorem dL_law_503 : decode cL_law 503 = .ok (.ireturn, 1) := by decide +kernel
theorem dL_law_504 : decode cL_law 504 = .ok (.aload_n 1, 1) := by decide +kernel
theorem dL_law_505 : decode cL_law 505 = .ok (.aload_n 0, 1) := by decide +kernel
theorem dL_law_506 : decode cL_law 506 = .ok (.iload_n 3, 1) := by decide +kernel
theorem dL_law_507 : decode cL_law 507 = .ok (.iconst 1, 1) := by decide +kernel
theorem dL_law_508 : decode cL_law 508 = .ok (.iadd, 1) := by decide +kernel
theorem dL_law_509 : decode cL_law 509 = .ok (.iaload, 1) := by decide +kernel
theorem dL_law_510 : decode cL_law 510 = .ok (.aload_n 0, 1) := by decide +kernel
theorem dL_law_511 : decode cL_law 511 = .ok (.iload_n 3, 1) := by decide +kernel
theorem dL_law_512 : decode cL_law 512 = .ok (.iconst 2, 1) := by decide +kernel
theorem dL_law_513 : decode cL_law 513 = .ok (.iadd, 1) := by decide +kernel
theorem dL_law_514 : decode cL_law 514 = .ok (.iaload, 1) := by decide +kernel
theorem dL_law_515 : decode cL_law 515 = .ok (.invokevirtual 65, 3) := by decide +kernel
theorem dL_law_518 : decode cL_law 518 = .ok (.aload_n 2, 1) := by decide +kernel
theorem dL_law_519 : decode cL_law 519 = .ok (.aload_n 0, 1) := by decide +kernel
theorem dL_law_520 : decode cL_law 520 = .ok (.iload_n 3, 1) := by decide +kernel
theorem dL_law_521 : decode cL_law 521 = .ok (.iconst 1, 1) := by decide +kernel
theorem dL_law_522 : decode cL_law 522 = .ok (.iadd, 1) := by decide +kernel
theorem dL_law_523 : decode cL_law 523 = .ok (.iaload, 1) := by decide +kernel
theorem dL_law_524 : decode cL_law 524 = .ok (.aload_n 0, 1) := by decide +kernel
theorem dL_law_525 : decode cL_law 525 = .ok (.iload_n 3, 1) := by decide +kernel
theorem dL_law_526 : decode cL_law 526 = .ok (.iconst 2, 1) := by decide +kernel
theorem dL_law_527 : decode cL_law 527 = .ok (.iadd, 1) := by decide +kernel
theorem dL_law_528 : decode cL_law 528 = .ok (.iaload, 1) := by decide +kernel
theorem dL_law_529 : decode cL_law 529 = .ok (.invokevirtual 68, 3) := by decide +kernel
theorem dL_law_532 : decode cL_law 532 = .ok (.if_icmp .eq 703, 3) := by decide +kernel
theorem dL_law_535 : decode cL_law 535 = .ok (.iconst 0, 1) := by decide +kernel
theorem dL_law_536 : decode cL_law 536 = .ok (.ireturn, 1) := by decide +kernel
theorem dL_law_537 : decode cL_law 537 = .ok (.aload_n 1, 1) := by decide +kernel
theorem dL_law_538 : decode cL_law 538 = .ok (.aload_n 0, 1) := by decide +kernel
theorem dL_law_539 : decode cL_law 539 = .ok (.iload_n 3, 1) := by decide +kernel
theorem dL_law_540 : decode cL_law 540 = .ok (.iconst 1, 1) := by decide +kernel
theorem dL_law_541 : decode cL_law 541 = .ok (.iadd, 1) := by decide +kernel
theorem dL_law_542 : decode cL_law 542 = .ok (.iaload, 1) := by decide +kernel
theorem dL_law_543 : decode cL_law 543 = .ok (.aload_n 0, 1) := by decide +kernel
theorem dL_law_544 : decode cL_law 544 = .ok (.iload_n 3, 1) := by decide +kernel
theorem dL_law_545 : decode cL_law 545 = .ok (.iconst 2, 1) := by decide +kernel
theorem dL_law_546 : decode cL_law 546 = .ok (.iadd, 1) := by decide +kernel
theorem dL_law_547 : decode cL_law 547 = .ok (.iaload, 1) := by decide +kernel
theorem dL_law_548 : decode cL_law 548 = .ok (.invokevirtual 69, 3) := by decide +kernel
theorem dL_law_551 : decode cL_law 551 = .ok (.aload_n 2, 1) := by decide +kernel
theorem dL_law_552 : decode cL_law 552 = .ok (.aload_n 0, 1) := by decide +kernel
theorem dL_law_553 : decode cL_law 553 = .ok (.iload_n 3, 1) := by decide +kernel
theorem dL_law_554 : decode cL_law 554 = .ok (.iconst 1, 1) := by decide +kernel
theorem dL_law_555 : decode cL_law 555 = .ok (.iadd, 1) := by decide +kernel
theorem dL_law_556 : decode cL_law 556 = .ok (.iaload, 1) := by decide +kernel
theorem dL_law_557 : decode cL_law 557 = .ok (.aload_n 0, 1) := by decide +kernel
theorem dL_law_558 : decode cL_law 558 = .ok (.iload_n 3, 1) := by decide +kernel
theorem dL_law_559 : decode cL_law 559 = .ok (.iconst 2, 1) := by decide +kernel
theorem dL_law_560 : decode cL_law 560 = .ok (.iadd, 1) := by decide +kernel
theorem dL_law_561 : decode cL_law 561 = .ok (.iaload, 1) := by decide +kernel
theorem dL_law_562 : decode cL_law 562 = .ok (.invokevirtual 72, 3) := by decide +kernel
theorem dL_law_565 : decode cL_law 565 = .ok (.if_icmp .eq 670, 3) := by decide +kernel
theorem dL_law_568 : decode cL_law 568 = .ok (.iconst 0, 1) := by decide +kernel
theorem dL_law_569 : decode cL_law 569 = .ok (.ireturn, 1) := by decide +kernel
theorem dL_law_570 : decode cL_law 570 = .ok (.aload_n 1, 1) := by decide +kernel
theorem dL_law_571 : decode cL_law 571 = .ok (.aload_n 0, 1) := by decide +kernel
theorem dL_law_572 : decode cL_law 572 = .ok (.iload_n 3, 1) := by decide +kernel
theorem dL_law_573 : decode cL_law 573 = .ok (.iconst 1, 1) := by decide +kernel
theorem dL_law_574 : decode cL_law 574 = .ok (.iadd, 1) := by decide +kernel
theorem dL_law_575 : decode cL_law 575 = .ok (.iaload, 1) := by decide +kernel
theorem dL_law_576 : decode cL_law 576 = .ok (.aload_n 0, 1) := by decide +kernel
theorem dL_law_577 : decode cL_law 577 = .ok (.iload_n 3, 1) := by decide +kernel
theorem dL_law_578 : decode cL_law 578 = .ok (.iconst 2, 1) := by decide +kernel
theorem dL_law_579 : decode cL_law 579 = .ok (.iadd, 1) := by decide +kernel
theorem dL_law_580 : decode cL_law 580 = .ok (.iaload, 1) := by decide +kernel
theorem dL_law_581 : decode cL_law 581 = .ok (.invokevirtual 73, 3) := by decide +kernel
theorem dL_law_584 : decode cL_law 584 = .ok (.aload_n 2, 1) := by decide +kernel
theorem dL_law_585 : decode cL_law 585 = .ok (.aload_n 0, 1) := by decide +kernel
theorem dL_law_586 : decode cL_law 586 = .ok (.iload_n 3, 1) := by decide +kernel
theorem dL_law_587 : decode cL_law 587 = .ok (.iconst 1, 1) := by decide +kernel
theorem dL_law_588 : decode cL_law 588 = .ok (.iadd, 1) := by decide +kernel
theorem dL_law_589 : decode cL_law 589 = .ok (.iaload, 1) := by decide +kernel
theorem dL_law_590 : decode cL_law 590 = .ok (.aload_n 0, 1) := by decide +kernel
theorem dL_law_591 : decode cL_law 591 = .ok (.iload_n 3, 1) := by decide +kernel
theorem dL_law_592 : decode cL_law 592 = .ok (.iconst 2, 1) := by decide +kernel
theorem dL_law_593 : decode cL_law 593 = .ok (.iadd, 1) := by decide +kernel
theorem dL_law_594 : decode cL_law 594 = .ok (.iaload, 1) := by decide +kernel
theorem dL_law_595 : decode cL_law 595 = .ok (.invokevirtual 76, 3) := by decide +kernel
theorem dL_law_598 : decode cL_law 598 = .ok (.if_icmp .eq 637, 3) := by decide +kernel
theorem dL_law_601 : decode cL_law 601 = .ok (.iconst 0, 1) := by decide +kernel
theorem dL_law_602 : decode cL_law 602 = .ok (.ireturn, 1) := by decide +kernel
theorem dL_law_603 : decode cL_law 603 = .ok (.aload_n 1, 1) := by decide +kernel
theorem dL_law_604 : decode cL_law 604 = .ok (.aload_n 0, 1) := by decide +kernel
theorem dL_law_605 : decode cL_law 605 = .ok (.iload_n 3, 1) := by decide +kernel
theorem dL_law_606 : decode cL_law 606 = .ok (.iconst 1, 1) := by decide +kernel
theorem dL_law_607 : decode cL_law 607 = .ok (.iadd, 1) := by decide +kernel
theorem dL_law_608 : decode cL_law 608 = .ok (.iaload, 1) := by decide +kernel
theorem dL_law_609 : decode cL_law 609 = .ok (.aload_n 0, 1) := by decide +kernel
theorem dL_law_610 : decode cL_law 610 = .ok (.iload_n 3, 1) := by decide +kernel
theorem dL_law_611 : decode cL_law 611 = .ok (.iconst 2, 1) := by decide +kernel
theorem dL_law_612 : decode cL_law 612 = .ok (.iadd, 1) := by decide +kernel
theorem dL_law_613 : decode cL_law 613 = .ok (.iaload, 1) := by decide +kernel
theorem dL_law_614 : decode cL_law 614 = .ok (.invokevirtual 77, 3) := by decide +kernel
theorem dL_law_617 : decode cL_law 617 = .ok (.aload_n 2, 1) := by decide +kernel
theorem dL_law_618 : decode cL_law 618 = .ok (.aload_n 0, 1) := by decide +kernel
theorem dL_law_619 : decode cL_law 619 = .ok (.iload_n 3, 1) := by decide +kernel
theorem dL_law_620 : decode cL_law 620 = .ok (.iconst 1, 1) := by decide +kernel
theorem dL_law_621 : decode cL_law 621 = .ok (.iadd, 1) := by decide +kernel
theorem dL_law_622 : decode cL_law 622 = .ok (.iaload, 1) := by decide +kernel
theorem dL_law_623 : decode cL_law 623 = .ok (.aload_n 0, 1) := by decide +kernel
theorem dL_law_624 : decode cL_law 624 = .ok (.iload_n 3, 1) := by decide +kernel
theorem dL_law_625 : decode cL_law 625 = .ok (.iconst 2, 1) := by decide +kernel
theorem dL_law_626 : decode cL_law 626 = .ok (.iadd, 1) := by decide +kernel
theorem dL_law_627 : decode cL_law 627 = .ok (.iaload, 1) := by decide +kernel
theorem dL_law_628 : decode cL_law 628 = .ok (.invokevirtual 80, 3) := by decide +kernel
theorem dL_law_631 : decode cL_law 631 = .ok (.if_icmp .eq 604, 3) := by decide +kernel
theorem dL_law_634 : decode cL_law 634 = .ok (.iconst 0, 1) := by decide +kernel
theorem dL_law_635 : decode cL_law 635 = .ok (.ireturn, 1) := by decide +kernel
theorem dL_law_636 : decode cL_law 636 = .ok (.aload_n 1, 1) := by decide +kernel
theorem dL_law_637 : decode cL_law 637 = .ok (.aload_n 0, 1) := by decide +kernel
theorem dL_law_638 : decode cL_law 638 = .ok (.iload_n 3, 1) := by decide +kernel
theorem dL_law_639 : decode cL_law 639 = .ok (.iconst 1, 1) := by decide +kernel
theorem dL_law_640 : decode cL_law 640 = .ok (.iadd, 1) := by decide +kernel
theorem dL_law_641 : decode cL_law 641 = .ok (.iaload, 1) := by decide +kernel
theorem dL_law_642 : decode cL_law 642 = .ok (.aload_n 0, 1) := by decide +kernel
theorem dL_law_643 : decode cL_law 643 = .ok (.iload_n 3, 1) := by decide +kernel
theorem dL_law_644 : decode cL_law 644 = .ok (.iconst 2, 1) := by decide +kernel
theorem dL_law_645 : decode cL_law 645 = .ok (.iadd, 1) := by decide +kernel
theorem dL_law_646 : decode cL_law 646 = .ok (.iaload, 1) := by decide +kernel
theorem dL_law_647 : decode cL_law 647 = .ok (.aload_n 0, 1) := by decide +kernel
theorem dL_law_648 : decode cL_law 648 = .ok (.iload_n 3, 1) := by decide +kernel
theorem dL_law_649 : decode cL_law 649 = .ok (.iconst 3, 1) := by decide +kernel
theorem dL_law_650 : decode cL_law 650 = .ok (.iadd, 1) := by decide +kernel
theorem dL_law_651 : decode cL_law 651 = .ok (.iaload, 1) := by decide +kernel
theorem dL_law_652 : decode cL_law 652 = .ok (.invokevirtual 81, 3) := by decide +kernel
theorem dL_law_655 : decode cL_law 655 = .ok (.aload_n 2, 1) := by decide +kernel
theorem dL_law_656 : decode cL_law 656 = .ok (.aload_n 0, 1) := by decide +kernel
theorem dL_law_657 : decode cL_law 657 = .ok (.iload_n 3, 1) := by decide +kernel
theorem dL_law_658 : decode cL_law 658 = .ok (.iconst 1, 1) := by decide +kernel
theorem dL_law_659 : decode cL_law 659 = .ok (.iadd, 1) := by decide +kernel
theorem dL_law_660 : decode cL_law 660 = .ok (.iaload, 1) := by decide +kernel
theorem dL_law_661 : decode cL_law 661 = .ok (.aload_n 0, 1) := by decide +kernel
theorem dL_law_662 : decode cL_law 662 = .ok (.iload_n 3, 1) := by decide +kernel
theorem dL_law_663 : decode cL_law 663 = .ok (.iconst 2, 1) := by decide +kernel
theorem dL_law_664 : decode cL_law 664 = .ok (.iadd, 1) := by decide +kernel
theorem dL_law_665 : decode cL_law 665 = .ok (.iaload, 1) := by decide +kernel
theorem dL_law_666 : decode cL_law 666 = .ok (.aload_n 0, 1) := by decide +kernel
theorem dL_law_667 : decode cL_law 667 = .ok (.iload_n 3, 1) := by decide +kernel
theorem dL_law_668 : decode cL_law 668 = .ok (.iconst 3, 1) := by decide +kernel
theorem dL_law_669 : decode cL_law 669 = .ok (.iadd, 1) := by decide +kernel
theorem dL_law_670 : decode cL_law 670 = .ok (.iaload, 1) := by decide +kernel
theorem dL_law_671 : decode cL_law 671 = .ok (.invokevirtual 84, 3) := by decide +kernel
theorem dL_law_674 : decode cL_law 674 = .ok (.if_icmp .eq 561, 3) := by decide +kernel
theorem dL_law_677 : decode cL_law 677 = .ok (.iconst 0, 1) := by decide +kernel
theorem dL_law_678 : decode cL_law 678 = .ok (.ireturn, 1) := by decide +kernel
theorem dL_law_679 : decode cL_law 679 = .ok (.aload_n 1, 1) := by decide +kernel
theorem dL_law_680 : decode cL_law 680 = .ok (.aload_n 0, 1) := by decide +kernel
theorem dL_law_681 : decode cL_law 681 = .ok (.iload_n 3, 1) := by decide +kernel
theorem dL_law_682 : decode cL_law 682 = .ok (.iconst 1, 1) := by decide +kernel
theorem dL_law_683 : decode cL_law 683 = .ok (.iadd, 1) := by decide +kernel
theorem dL_law_684 : decode cL_law 684 = .ok (.iaload, 1) := by decide +kernel
theorem dL_law_685 : decode cL_law 685 = .ok (.aload_n 0, 1) := by decide +kernel
theorem dL_law_686 : decode cL_law 686 = .ok (.iload_n 3, 1) := by decide +kernel
theorem dL_law_687 : decode cL_law 687 = .ok (.iconst 2, 1) := by decide +kernel
theorem dL_law_688 : decode cL_law 688 = .ok (.iadd, 1) := by decide +kernel
theorem dL_law_689 : decode cL_law 689 = .ok (.iaload, 1) := by decide +kernel
theorem dL_law_690 : decode cL_law 690 = .ok (.aload_n 0, 1) := by decide +kernel
theorem dL_law_691 : decode cL_law 691 = .ok (.iload_n 3, 1) := by decide +kernel
theorem dL_law_692 : decode cL_law 692 = .ok (.iconst 3, 1) := by decide +kernel
theorem dL_law_693 : decode cL_law 693 = .ok (.iadd, 1) := by decide +kernel
theorem dL_law_694 : decode cL_law 694 = .ok (.iaload, 1) := by decide +kernel
theorem dL_law_695 : decode cL_law 695 = .ok (.invokevirtual 85, 3) := by decide +kernel
theorem dL_law_698 : decode cL_law 698 = .ok (.aload_n 2, 1) := by decide +kernel
theorem dL_law_699 : decode cL_law 699 = .ok (.aload_n 0, 1) := by decide +kernel
theorem dL_law_700 : decode cL_law 700 = .ok (.iload_n 3, 1) := by decide +kernel
theorem dL_law_701 : decode cL_law 701 = .ok (.iconst 1, 1) := by decide +kernel
theorem dL_law_702 : decode cL_law 702 = .ok (.iadd, 1) := by decide +kernel
theorem dL_law_703 : decode cL_law 703 = .ok (.iaload, 1) := by decide +kernel
theorem dL_law_704 : decode cL_law 704 = .ok (.aload_n 0, 1) := by decide +kernel
theorem dL_law_705 : decode cL_law 705 = .ok (.iload_n 3, 1) := by decide +kernel
theorem dL_law_706 : decode cL_law 706 = .ok (.iconst 2, 1) := by decide +kernel
theorem dL_law_707 : decode cL_law 707 = .ok (.iadd, 1) := by decide +kernel
theorem dL_law_708 : decode cL_law 708 = .ok (.iaload, 1) := by decide +kernel
theorem dL_law_709 : decode cL_law 709 = .ok (.aload_n 0, 1) := by decide +kernel
theorem dL_law_710 : decode cL_law 710 = .ok (.iload_n 3, 1) := by decide +kernel
theorem dL_law_711 : decode cL_law 711 = .ok (.iconst 3, 1) := by decide +kernel
theorem dL_law_712 : decode cL_law 712 = .ok (.iadd, 1) := by decide +kernel
theorem dL_law_713 : decode cL_law 713 = .ok (.iaload, 1) := by decide +kernel
theorem dL_law_714 : decode cL_law 714 = .ok (.invokevirtual 88, 3) := by decide +kernel
theorem dL_law_717 : decode cL_law 717 = .ok (.if_icmp .eq 518, 3) := by decide +kernel
theorem dL_law_720 : decode cL_law 720 = .ok (.iconst 0, 1) := by decide +kernel
theorem dL_law_721 : decode cL_law 721 = .ok (.ireturn, 1) := by decide +kernel
theorem dL_law_722 : decode cL_law 722 = .ok (.aload_n 1, 1) := by decide +kernel
theorem dL_law_723 : decode cL_law 723 = .ok (.aload_n 0, 1) := by decide +kernel
theorem dL_law_724 : decode cL_law 724 = .ok (.iload_n 3, 1) := by decide +kernel
theorem dL_law_725 : decode cL_law 725 = .ok (.iconst 1, 1) := by decide +kernel
theorem dL_law_726 : decode cL_law 726 = .ok (.iadd, 1) := by decide +kernel
theorem dL_law_727 : decode cL_law 727 = .ok (.iaload, 1) := by decide +kernel
theorem dL_law_728 : decode cL_law 728 = .ok (.aload_n 0, 1) := by decide +kernel
theorem dL_law_729 : decode cL_law 729 = .ok (.iload_n 3, 1) := by decide +kernel
theorem dL_law_730 : decode cL_law 730 = .ok (.iconst 2, 1) := by decide +kernel
theorem dL_law_731 : decode cL_law 731 = .ok (.iadd, 1) := by decide +kernel
theorem dL_law_732 : decode cL_law 732 = .ok (.iaload, 1) := by decide +kernel
theorem dL_law_733 : decode cL_law 733 = .ok (.aload_n 0, 1) := by decide +kernel
theorem dL_law_734 : decode cL_law 734 = .ok (.iload_n 3, 1) := by decide +kernel
theorem dL_law_735 : decode cL_law 735 = .ok (.iconst 3, 1) := by decide +kernel
theorem dL_law_736 : decode cL_law 736 = .ok (.iadd, 1) := by decide +kernel
theorem dL_law_737 : decode cL_law 737 = .ok (.iaload, 1) := by decide +kernel
theorem dL_law_738 : decode cL_law 738 = .ok (.invokevirtual 89, 3) := by decide +kernel
theorem dL_law_741 : decode cL_law 741 = .ok (.aload_n 2, 1) := by decide +kernel
theorem dL_law_742 : decode cL_law 742 = .ok (.aload_n 0, 1) := by decide +kernel
theorem dL_law_743 : decode cL_law 743 = .ok (.iload_n 3, 1) := by decide +kernel
theorem dL_law_744 : decode cL_law 744 = .ok (.iconst 1, 1) := by decide +kernel
theorem dL_law_745 : decode cL_law 745 = .ok (.iadd, 1) := by decide +kernel
theorem dL_law_746 : decode cL_law 746 = .ok (.iaload, 1) := by decide +kernel
theorem dL_law_747 : decode cL_law 747 = .ok (.aload_n 0, 1) := by decide +kernel
theorem dL_law_748 : decode cL_law 748 = .ok (.iload_n 3, 1) := by decide +kernel
theorem dL_law_749 : decode cL_law 749 = .ok (.iconst 2, 1) := by decide +kernel
theorem dL_law_750 : decode cL_law 750 = .ok (.iadd, 1) := by decide +kernel
theorem dL_law_751 : decode cL_law 751 = .ok (.iaload, 1) := by decide +kernel
theorem dL_law_752 : decode cL_law 752 = .ok (.aload_n 0, 1) := by decide +kernel
theorem dL_law_753 : decode cL_law 753 = .ok (.iload_n 3, 1) := by decide +kernel
theorem dL_law_754 : decode cL_law 754 = .ok (.iconst 3, 1) := by decide +kernel
theorem dL_law_755 : decode cL_law 755 = .ok (.iadd, 1) := by decide +kernel
theorem dL_law_756 : decode cL_law 756 = .ok (.iaload, 1) := by decide +kernel
theorem dL_law_757 : decode cL_law 757 = .ok (.invokevirtual 92, 3) := by decide +kernel
theorem dL_law_760 : decode cL_law 760 = .ok (.if_icmp .eq 475, 3) := by decide +kernel
theorem dL_law_763 : decode cL_law 763 = .ok (.iconst 0, 1) := by decide +kernel
theorem dL_law_764 : decode cL_law 764 = .ok (.ireturn, 1) := by decide +kernel
theorem dL_law_765 : decode cL_law 765 = .ok (.aload_n 1, 1) := by decide +kernel
theorem dL_law_766 : decode cL_law 766 = .ok (.aload_n 0, 1) := by decide +kernel
theorem dL_law_767 : decode cL_law 767 = .ok (.iload_n 3, 1) := by decide +kernel
theorem dL_law_768 : decode cL_law 768 = .ok (.iconst 1, 1) := by decide +kernel
theorem dL_law_769 : decode cL_law 769 = .ok (.iadd, 1) := by decide +kernel
theorem dL_law_770 : decode cL_law 770 = .ok (.iaload, 1) := by decide +kernel
theorem dL_law_771 : decode cL_law 771 = .ok (.aload_n 0, 1) := by decide +kernel
theorem dL_law_772 : decode cL_law 772 = .ok (.iload_n 3, 1) := by decide +kernel
theorem dL_law_773 : decode cL_law 773 = .ok (.iconst 2, 1) := by decide +kernel
theorem dL_law_774 : decode cL_law 774 = .ok (.iadd, 1) := by decide +kernel
theorem dL_law_775 : decode cL_law 775 = .ok (.iaload, 1) := by decide +kernel
theorem dL_law_776 : decode cL_law 776 = .ok (.aload_n 0, 1) := by decide +kernel
theorem dL_law_777 : decode cL_law 777 = .ok (.iload_n 3, 1) := by decide +kernel
theorem dL_law_778 : decode cL_law 778 = .ok (.iconst 3, 1) := by decide +kernel
theorem dL_law_779 : decode cL_law 779 = .ok (.iadd, 1) := by decide +kernel
theorem dL_law_780 : decode cL_law 780 = .ok (.iaload, 1) := by decide +kernel
theorem dL_law_781 : decode cL_law 781 = .ok (.invokevirtual 93, 3) := by decide +kernel
theorem dL_law_784 : decode cL_law 784 = .ok (.aload_n 2, 1) := by decide +kernel
theorem dL_law_785 : decode cL_law 785 = .ok (.aload_n 0, 1) := by decide +kernel
theorem dL_law_786 : decode cL_law 786 = .ok (.iload_n 3, 1) := by decide +kernel
theorem dL_law_787 : decode cL_law 787 = .ok (.iconst 1, 1) := by decide +kernel
theorem dL_law_788 : decode cL_law 788 = .ok (.iadd, 1) := by decide +kernel
theorem dL_law_789 : decode cL_law 789 = .ok (.iaload, 1) := by decide +kernel
theorem dL_law_790 : decode cL_law 790 = .ok (.aload_n 0, 1) := by decide +kernel
theorem dL_law_791 : decode cL_law 791 = .ok (.iload_n 3, 1) := by decide +kernel
theorem dL_law_792 : decode cL_law 792 = .ok (.iconst 2, 1) := by decide +kernel
theorem dL_law_793 : decode cL_law 793 = .ok (.iadd, 1) := by decide +kernel
theorem dL_law_794 : decode cL_law 794 = .ok (.iaload, 1) := by decide +kernel
theorem dL_law_795 : decode cL_law 795 = .ok (.aload_n 0, 1) := by decide +kernel
theorem dL_law_796 : decode cL_law 796 = .ok (.iload_n 3, 1) := by decide +kernel
theorem dL_law_797 : decode cL_law 797 = .ok (.iconst 3, 1) := by decide +kernel
theorem dL_law_798 : decode cL_law 798 = .ok (.iadd, 1) := by decide +kernel
theorem dL_law_799 : decode cL_law 799 = .ok (.iaload, 1) := by decide +kernel
theorem dL_law_800 : decode cL_law 800 = .ok (.invokevirtual 96, 3) := by decide +kernel
theorem dL_law_803 : decode cL_law 803 = .ok (.if_icmp .eq 432, 3) := by decide +kernel
theorem dL_law_806 : decode cL_law 806 = .ok (.iconst 0, 1) := by decide +kernel
theorem dL_law_807 : decode cL_law 807 = .ok (.ireturn, 1) := by decide +kernel
theorem dL_law_808 : decode cL_law 808 = .ok (.aload_n 1, 1) := by decide +kernel
theorem dL_law_809 : decode cL_law 809 = .ok (.aload_n 0, 1) := by decide +kernel
theorem dL_law_810 : decode cL_law 810 = .ok (.iload_n 3, 1) := by decide +kernel
theorem dL_law_811 : decode cL_law 811 = .ok (.iconst 1, 1) := by decide +kernel
theorem dL_law_812 : decode cL_law 812 = .ok (.iadd, 1) := by decide +kernel
theorem dL_law_813 : decode cL_law 813 = .ok (.iaload, 1) := by decide +kernel
theorem dL_law_814 : decode cL_law 814 = .ok (.aload_n 0, 1) := by decide +kernel
theorem dL_law_815 : decode cL_law 815 = .ok (.iload_n 3, 1) := by decide +kernel
theorem dL_law_816 : decode cL_law 816 = .ok (.iconst 2, 1) := by decide +kernel
theorem dL_law_817 : decode cL_law 817 = .ok (.iadd, 1) := by decide +kernel
theorem dL_law_818 : decode cL_law 818 = .ok (.iaload, 1) := by decide +kernel
theorem dL_law_819 : decode cL_law 819 = .ok (.aload_n 0, 1) := by decide +kernel
theorem dL_law_820 : decode cL_law 820 = .ok (.iload_n 3, 1) := by decide +kernel
theorem dL_law_821 : decode cL_law 821 = .ok (.iconst 3, 1) := by decide +kernel
theorem dL_law_822 : decode cL_law 822 = .ok (.iadd, 1) := by decide +kernel
theorem dL_law_823 : decode cL_law 823 = .ok (.iaload, 1) := by decide +kernel
theorem dL_law_824 : decode cL_law 824 = .ok (.aload_n 0, 1) := by decide +kernel
theorem dL_law_825 : decode cL_law 825 = .ok (.iload_n 3, 1) := by decide +kernel
theorem dL_law_826 : decode cL_law 826 = .ok (.iconst 4, 1) := by decide +kernel
theorem dL_law_827 : decode cL_law 827 = .ok (.iadd, 1) := by decide +kernel
theorem dL_law_828 : decode cL_law 828 = .ok (.iaload, 1) := by decide +kernel
theorem dL_law_829 : decode cL_law 829 = .ok (.invokevirtual 97, 3) := by decide +kernel
theorem dL_law_832 : decode cL_law 832 = .ok (.aload_n 2, 1) := by decide +kernel
theorem dL_law_833 : decode cL_law 833 = .ok (.aload_n 0, 1) := by decide +kernel
theorem dL_law_834 : decode cL_law 834 = .ok (.iload_n 3, 1) := by decide +kernel
theorem dL_law_835 : decode cL_law 835 = .ok (.iconst 1, 1) := by decide +kernel
theorem dL_law_836 : decode cL_law 836 = .ok (.iadd, 1) := by decide +kernel
theorem dL_law_837 : decode cL_law 837 = .ok (.iaload, 1) := by decide +kernel
theorem dL_law_838 : decode cL_law 838 = .ok (.aload_n 0, 1) := by decide +kernel
theorem dL_law_839 : decode cL_law 839 = .ok (.iload_n 3, 1) := by decide +kernel
theorem dL_law_840 : decode cL_law 840 = .ok (.iconst 2, 1) := by decide +kernel
theorem dL_law_841 : decode cL_law 841 = .ok (.iadd, 1) := by decide +kernel
theorem dL_law_842 : decode cL_law 842 = .ok (.iaload, 1) := by decide +kernel
theorem dL_law_843 : decode cL_law 843 = .ok (.aload_n 0, 1) := by decide +kernel
theorem dL_law_844 : decode cL_law 844 = .ok (.iload_n 3, 1) := by decide +kernel
theorem dL_law_845 : decode cL_law 845 = .ok (.iconst 3, 1) := by decide +kernel
theorem dL_law_846 : decode cL_law 846 = .ok (.iadd, 1) := by decide +kernel
theorem dL_law_847 : decode cL_law 847 = .ok (.iaload, 1) := by decide +kernel
theorem dL_law_848 : decode cL_law 848 = .ok (.aload_n 0, 1) := by decide +kernel
theorem dL_law_849 : decode cL_law 849 = .ok (.iload_n 3, 1) := by decide +kernel
theorem dL_law_850 : decode cL_law 850 = .ok (.iconst 4, 1) := by decide +kernel
theorem dL_law_851 : decode cL_law 851 = .ok (.iadd, 1) := by decide +kernel
theorem dL_law_852 : decode cL_law 852 = .ok (.iaload, 1) := by decide +kernel
theorem dL_law_853 : decode cL_law 853 = .ok (.invokevirtual 101, 3) := by decide +kernel
theorem dL_law_856 : decode cL_law 856 = .ok (.if_icmp .eq 379, 3) := by decide +kernel
theorem dL_law_859 : decode cL_law 859 = .ok (.iconst 0, 1) := by decide +kernel
theorem dL_law_860 : decode cL_law 860 = .ok (.ireturn, 1) := by decide +kernel
theorem dL_law_861 : decode cL_law 861 = .ok (.aload_n 1, 1) := by decide +kernel
theorem dL_law_862 : decode cL_law 862 = .ok (.aload_n 0, 1) := by decide +kernel
theorem dL_law_863 : decode cL_law 863 = .ok (.iload_n 3, 1) := by decide +kernel
theorem dL_law_864 : decode cL_law 864 = .ok (.iconst 1, 1) := by decide +kernel
theorem dL_law_865 : decode cL_law 865 = .ok (.iadd, 1) := by decide +kernel
theorem dL_law_866 : decode cL_law 866 = .ok (.iaload, 1) := by decide +kernel
theorem dL_law_867 : decode cL_law 867 = .ok (.aload_n 0, 1) := by decide +kernel
theorem dL_law_868 : decode cL_law 868 = .ok (.iload_n 3, 1) := by decide +kernel
theorem dL_law_869 : decode cL_law 869 = .ok (.iconst 2, 1) := by decide +kernel
theorem dL_law_870 : decode cL_law 870 = .ok (.iadd, 1) := by decide +kernel
theorem dL_law_871 : decode cL_law 871 = .ok (.iaload, 1) := by decide +kernel
theorem dL_law_872 : decode cL_law 872 = .ok (.aload_n 0, 1) := by decide +kernel
theorem dL_law_873 : decode cL_law 873 = .ok (.iload_n 3, 1) := by decide +kernel
theorem dL_law_874 : decode cL_law 874 = .ok (.iconst 3, 1) := by decide +kernel
theorem dL_law_875 : decode cL_law 875 = .ok (.iadd, 1) := by decide +kernel
theorem dL_law_876 : decode cL_law 876 = .ok (.iaload, 1) := by decide +kernel
theorem dL_law_877 : decode cL_law 877 = .ok (.aload_n 0, 1) := by decide +kernel
theorem dL_law_878 : decode cL_law 878 = .ok (.iload_n 3, 1) := by decide +kernel
theorem dL_law_879 : decode cL_law 879 = .ok (.iconst 4, 1) := by decide +kernel
theorem dL_law_880 : decode cL_law 880 = .ok (.iadd, 1) := by decide +kernel
theorem dL_law_881 : decode cL_law 881 = .ok (.iaload, 1) := by decide +kernel
theorem dL_law_882 : decode cL_law 882 = .ok (.invokevirtual 102, 3) := by decide +kernel
theorem dL_law_885 : decode cL_law 885 = .ok (.aload_n 2, 1) := by decide +kernel
theorem dL_law_886 : decode cL_law 886 = .ok (.aload_n 0, 1) := by decide +kernel
theorem dL_law_887 : decode cL_law 887 = .ok (.iload_n 3, 1) := by decide +kernel
theorem dL_law_888 : decode cL_law 888 = .ok (.iconst 1, 1) := by decide +kernel
theorem dL_law_889 : decode cL_law 889 = .ok (.iadd, 1) := by decide +kernel
theorem dL_law_890 : decode cL_law 890 = .ok (.iaload, 1) := by decide +kernel
theorem dL_law_891 : decode cL_law 891 = .ok (.aload_n 0, 1) := by decide +kernel
theorem dL_law_892 : decode cL_law 892 = .ok (.iload_n 3, 1) := by decide +kernel
theorem dL_law_893 : decode cL_law 893 = .ok (.iconst 2, 1) := by decide +kernel
theorem dL_law_894 : decode cL_law 894 = .ok (.iadd, 1) := by decide +kernel
theorem dL_law_895 : decode cL_law 895 = .ok (.iaload, 1) := by decide +kernel
theorem dL_law_896 : decode cL_law 896 = .ok (.aload_n 0, 1) := by decide +kernel
theorem dL_law_897 : decode cL_law 897 = .ok (.iload_n 3, 1) := by decide +kernel
theorem dL_law_898 : decode cL_law 898 = .ok (.iconst 3, 1) := by decide +kernel
theorem dL_law_899 : decode cL_law 899 = .ok (.iadd, 1) := by decide +kernel
theorem dL_law_900 : decode cL_law 900 = .ok (.iaload, 1) := by decide +kernel
theorem dL_law_901 : decode cL_law 901 = .ok (.aload_n 0, 1) := by decide +kernel
theorem dL_law_902 : decode cL_law 902 = .ok (.iload_n 3, 1) := by decide +kernel
theorem dL_law_903 : decode cL_law 903 = .ok (.iconst 4, 1) := by decide +kernel
theorem dL_law_904 : decode cL_law 904 = .ok (.iadd, 1) := by decide +kernel
theorem dL_law_905 : decode cL_law 905 = .ok (.iaload, 1) := by decide +kernel
theorem dL_law_906 : decode cL_law 906 = .ok (.invokevirtual 105, 3) := by decide +kernel
theorem dL_law_909 : decode cL_law 909 = .ok (.if_icmp .eq 326, 3) := by decide +kernel
theorem dL_law_912 : decode cL_law 912 = .ok (.iconst 0, 1) := by decide +kernel
theorem dL_law_913 : decode cL_law 913 = .ok (.ireturn, 1) := by decide +kernel
theorem dL_law_914 : decode cL_law 914 = .ok (.aload_n 1, 1) := by decide +kernel
theorem dL_law_915 : decode cL_law 915 = .ok (.aload_n 0, 1) := by decide +kernel
theorem dL_law_916 : decode cL_law 916 = .ok (.iload_n 3, 1) := by decide +kernel
theorem dL_law_917 : decode cL_law 917 = .ok (.iconst 1, 1) := by decide +kernel
theorem dL_law_918 : decode cL_law 918 = .ok (.iadd, 1) := by decide +kernel
theorem dL_law_919 : decode cL_law 919 = .ok (.iaload, 1) := by decide +kernel
theorem dL_law_920 : decode cL_law 920 = .ok (.invokevirtual 106, 3) := by decide +kernel
theorem dL_law_923 : decode cL_law 923 = .ok (.aload_n 2, 1) := by decide +kernel
theorem dL_law_924 : decode cL_law 924 = .ok (.aload_n 0, 1) := by decide +kernel
theorem dL_law_925 : decode cL_law 925 = .ok (.iload_n 3, 1) := by decide +kernel
theorem dL_law_926 : decode cL_law 926 = .ok (.iconst 1, 1) := by decide +kernel
theorem dL_law_927 : decode cL_law 927 = .ok (.iadd, 1) := by decide +kernel
theorem dL_law_928 : decode cL_law 928 = .ok (.iaload, 1) := by decide +kernel
theorem dL_law_929 : decode cL_law 929 = .ok (.invokevirtual 109, 3) := by decide +kernel
theorem dL_law_932 : decode cL_law 932 = .ok (.if_icmp .eq 303, 3) := by decide +kernel
theorem dL_law_935 : decode cL_law 935 = .ok (.iconst 0, 1) := by decide +kernel
theorem dL_law_936 : decode cL_law 936 = .ok (.ireturn, 1) := by decide +kernel
theorem dL_law_937 : decode cL_law 937 = .ok (.aload_n 1, 1) := by decide +kernel
theorem dL_law_938 : decode cL_law 938 = .ok (.aload_n 0, 1) := by decide +kernel
theorem dL_law_939 : decode cL_law 939 = .ok (.iload_n 3, 1) := by decide +kernel
theorem dL_law_940 : decode cL_law 940 = .ok (.iconst 1, 1) := by decide +kernel
theorem dL_law_941 : decode cL_law 941 = .ok (.iadd, 1) := by decide +kernel
theorem dL_law_942 : decode cL_law 942 = .ok (.iaload, 1) := by decide +kernel
theorem dL_law_943 : decode cL_law 943 = .ok (.invokevirtual 110, 3) := by decide +kernel
theorem dL_law_946 : decode cL_law 946 = .ok (.aload_n 2, 1) := by decide +kernel
theorem dL_law_947 : decode cL_law 947 = .ok (.aload_n 0, 1) := by decide +kernel
theorem dL_law_948 : decode cL_law 948 = .ok (.iload_n 3, 1) := by decide +kernel
theorem dL_law_949 : decode cL_law 949 = .ok (.iconst 1, 1) := by decide +kernel
theorem dL_law_950 : decode cL_law 950 = .ok (.iadd, 1) := by decide +kernel
theorem dL_law_951 : decode cL_law 951 = .ok (.iaload, 1) := by decide +kernel
theorem dL_law_952 : decode cL_law 952 = .ok (.invokevirtual 113, 3) := by decide +kernel
theorem dL_law_955 : decode cL_law 955 = .ok (.if_icmp .eq 280, 3) := by decide +kernel
theorem dL_law_958 : decode cL_law 958 = .ok (.iconst 0, 1) := by decide +kernel
theorem dL_law_959 : decode cL_law 959 = .ok (.ireturn, 1) := by decide +kernel
theorem dL_law_960 : decode cL_law 960 = .ok (.aload_n 1, 1) := by decide +kernel
theorem dL_law_961 : decode cL_law 961 = .ok (.aload_n 0, 1) := by decide +kernel
theorem dL_law_962 : decode cL_law 962 = .ok (.iload_n 3, 1) := by decide +kernel
theorem dL_law_963 : decode cL_law 963 = .ok (.iconst 1, 1) := by decide +kernel
theorem dL_law_964 : decode cL_law 964 = .ok (.iadd, 1) := by decide +kernel
theorem dL_law_965 : decode cL_law 965 = .ok (.iaload, 1) := by decide +kernel
theorem dL_law_966 : decode cL_law 966 = .ok (.invokevirtual 114, 3) := by decide +kernel
theorem dL_law_969 : decode cL_law 969 = .ok (.aload_n 2, 1) := by decide +kernel
theorem dL_law_970 : decode cL_law 970 = .ok (.aload_n 0, 1) := by decide +kernel
theorem dL_law_971 : decode cL_law 971 = .ok (.iload_n 3, 1) := by decide +kernel
theorem dL_law_972 : decode cL_law 972 = .ok (.iconst 1, 1) := by decide +kernel
theorem dL_law_973 : decode cL_law 973 = .ok (.iadd, 1) := by decide +kernel
theorem dL_law_974 : decode cL_law 974 = .ok (.iaload, 1) := by decide +kernel
theorem dL_law_975 : decode cL_law 975 = .ok (.invokevirtual 117, 3) := by decide +kernel
theorem dL_law_978 : decode cL_law 978 = .ok (.if_icmp .eq 257, 3) := by decide +kernel
theorem dL_law_981 : decode cL_law 981 = .ok (.iconst 0, 1) := by decide +kernel
theorem dL_law_982 : decode cL_law 982 = .ok (.ireturn, 1) := by decide +kernel
theorem dL_law_983 : decode cL_law 983 = .ok (.aload_n 1, 1) := by decide +kernel
theorem dL_law_984 : decode cL_law 984 = .ok (.aload_n 0, 1) := by decide +kernel
theorem dL_law_985 : decode cL_law 985 = .ok (.iload_n 3, 1) := by decide +kernel
theorem dL_law_986 : decode cL_law 986 = .ok (.iconst 1, 1) := by decide +kernel
theorem dL_law_987 : decode cL_law 987 = .ok (.iadd, 1) := by decide +kernel
theorem dL_law_988 : decode cL_law 988 = .ok (.iaload, 1) := by decide +kernel
theorem dL_law_989 : decode cL_law 989 = .ok (.invokevirtual 118, 3) := by decide +kernel
theorem dL_law_992 : decode cL_law 992 = .ok (.aload_n 2, 1) := by decide +kernel
theorem dL_law_993 : decode cL_law 993 = .ok (.aload_n 0, 1) := by decide +kernel
theorem dL_law_994 : decode cL_law 994 = .ok (.iload_n 3, 1) := by decide +kernel
theorem dL_law_995 : decode cL_law 995 = .ok (.iconst 1, 1) := by decide +kernel
theorem dL_law_996 : decode cL_law 996 = .ok (.iadd, 1) := by decide +kernel
theorem dL_law_997 : decode cL_law 997 = .ok (.iaload, 1) := by decide +kernel
theorem dL_law_998 : decode cL_law 998 = .ok (.invokevirtual 121, 3) := by decide +kernel
theorem dL_law_1001 : decode cL_law 1001 = .ok (.if_icmp .eq 234, 3) := by decide +kernel
theorem dL_law_1004 : decode cL_law 1004 = .ok (.iconst 0, 1) := by decide +kernel
theorem dL_law_1005 : decode cL_law 1005 = .ok (.ireturn, 1) := by decide +kernel
theorem dL_law_1006 : decode cL_law 1006 = .ok (.aload_n 1, 1) := by decide +kernel
theorem dL_law_1007 : decode cL_law 1007 = .ok (.aload_n 0, 1) := by decide +kernel
theorem dL_law_1008 : decode cL_law 1008 = .ok (.iload_n 3, 1) := by decide +kernel
theorem dL_law_1009 : decode cL_law 1009 = .ok (.iconst 1, 1) := by decide +kernel
theorem dL_law_1010 : decode cL_law 1010 = .ok (.iadd, 1) := by decide +kernel
theorem dL_law_1011 : decode cL_law 1011 = .ok (.iaload, 1) := by decide +kernel
theorem dL_law_1012 : decode cL_law 1012 = .ok (.invokevirtual 122, 3) := by decide +kernel
theorem dL_law_1015 : decode cL_law 1015 = .ok (.aload_n 2, 1) := by decide +kernel
theorem dL_law_1016 : decode cL_law 1016 = .ok (.aload_n 0, 1) := by decide +kernel
theorem dL_law_1017 : decode cL_law 1017 = .ok (.iload_n 3, 1) := by decide +kernel
theorem dL_law_1018 : decode cL_law 1018 = .ok (.iconst 1, 1) := by decide +kernel
theorem dL_law_1019 : decode cL_law 1019 = .ok (.iadd, 1) := by decide +kernel
theorem dL_law_1020 : decode cL_law 1020 = .ok (.iaload, 1) := by decide +kernel
theorem dL_law_1021 : decode cL_law 1021 = .ok (.invokevirtual 125, 3) := by decide +kernel
theorem dL_law_1024 : decode cL_law 1024 = .ok (.if_icmp .eq 211, 3) := by decide +kernel
theorem dL_law_1027 : decode cL_law 1027 = .ok (.iconst 0, 1) := by decide +kernel
theorem dL_law_1028 : decode cL_law 1028 = .ok (.ireturn, 1) := by decide +kernel
theorem dL_law_1029 : decode cL_law 1029 = .ok (.aload_n 1, 1) := by decide +kernel
theorem dL_law_1030 : decode cL_law 1030 = .ok (.aload_n 0, 1) := by decide +kernel
theorem dL_law_1031 : decode cL_law 1031 = .ok (.iload_n 3, 1) := by decide +kernel
theorem dL_law_1032 : decode cL_law 1032 = .ok (.iconst 1, 1) := by decide +kernel
theorem dL_law_1033 : decode cL_law 1033 = .ok (.iadd, 1) := by decide +kernel
theorem dL_law_1034 : decode cL_law 1034 = .ok (.iaload, 1) := by decide +kernel
theorem dL_law_1035 : decode cL_law 1035 = .ok (.aload_n 0, 1) := by decide +kernel
theorem dL_law_1036 : decode cL_law 1036 = .ok (.iload_n 3, 1) := by decide +kernel
theorem dL_law_1037 : decode cL_law 1037 = .ok (.iconst 2, 1) := by decide +kernel
theorem dL_law_1038 : decode cL_law 1038 = .ok (.iadd, 1) := by decide +kernel
theorem dL_law_1039 : decode cL_law 1039 = .ok (.iaload, 1) := by decide +kernel
theorem dL_law_1040 : decode cL_law 1040 = .ok (.aload_n 0, 1) := by decide +kernel
theorem dL_law_1041 : decode cL_law 1041 = .ok (.iload_n 3, 1) := by decide +kernel
theorem dL_law_1042 : decode cL_law 1042 = .ok (.iconst 3, 1) := by decide +kernel
theorem dL_law_1043 : decode cL_law 1043 = .ok (.iadd, 1) := by decide +kernel
theorem dL_law_1044 : decode cL_law 1044 = .ok (.iaload, 1) := by decide +kernel
theorem dL_law_1045 : decode cL_law 1045 = .ok (.invokevirtual 126, 3) := by decide +kernel
theorem dL_law_1048 : decode cL_law 1048 = .ok (.aload_n 2, 1) := by decide +kernel
theorem dL_law_1049 : decode cL_law 1049 = .ok (.aload_n 0, 1) := by decide +kernel
theorem dL_law_1050 : decode cL_law 1050 = .ok (.iload_n 3, 1) := by decide +kernel
theorem dL_law_1051 : decode cL_law 1051 = .ok (.iconst 1, 1) := by decide +kernel
theorem dL_law_1052 : decode cL_law 1052 = .ok (.iadd, 1) := by decide +kernel
theorem dL_law_1053 : decode cL_law 1053 = .ok (.iaload, 1) := by decide +kernel
theorem dL_law_1054 : decode cL_law 1054 = .ok (.aload_n 0, 1) := by decide +kernel
theorem dL_law_1055 : decode cL_law 1055 = .ok (.iload_n 3, 1) := by decide +kernel
theorem dL_law_1056 : decode cL_law 1056 = .ok (.iconst 2, 1) := by decide +kernel
theorem dL_law_1057 : decode cL_law 1057 = .ok (.iadd, 1) := by decide +kernel
theorem dL_law_1058 : decode cL_law 1058 = .ok (.iaload, 1) := by decide +kernel
theorem dL_law_1059 : decode cL_law 1059 = .ok (.aload_n 0, 1) := by decide +kernel
theorem dL_law_1060 : decode cL_law 1060 = .ok (.iload_n 3, 1) := by decide +kernel
theorem dL_law_1061 : decode cL_law 1061 = .ok (.iconst 3, 1) := by decide +kernel
theorem dL_law_1062 : decode cL_law 1062 = .ok (.iadd, 1) := by decide +kernel
theorem dL_law_1063 : decode cL_law 1063 = .ok (.iaload, 1) := by decide +kernel
theorem dL_law_1064 : decode cL_law 1064 = .ok (.invokevirtual 129, 3) := by decide +kernel
theorem dL_law_1067 : decode cL_law 1067 = .ok (.if_icmp .eq 168, 3) := by decide +kernel
theorem dL_law_1070 : decode cL_law 1070 = .ok (.iconst 0, 1) := by decide +kernel
theorem dL_law_1071 : decode cL_law 1071 = .ok (.ireturn, 1) := by decide +kernel
theorem dL_law_1072 : decode cL_law 1072 = .ok (.aload_n 1, 1) := by decide +kernel
theorem dL_law_1073 : decode cL_law 1073 = .ok (.aload_n 0, 1) := by decide +kernel
theorem dL_law_1074 : decode cL_law 1074 = .ok (.iload_n 3, 1) := by decide +kernel
theorem dL_law_1075 : decode cL_law 1075 = .ok (.iconst 1, 1) := by decide +kernel
theorem dL_law_1076 : decode cL_law 1076 = .ok (.iadd, 1) := by decide +kernel
theorem dL_law_1077 : decode cL_law 1077 = .ok (.iaload, 1) := by decide +kernel
theorem dL_law_1078 : decode cL_law 1078 = .ok (.aload_n 0, 1) := by decide +kernel
theorem dL_law_1079 : decode cL_law 1079 = .ok (.iload_n 3, 1) := by decide +kernel
theorem dL_law_1080 : decode cL_law 1080 = .ok (.iconst 2, 1) := by decide +kernel
theorem dL_law_1081 : decode cL_law 1081 = .ok (.iadd, 1) := by decide +kernel
theorem dL_law_1082 : decode cL_law 1082 = .ok (.iaload, 1) := by decide +kernel
theorem dL_law_1083 : decode cL_law 1083 = .ok (.invokevirtual 130, 3) := by decide +kernel
theorem dL_law_1086 : decode cL_law 1086 = .ok (.aload_n 2, 1) := by decide +kernel
theorem dL_law_1087 : decode cL_law 1087 = .ok (.aload_n 0, 1) := by decide +kernel
theorem dL_law_1088 : decode cL_law 1088 = .ok (.iload_n 3, 1) := by decide +kernel
theorem dL_law_1089 : decode cL_law 1089 = .ok (.iconst 1, 1) := by decide +kernel
theorem dL_law_1090 : decode cL_law 1090 = .ok (.iadd, 1) := by decide +kernel
theorem dL_law_1091 : decode cL_law 1091 = .ok (.iaload, 1) := by decide +kernel
theorem dL_law_1092 : decode cL_law 1092 = .ok (.aload_n 0, 1) := by decide +kernel
theorem dL_law_1093 : decode cL_law 1093 = .ok (.iload_n 3, 1) := by decide +kernel
theorem dL_law_1094 : decode cL_law 1094 = .ok (.iconst 2, 1) := by decide +kernel
theorem dL_law_1095 : decode cL_law 1095 = .ok (.iadd, 1) := by decide +kernel
theorem dL_law_1096 : decode cL_law 1096 = .ok (.iaload, 1) := by decide +kernel
theorem dL_law_1097 : decode cL_law 1097 = .ok (.invokevirtual 133, 3) := by decide +kernel
theorem dL_law_1100 : decode cL_law 1100 = .ok (.if_icmp .eq 135, 3) := by decide +kernel
theorem dL_law_1103 : decode cL_law 1103 = .ok (.iconst 0, 1) := by decide +kernel
theorem dL_law_1104 : decode cL_law 1104 = .ok (.ireturn, 1) := by decide +kernel
theorem dL_law_1105 : decode cL_law 1105 = .ok (.aload_n 1, 1) := by decide +kernel
theorem dL_law_1106 : decode cL_law 1106 = .ok (.aload_n 0, 1) := by decide +kernel
theorem dL_law_1107 : decode cL_law 1107 = .ok (.iload_n 3, 1) := by decide +kernel
theorem dL_law_1108 : decode cL_law 1108 = .ok (.iconst 1, 1) := by decide +kernel
theorem dL_law_1109 : decode cL_law 1109 = .ok (.iadd, 1) := by decide +kernel
theorem dL_law_1110 : decode cL_law 1110 = .ok (.iaload, 1) := by decide +kernel
theorem dL_law_1111 : decode cL_law 1111 = .ok (.invokevirtual 134, 3) := by decide +kernel
theorem dL_law_1114 : decode cL_law 1114 = .ok (.aload_n 2, 1) := by decide +kernel
theorem dL_law_1115 : decode cL_law 1115 = .ok (.aload_n 0, 1) := by decide +kernel
theorem dL_law_1116 : decode cL_law 1116 = .ok (.iload_n 3, 1) := by decide +kernel
theorem dL_law_1117 : decode cL_law 1117 = .ok (.iconst 1, 1) := by decide +kernel
theorem dL_law_1118 : decode cL_law 1118 = .ok (.iadd, 1) := by decide +kernel
theorem dL_law_1119 : decode cL_law 1119 = .ok (.iaload, 1) := by decide +kernel
theorem dL_law_1120 : decode cL_law 1120 = .ok (.invokevirtual 138, 3) := by decide +kernel
theorem dL_law_1123 : decode cL_law 1123 = .ok (.lcmp, 1) := by decide +kernel
theorem dL_law_1124 : decode cL_law 1124 = .ok (.ifCond .eq 111, 3) := by decide +kernel
theorem dL_law_1127 : decode cL_law 1127 = .ok (.iconst 0, 1) := by decide +kernel
theorem dL_law_1128 : decode cL_law 1128 = .ok (.ireturn, 1) := by decide +kernel
theorem dL_law_1129 : decode cL_law 1129 = .ok (.aload_n 1, 1) := by decide +kernel
theorem dL_law_1130 : decode cL_law 1130 = .ok (.aload_n 0, 1) := by decide +kernel
theorem dL_law_1131 : decode cL_law 1131 = .ok (.iload_n 3, 1) := by decide +kernel
theorem dL_law_1132 : decode cL_law 1132 = .ok (.iconst 1, 1) := by decide +kernel
theorem dL_law_1133 : decode cL_law 1133 = .ok (.iadd, 1) := by decide +kernel
theorem dL_law_1134 : decode cL_law 1134 = .ok (.iaload, 1) := by decide +kernel
theorem dL_law_1135 : decode cL_law 1135 = .ok (.invokevirtual 139, 3) := by decide +kernel
theorem dL_law_1138 : decode cL_law 1138 = .ok (.aload_n 2, 1) := by decide +kernel
theorem dL_law_1139 : decode cL_law 1139 = .ok (.aload_n 0, 1) := by decide +kernel
theorem dL_law_1140 : decode cL_law 1140 = .ok (.iload_n 3, 1) := by decide +kernel
theorem dL_law_1141 : decode cL_law 1141 = .ok (.iconst 1, 1) := by decide +kernel
theorem dL_law_1142 : decode cL_law 1142 = .ok (.iadd, 1) := by decide +kernel
theorem dL_law_1143 : decode cL_law 1143 = .ok (.iaload, 1) := by decide +kernel
theorem dL_law_1144 : decode cL_law 1144 = .ok (.invokevirtual 142, 3) := by decide +kernel
theorem dL_law_1147 : decode cL_law 1147 = .ok (.if_icmp .eq 88, 3) := by decide +kernel
theorem dL_law_1150 : decode cL_law 1150 = .ok (.iconst 0, 1) := by decide +kernel
theorem dL_law_1151 : decode cL_law 1151 = .ok (.ireturn, 1) := by decide +kernel
theorem dL_law_1152 : decode cL_law 1152 = .ok (.aload_n 1, 1) := by decide +kernel
theorem dL_law_1153 : decode cL_law 1153 = .ok (.aload_n 0, 1) := by decide +kernel
theorem dL_law_1154 : decode cL_law 1154 = .ok (.iload_n 3, 1) := by decide +kernel
theorem dL_law_1155 : decode cL_law 1155 = .ok (.iconst 1, 1) := by decide +kernel
theorem dL_law_1156 : decode cL_law 1156 = .ok (.iadd, 1) := by decide +kernel
theorem dL_law_1157 : decode cL_law 1157 = .ok (.iaload, 1) := by decide +kernel
theorem dL_law_1158 : decode cL_law 1158 = .ok (.invokevirtual 143, 3) := by decide +kernel
theorem dL_law_1161 : decode cL_law 1161 = .ok (.aload_n 2, 1) := by decide +kernel
theorem dL_law_1162 : decode cL_law 1162 = .ok (.aload_n 0, 1) := by decide +kernel
theorem dL_law_1163 : decode cL_law 1163 = .ok (.iload_n 3, 1) := by decide +kernel
theorem dL_law_1164 : decode cL_law 1164 = .ok (.iconst 1, 1) := by decide +kernel
theorem dL_law_1165 : decode cL_law 1165 = .ok (.iadd, 1) := by decide +kernel
theorem dL_law_1166 : decode cL_law 1166 = .ok (.iaload, 1) := by decide +kernel
theorem dL_law_1167 : decode cL_law 1167 = .ok (.invokevirtual 146, 3) := by decide +kernel
theorem dL_law_1170 : decode cL_law 1170 = .ok (.if_icmp .eq 65, 3) := by decide +kernel
theorem dL_law_1173 : decode cL_law 1173 = .ok (.iconst 0, 1) := by decide +kernel
theorem dL_law_1174 : decode cL_law 1174 = .ok (.ireturn, 1) := by decide +kernel
theorem dL_law_1175 : decode cL_law 1175 = .ok (.aload_n 1, 1) := by decide +kernel
theorem dL_law_1176 : decode cL_law 1176 = .ok (.aload_n 0, 1) := by decide +kernel
theorem dL_law_1177 : decode cL_law 1177 = .ok (.iload_n 3, 1) := by decide +kernel
theorem dL_law_1178 : decode cL_law 1178 = .ok (.iconst 1, 1) := by decide +kernel
theorem dL_law_1179 : decode cL_law 1179 = .ok (.iadd, 1) := by decide +kernel
theorem dL_law_1180 : decode cL_law 1180 = .ok (.iaload, 1) := by decide +kernel
theorem dL_law_1181 : decode cL_law 1181 = .ok (.invokevirtual 147, 3) := by decide +kernel
theorem dL_law_1184 : decode cL_law 1184 = .ok (.aload_n 2, 1) := by decide +kernel
theorem dL_law_1185 : decode cL_law 1185 = .ok (.aload_n 0, 1) := by decide +kernel
theorem dL_law_1186 : decode cL_law 1186 = .ok (.iload_n 3, 1) := by decide +kernel
theorem dL_law_1187 : decode cL_law 1187 = .ok (.iconst 1, 1) := by decide +kernel
theorem dL_law_1188 : decode cL_law 1188 = .ok (.iadd, 1) := by decide +kernel
theorem dL_law_1189 : decode cL_law 1189 = .ok (.iaload, 1) := by decide +kernel
theorem dL_law_1190 : decode cL_law 1190 = .ok (.invokevirtual 150, 3) := by decide +kernel
theorem dL_law_1193 : decode cL_law 1193 = .ok (.if_icmp .eq 42, 3) := by decide +kernel
theorem dL_law_1196 : decode cL_law 1196 = .ok (.iconst 0, 1) := by decide +kernel
theorem dL_law_1197 : decode cL_law 1197 = .ok (.ireturn, 1) := by decide +kernel
theorem dL_law_1198 : decode cL_law 1198 = .ok (.aload_n 1, 1) := by decide +kernel
theorem dL_law_1199 : decode cL_law 1199 = .ok (.aload_n 0, 1) := by decide +kernel
theorem dL_law_1200 : decode cL_law 1200 = .ok (.iload_n 3, 1) := by decide +kernel
theorem dL_law_1201 : decode cL_law 1201 = .ok (.iconst 1, 1) := by decide +kernel
theorem dL_law_1202 : decode cL_law 1202 = .ok (.iadd, 1) := by decide +kernel
theorem dL_law_1203 : decode cL_law 1203 = .ok (.iaload, 1) := by decide +kernel
theorem dL_law_1204 : decode cL_law 1204 = .ok (.invokevirtual 151, 3) := by decide +kernel
theorem dL_law_1207 : decode cL_law 1207 = .ok (.aload_n 2, 1) := by decide +kernel
theorem dL_law_1208 : decode cL_law 1208 = .ok (.aload_n 0, 1) := by decide +kernel
theorem dL_law_1209 : decode cL_law 1209 = .ok (.iload_n 3, 1) := by decide +kernel
theorem dL_law_1210 : decode cL_law 1210 = .ok (.iconst 1, 1) := by decide +kernel
theorem dL_law_1211 : decode cL_law 1211 = .ok (.iadd, 1) := by decide +kernel
theorem dL_law_1212 : decode cL_law 1212 = .ok (.iaload, 1) := by decide +kernel
theorem dL_law_1213 : decode cL_law 1213 = .ok (.invokevirtual 154, 3) := by decide +kernel
theorem dL_law_1216 : decode cL_law 1216 = .ok (.if_icmp .eq 19, 3) := by decide +kernel
theorem dL_law_1219 : decode cL_law 1219 = .ok (.iconst 0, 1) := by decide +kernel
theorem dL_law_1220 : decode cL_law 1220 = .ok (.ireturn, 1) := by decide +kernel
theorem dL_law_1221 : decode cL_law 1221 = .ok (.aload_n 1, 1) := by decide +kernel
theorem dL_law_1222 : decode cL_law 1222 = .ok (.invokevirtual 155, 3) := by decide +kernel
theorem dL_law_1225 : decode cL_law 1225 = .ok (.aload_n 2, 1) := by decide +kernel
theorem dL_law_1226 : decode cL_law 1226 = .ok (.invokevirtual 159, 3) := by decide +kernel
theorem dL_law_1229 : decode cL_law 1229 = .ok (.lcmp, 1) := by decide +kernel
theorem dL_law_1230 : decode cL_law 1230 = .ok (.ifCond .eq 5, 3) := by decide +kernel
theorem dL_law_1233 : decode cL_law 1233 = .ok (.iconst 0, 1) := by decide +kernel
theorem dL_law_1234 : decode cL_law 1234 = .ok (.ireturn, 1) := by decide +kernel
theorem dL_law_1235 : decode cL_law 1235 = .ok (.iinc 3 5, 3) := by decide +kernel
theorem dL_law_1238 : decode cL_law 1238 = .ok (.goto (-1220), 3) := by decide +kernel
theorem dL_law_1241 : decode cL_law 1241 = .ok (.iconst 1, 1) := by decide +kernel
theorem dL_law_1242 : decode cL_law 1242 = .ok (.ireturn, 1) := by decide +kernel
def fL_law_1235 (E : gx_Env) (k18 : Nat → Nat → Nat → Int32 → gx_H → Option (Int32 × gx_H)) (v0 : Nat) (v1 : Nat) (v2 : Nat) (v3 : Int32) (h : gx_H) : Option (Int32 × gx_H) :=
  k18 11 v1 v2 (v3 + (5 : Int32)) h
def bL_law_18 (E : gx_Env) (k18 : Nat → Nat → Nat → Int32 → gx_H → Option (Int32 × gx_H)) (v0 : Nat) (v1 : Nat) (v2 : Nat) (v3 : Int32) (h : gx_H) : Option (Int32 × gx_H) :=
  if ((Int32.ofNat (gx_sN E)) - (5 : Int32)) < v3 then
    gx_ret .boolean (1 : Int32) h
  else
    (gx_sc E v3).bind fun x8 =>
    if (x8 &&& (63 : Int32)) = (0 : Int32) then
      (gx_sc E (v3 + (1 : Int32))).bind fun x9 =>
      (gx_sc E (v3 + (2 : Int32))).bind fun x10 =>
      gx_bd (fX10_board v1 x9 x10 h) fun x12 h11 =>
      (gx_sc E (v3 + (1 : Int32))).bind fun x13 =>
      (gx_sc E (v3 + (2 : Int32))).bind fun x14 =>
      gx_bd (fX11_board v2 x13 x14 h11) fun x16 h15 =>
      if x12 = x16 then
        fL_law_1235 E k18 11 v1 v2 v3 h15
      else
        gx_ret .boolean (0 : Int32) h15
    else
    if (x8 &&& (63 : Int32)) = (1 : Int32) then
      (gx_sc E (v3 + (1 : Int32))).bind fun x17 =>
      gx_bd (fX10_die v1 x17 h) fun x19 h18 =>
      (gx_sc E (v3 + (1 : Int32))).bind fun x20 =>
      gx_bd (fX11_die v2 x20 h18) fun x22 h21 =>
      if x19 = x22 then
        fL_law_1235 E k18 11 v1 v2 v3 h21
      else
        gx_ret .boolean (0 : Int32) h21
    else
    if (x8 &&& (63 : Int32)) = (2 : Int32) then
      (gx_sc E (v3 + (1 : Int32))).bind fun x23 =>
      (gx_sc E (v3 + (2 : Int32))).bind fun x24 =>
      (gx_sc E (v3 + (3 : Int32))).bind fun x25 =>
      gx_bd (fX10_link v1 x23 x24 x25 h) fun x27 h26 =>
      (gx_sc E (v3 + (1 : Int32))).bind fun x28 =>
      (gx_sc E (v3 + (2 : Int32))).bind fun x29 =>
      (gx_sc E (v3 + (3 : Int32))).bind fun x30 =>
      gx_bd (fX11_link v2 x28 x29 x30 h26) fun x32 h31 =>
      if x27 = x32 then
        fL_law_1235 E k18 11 v1 v2 v3 h31
      else
        gx_ret .boolean (0 : Int32) h31
    else
    if (x8 &&& (63 : Int32)) = (3 : Int32) then
      (gx_sc E (v3 + (1 : Int32))).bind fun x33 =>
      gx_bd (fX10_player v1 x33 h) fun x35 h34 =>
      (gx_sc E (v3 + (1 : Int32))).bind fun x36 =>
      gx_bd (fX11_player v2 x36 h34) fun x38 h37 =>
      if x35 = x38 then
        fL_law_1235 E k18 11 v1 v2 v3 h37
      else
        gx_ret .boolean (0 : Int32) h37
    else
    if (x8 &&& (63 : Int32)) = (4 : Int32) then
      (gx_sc E (v3 + (1 : Int32))).bind fun x39 =>
      gx_bd (fX10_type v1 x39 h) fun x41 h40 =>
      (gx_sc E (v3 + (1 : Int32))).bind fun x42 =>
      gx_bd (fX11_type v2 x42 h40) fun x44 h43 =>
      if x41 = x44 then
        fL_law_1235 E k18 11 v1 v2 v3 h43
      else
        gx_ret .boolean (0 : Int32) h43
    else
    if (x8 &&& (63 : Int32)) = (5 : Int32) then
      gx_bd (fX10_clear v1 h) fun x46 h45 =>
      gx_bd (fX11_clear v2 h45) fun x48 h47 =>
      if x46 = x48 then
        fL_law_1235 E k18 11 v1 v2 v3 h47
      else
        gx_ret .boolean (0 : Int32) h47
    else
    if (x8 &&& (63 : Int32)) = (6 : Int32) then
      gx_bd (fX10_read v1 h) fun x50 h49 =>
      gx_bd (fX11_read v2 h49) fun x52 h51 =>
      if x50 = x52 then
        fL_law_1235 E k18 11 v1 v2 v3 h51
      else
        gx_ret .boolean (0 : Int32) h51
    else
    if (x8 &&& (63 : Int32)) = (7 : Int32) then
      (gx_sc E (v3 + (1 : Int32))).bind fun x53 =>
      (gx_sc E (v3 + (2 : Int32))).bind fun x54 =>
      gx_bd (fX10_rolls v1 x53 x54 h) fun x56 h55 =>
      (gx_sc E (v3 + (1 : Int32))).bind fun x57 =>
      (gx_sc E (v3 + (2 : Int32))).bind fun x58 =>
      gx_bd (fX11_rolls v2 x57 x58 h55) fun x60 h59 =>
      if x56 = x60 then
        fL_law_1235 E k18 11 v1 v2 v3 h59
      else
        gx_ret .boolean (0 : Int32) h59
    else
    if (x8 &&& (63 : Int32)) = (8 : Int32) then
      (gx_sc E (v3 + (1 : Int32))).bind fun x61 =>
      (gx_sc E (v3 + (2 : Int32))).bind fun x62 =>
      gx_bd (fX10_sets v1 x61 x62 h) fun x64 h63 =>
      (gx_sc E (v3 + (1 : Int32))).bind fun x65 =>
      (gx_sc E (v3 + (2 : Int32))).bind fun x66 =>
      gx_bd (fX11_sets v2 x65 x66 h63) fun x68 h67 =>
      if x64 = x68 then
        fL_law_1235 E k18 11 v1 v2 v3 h67
      else
        gx_ret .boolean (0 : Int32) h67
    else
    if (x8 &&& (63 : Int32)) = (9 : Int32) then
      gx_bd (fX10_undo v1 h) fun x70 h69 =>
      gx_bd (fX11_undo v2 h69) fun x72 h71 =>
      if x70 = x72 then
        fL_law_1235 E k18 11 v1 v2 v3 h71
      else
        gx_ret .boolean (0 : Int32) h71
    else
    if (x8 &&& (63 : Int32)) = (10 : Int32) then
      (gx_sc E (v3 + (1 : Int32))).bind fun x73 =>
      (gx_sc E (v3 + (2 : Int32))).bind fun x74 =>
      gx_bd (fX10_of v1 x73 x74 h) fun x76 h75 =>
      (gx_sc E (v3 + (1 : Int32))).bind fun x77 =>
      (gx_sc E (v3 + (2 : Int32))).bind fun x78 =>
      gx_bd (fX11_of v2 x77 x78 h75) fun x80 h79 =>
      if x76 = x80 then
        fL_law_1235 E k18 11 v1 v2 v3 h79
      else
        gx_ret .boolean (0 : Int32) h79
    else
    if (x8 &&& (63 : Int32)) = (11 : Int32) then
      (gx_sc E (v3 + (1 : Int32))).bind fun x81 =>
      (gx_sc E (v3 + (2 : Int32))).bind fun x82 =>
      gx_bd (fX10_about v1 x81 x82 h) fun x84 h83 =>
      (gx_sc E (v3 + (1 : Int32))).bind fun x85 =>
      (gx_sc E (v3 + (2 : Int32))).bind fun x86 =>
      gx_bd (fX11_about v2 x85 x86 h83) fun x88 h87 =>
      if x84 = x88 then
        fL_law_1235 E k18 11 v1 v2 v3 h87
      else
        gx_ret .boolean (0 : Int32) h87
    else
    if (x8 &&& (63 : Int32)) = (12 : Int32) then
      (gx_sc E (v3 + (1 : Int32))).bind fun x89 =>
      (gx_sc E (v3 + (2 : Int32))).bind fun x90 =>
      gx_bd (fX10_goes v1 x89 x90 h) fun x92 h91 =>
      (gx_sc E (v3 + (1 : Int32))).bind fun x93 =>
      (gx_sc E (v3 + (2 : Int32))).bind fun x94 =>
      gx_bd (fX11_goes v2 x93 x94 h91) fun x96 h95 =>
      if x92 = x96 then
        fL_law_1235 E k18 11 v1 v2 v3 h95
      else
        gx_ret .boolean (0 : Int32) h95
    else
    if (x8 &&& (63 : Int32)) = (13 : Int32) then
      (gx_sc E (v3 + (1 : Int32))).bind fun x97 =>
      (gx_sc E (v3 + (2 : Int32))).bind fun x98 =>
      gx_bd (fX10_few v1 x97 x98 h) fun x100 h99 =>
      (gx_sc E (v3 + (1 : Int32))).bind fun x101 =>
      (gx_sc E (v3 + (2 : Int32))).bind fun x102 =>
      gx_bd (fX11_few v2 x101 x102 h99) fun x104 h103 =>
      if x100 = x104 then
        fL_law_1235 E k18 11 v1 v2 v3 h103
      else
        gx_ret .boolean (0 : Int32) h103
    else
    if (x8 &&& (63 : Int32)) = (14 : Int32) then
      (gx_sc E (v3 + (1 : Int32))).bind fun x105 =>
      (gx_sc E (v3 + (2 : Int32))).bind fun x106 =>
      gx_bd (fX10_home v1 x105 x106 h) fun x108 h107 =>
      (gx_sc E (v3 + (1 : Int32))).bind fun x109 =>
      (gx_sc E (v3 + (2 : Int32))).bind fun x110 =>
      gx_bd (fX11_home v2 x109 x110 h107) fun x112 h111 =>
      if x108 = x112 then
        fL_law_1235 E k18 11 v1 v2 v3 h111
      else
        gx_ret .boolean (0 : Int32) h111
    else
    if (x8 &&& (63 : Int32)) = (15 : Int32) then
      (gx_sc E (v3 + (1 : Int32))).bind fun x113 =>
      (gx_sc E (v3 + (2 : Int32))).bind fun x114 =>
      gx_bd (fX10_mean v1 x113 x114 h) fun x116 h115 =>
      (gx_sc E (v3 + (1 : Int32))).bind fun x117 =>
      (gx_sc E (v3 + (2 : Int32))).bind fun x118 =>
      gx_bd (fX11_mean v2 x117 x118 h115) fun x120 h119 =>
      if x116 = x120 then
        fL_law_1235 E k18 11 v1 v2 v3 h119
      else
        gx_ret .boolean (0 : Int32) h119
    else
    if (x8 &&& (63 : Int32)) = (16 : Int32) then
      (gx_sc E (v3 + (1 : Int32))).bind fun x121 =>
      (gx_sc E (v3 + (2 : Int32))).bind fun x122 =>
      (gx_sc E (v3 + (3 : Int32))).bind fun x123 =>
      gx_bd (fX10_ahead v1 x121 x122 x123 h) fun x125 h124 =>
      (gx_sc E (v3 + (1 : Int32))).bind fun x126 =>
      (gx_sc E (v3 + (2 : Int32))).bind fun x127 =>
      (gx_sc E (v3 + (3 : Int32))).bind fun x128 =>
      gx_bd (fX11_ahead v2 x126 x127 x128 h124) fun x130 h129 =>
      if x125 = x130 then
        fL_law_1235 E k18 11 v1 v2 v3 h129
      else
        gx_ret .boolean (0 : Int32) h129
    else
    if (x8 &&& (63 : Int32)) = (17 : Int32) then
      (gx_sc E (v3 + (1 : Int32))).bind fun x131 =>
      (gx_sc E (v3 + (2 : Int32))).bind fun x132 =>
      (gx_sc E (v3 + (3 : Int32))).bind fun x133 =>
      gx_bd (fX10_rather v1 x131 x132 x133 h) fun x135 h134 =>
      (gx_sc E (v3 + (1 : Int32))).bind fun x136 =>
      (gx_sc E (v3 + (2 : Int32))).bind fun x137 =>
      (gx_sc E (v3 + (3 : Int32))).bind fun x138 =>
      gx_bd (fX11_rather v2 x136 x137 x138 h134) fun x140 h139 =>
      if x135 = x140 then
        fL_law_1235 E k18 11 v1 v2 v3 h139
      else
        gx_ret .boolean (0 : Int32) h139
    else
    if (x8 &&& (63 : Int32)) = (18 : Int32) then
      (gx_sc E (v3 + (1 : Int32))).bind fun x141 =>
      (gx_sc E (v3 + (2 : Int32))).bind fun x142 =>
      (gx_sc E (v3 + (3 : Int32))).bind fun x143 =>
      gx_bd (fX10_without v1 x141 x142 x143 h) fun x145 h144 =>
      (gx_sc E (v3 + (1 : Int32))).bind fun x146 =>
      (gx_sc E (v3 + (2 : Int32))).bind fun x147 =>
      (gx_sc E (v3 + (3 : Int32))).bind fun x148 =>
      gx_bd (fX11_without v2 x146 x147 x148 h144) fun x150 h149 =>
      if x145 = x150 then
        fL_law_1235 E k18 11 v1 v2 v3 h149
      else
        gx_ret .boolean (0 : Int32) h149
    else
    if (x8 &&& (63 : Int32)) = (19 : Int32) then
      (gx_sc E (v3 + (1 : Int32))).bind fun x151 =>
      (gx_sc E (v3 + (2 : Int32))).bind fun x152 =>
      (gx_sc E (v3 + (3 : Int32))).bind fun x153 =>
      gx_bd (fX10_span v1 x151 x152 x153 h) fun x155 h154 =>
      (gx_sc E (v3 + (1 : Int32))).bind fun x156 =>
      (gx_sc E (v3 + (2 : Int32))).bind fun x157 =>
      (gx_sc E (v3 + (3 : Int32))).bind fun x158 =>
      gx_bd (fX11_span v2 x156 x157 x158 h154) fun x160 h159 =>
      if x155 = x160 then
        fL_law_1235 E k18 11 v1 v2 v3 h159
      else
        gx_ret .boolean (0 : Int32) h159
    else
    if (x8 &&& (63 : Int32)) = (20 : Int32) then
      (gx_sc E (v3 + (1 : Int32))).bind fun x161 =>
      (gx_sc E (v3 + (2 : Int32))).bind fun x162 =>
      (gx_sc E (v3 + (3 : Int32))).bind fun x163 =>
      (gx_sc E (v3 + (4 : Int32))).bind fun x164 =>
      gx_bd (fX10_note v1 x161 x162 x163 x164 h) fun x166 h165 =>
      (gx_sc E (v3 + (1 : Int32))).bind fun x167 =>
      (gx_sc E (v3 + (2 : Int32))).bind fun x168 =>
      (gx_sc E (v3 + (3 : Int32))).bind fun x169 =>
      (gx_sc E (v3 + (4 : Int32))).bind fun x170 =>
      gx_bd (fX11_note v2 x167 x168 x169 x170 h165) fun x172 h171 =>
      if x166 = x172 then
        fL_law_1235 E k18 11 v1 v2 v3 h171
      else
        gx_ret .boolean (0 : Int32) h171
    else
    if (x8 &&& (63 : Int32)) = (21 : Int32) then
      (gx_sc E (v3 + (1 : Int32))).bind fun x173 =>
      (gx_sc E (v3 + (2 : Int32))).bind fun x174 =>
      (gx_sc E (v3 + (3 : Int32))).bind fun x175 =>
      (gx_sc E (v3 + (4 : Int32))).bind fun x176 =>
      gx_bd (fX10_mark v1 x173 x174 x175 x176 h) fun x178 h177 =>
      (gx_sc E (v3 + (1 : Int32))).bind fun x179 =>
      (gx_sc E (v3 + (2 : Int32))).bind fun x180 =>
      (gx_sc E (v3 + (3 : Int32))).bind fun x181 =>
      (gx_sc E (v3 + (4 : Int32))).bind fun x182 =>
      gx_bd (fX11_mark v2 x179 x180 x181 x182 h177) fun x184 h183 =>
      if x178 = x184 then
        fL_law_1235 E k18 11 v1 v2 v3 h183
      else
        gx_ret .boolean (0 : Int32) h183
    else
    if (x8 &&& (63 : Int32)) = (22 : Int32) then
      (gx_sc E (v3 + (1 : Int32))).bind fun x185 =>
      gx_bd (fX10_forget v1 x185 h) fun x187 h186 =>
      (gx_sc E (v3 + (1 : Int32))).bind fun x188 =>
      gx_bd (fX11_forget v2 x188 h186) fun x190 h189 =>
      if x187 = x190 then
        fL_law_1235 E k18 11 v1 v2 v3 h189
      else
        gx_ret .boolean (0 : Int32) h189
    else
    if (x8 &&& (63 : Int32)) = (23 : Int32) then
      (gx_sc E (v3 + (1 : Int32))).bind fun x191 =>
      gx_bd (fX10_is v1 x191 h) fun x193 h192 =>
      (gx_sc E (v3 + (1 : Int32))).bind fun x194 =>
      gx_bd (fX11_is v2 x194 h192) fun x196 h195 =>
      if x193 = x196 then
        fL_law_1235 E k18 11 v1 v2 v3 h195
      else
        gx_ret .boolean (0 : Int32) h195
    else
    if (x8 &&& (63 : Int32)) = (24 : Int32) then
      (gx_sc E (v3 + (1 : Int32))).bind fun x197 =>
      gx_bd (fX10_look v1 x197 h) fun x199 h198 =>
      (gx_sc E (v3 + (1 : Int32))).bind fun x200 =>
      gx_bd (fX11_look v2 x200 h198) fun x202 h201 =>
      if x199 = x202 then
        fL_law_1235 E k18 11 v1 v2 v3 h201
      else
        gx_ret .boolean (0 : Int32) h201
    else
    if (x8 &&& (63 : Int32)) = (25 : Int32) then
      (gx_sc E (v3 + (1 : Int32))).bind fun x203 =>
      gx_bd (fX10_kinds v1 x203 h) fun x205 h204 =>
      (gx_sc E (v3 + (1 : Int32))).bind fun x206 =>
      gx_bd (fX11_kinds v2 x206 h204) fun x208 h207 =>
      if x205 = x208 then
        fL_law_1235 E k18 11 v1 v2 v3 h207
      else
        gx_ret .boolean (0 : Int32) h207
    else
    if (x8 &&& (63 : Int32)) = (26 : Int32) then
      (gx_sc E (v3 + (1 : Int32))).bind fun x209 =>
      gx_bd (fX10_ask v1 x209 h) fun x211 h210 =>
      (gx_sc E (v3 + (1 : Int32))).bind fun x212 =>
      gx_bd (fX11_ask v2 x212 h210) fun x214 h213 =>
      if x211 = x214 then
        fL_law_1235 E k18 11 v1 v2 v3 h213
      else
        gx_ret .boolean (0 : Int32) h213
    else
    if (x8 &&& (63 : Int32)) = (27 : Int32) then
      (gx_sc E (v3 + (1 : Int32))).bind fun x215 =>
      (gx_sc E (v3 + (2 : Int32))).bind fun x216 =>
      (gx_sc E (v3 + (3 : Int32))).bind fun x217 =>
      gx_bd (fX10_choice v1 x215 x216 x217 h) fun x219 h218 =>
      (gx_sc E (v3 + (1 : Int32))).bind fun x220 =>
      (gx_sc E (v3 + (2 : Int32))).bind fun x221 =>
      (gx_sc E (v3 + (3 : Int32))).bind fun x222 =>
      gx_bd (fX11_choice v2 x220 x221 x222 h218) fun x224 h223 =>
      if x219 = x224 then
        fL_law_1235 E k18 11 v1 v2 v3 h223
      else
        gx_ret .boolean (0 : Int32) h223
    else
    if (x8 &&& (63 : Int32)) = (28 : Int32) then
      (gx_sc E (v3 + (1 : Int32))).bind fun x225 =>
      (gx_sc E (v3 + (2 : Int32))).bind fun x226 =>
      gx_bd (fX10_evenings v1 x225 x226 h) fun x228 h227 =>
      (gx_sc E (v3 + (1 : Int32))).bind fun x229 =>
      (gx_sc E (v3 + (2 : Int32))).bind fun x230 =>
      gx_bd (fX11_evenings v2 x229 x230 h227) fun x232 h231 =>
      if x228 = x232 then
        fL_law_1235 E k18 11 v1 v2 v3 h231
      else
        gx_ret .boolean (0 : Int32) h231
    else
    if (x8 &&& (63 : Int32)) = (29 : Int32) then
      (gx_sc E (v3 + (1 : Int32))).bind fun x233 =>
      gx_bd (fX10_part v1 x233 h) fun y235 h234 =>
      (gx_sc E (v3 + (1 : Int32))).bind fun x236 =>
      gx_bd (fX11_part v2 x236 h234) fun y238 h237 =>
      if (lg_cmp y235 y238) = 0 then
        fL_law_1235 E k18 11 v1 v2 v3 h237
      else
        gx_ret .boolean (0 : Int32) h237
    else
    if (x8 &&& (63 : Int32)) = (30 : Int32) then
      (gx_sc E (v3 + (1 : Int32))).bind fun x239 =>
      gx_bd (fX10_image v1 x239 h) fun x241 h240 =>
      (gx_sc E (v3 + (1 : Int32))).bind fun x242 =>
      gx_bd (fX11_image v2 x242 h240) fun x244 h243 =>
      if x241 = x244 then
        fL_law_1235 E k18 11 v1 v2 v3 h243
      else
        gx_ret .boolean (0 : Int32) h243
    else
    if (x8 &&& (63 : Int32)) = (31 : Int32) then
      (gx_sc E (v3 + (1 : Int32))).bind fun x245 =>
      gx_bd (fX10_from v1 x245 h) fun x247 h246 =>
      (gx_sc E (v3 + (1 : Int32))).bind fun x248 =>
      gx_bd (fX11_from v2 x248 h246) fun x250 h249 =>
      if x247 = x250 then
        fL_law_1235 E k18 11 v1 v2 v3 h249
      else
        gx_ret .boolean (0 : Int32) h249
    else
    if (x8 &&& (63 : Int32)) = (32 : Int32) then
      (gx_sc E (v3 + (1 : Int32))).bind fun x251 =>
      gx_bd (fX10_status v1 x251 h) fun x253 h252 =>
      (gx_sc E (v3 + (1 : Int32))).bind fun x254 =>
      gx_bd (fX11_status v2 x254 h252) fun x256 h255 =>
      if x253 = x256 then
        fL_law_1235 E k18 11 v1 v2 v3 h255
      else
        gx_ret .boolean (0 : Int32) h255
    else
    if (x8 &&& (63 : Int32)) = (33 : Int32) then
      (gx_sc E (v3 + (1 : Int32))).bind fun x257 =>
      gx_bd (fX10_count v1 x257 h) fun x259 h258 =>
      (gx_sc E (v3 + (1 : Int32))).bind fun x260 =>
      gx_bd (fX11_count v2 x260 h258) fun x262 h261 =>
      if x259 = x262 then
        fL_law_1235 E k18 11 v1 v2 v3 h261
      else
        gx_ret .boolean (0 : Int32) h261
    else
    if (x8 &&& (63 : Int32)) = (34 : Int32) then
      gx_bd (fX10_digest v1 h) fun y264 h263 =>
      gx_bd (fX11_digest v2 h263) fun y266 h265 =>
      if (lg_cmp y264 y266) = 0 then
        fL_law_1235 E k18 11 v1 v2 v3 h265
      else
        gx_ret .boolean (0 : Int32) h265
    else
    fL_law_1235 E k18 11 v1 v2 v3 h
def fL_law_18 (E : gx_Env) : Nat → Nat → Nat → Nat → Int32 → gx_H → Option (Int32 × gx_H)
  | 0 => fun _ _ _ _ _ => none
  | n + 1 => bL_law_18 E (fL_law_18 E n)
def fL_law (E : gx_Env) (h : gx_H) : Option (Int32 × gx_H) :=
  gx_let (gx_new (.inr (8, [.null, .null, .null, .null, .null, .null, .long 0, .long 0, .int 0, .int 0, .int 0])) h) fun h1 =>
  gx_bd (fX10_init h.1 h1) fun u3 h2 =>
  gx_let (gx_new (.inr (9, [.null, .null, .null, .int 0, .long 0, .long 0, .null, .int 0, .int 0, .int 0, .null, .null, .null, .long 0])) h2) fun h4 =>
  gx_bd (fX11_init h2.1 h4) fun u6 h5 =>
  fL_law_18 E gx_N 11 h.1 h2.1 (0 : Int32) h5
set_option maxRecDepth 100000 in
set_option maxHeartbeats 4000000 in
theorem gL_law_1235 {E : gx_Env} {d : Nat} (k18 : Nat → Nat → Nat → Int32 → gx_H → Option (Int32 × gx_H)) (hk18 : ∀ (v0 : Nat) (v1 : Nat) (v2 : Nat) (v3 : Int32) (h : gx_H), gx_G E RL cL_law 4 (some .boolean) false (d + 15) 0 0 18 [some (.retAddr 11), some (.ref v1), some (.ref v2), some (.int v3)] [] h (fun x : Int32 => some (.int x)) (k18 v0 v1 v2 v3 h))  : ∀ (v0 : Nat) (v1 : Nat) (v2 : Nat) (v3 : Int32) (h : gx_H), gx_G E RL cL_law 4 (some .boolean) false (d + 15) 0 0 1235 [some (.retAddr 11), some (.ref v1), some (.ref v2), some (.int v3)] [] h (fun x : Int32 => some (.int x)) (fL_law_1235 E k18 v0 v1 v2 v3 h) := by
  intro v0 v1 v2 v3 h
  unfold fL_law_1235
  refine gx_iinc (5 : Int32) [some (.retAddr 11), some (.ref v1), some (.ref v2), some (.int (v3 + (5 : Int32)))] dL_law_1235 rfl (by decide) (by decide) rfl ?_
  refine gx_goto 18 dL_law_1238 (by decide) ?_
  exact gx_sub (hk18 11 v1 v2 (v3 + (5 : Int32)) h) (And.intro rfl (And.intro rfl (And.intro rfl (And.intro rfl True.intro))))
set_option maxRecDepth 100000 in
set_option maxHeartbeats 4000000 in
theorem gbL_law_18 {E : gx_Env} {d : Nat}  (k18 : Nat → Nat → Nat → Int32 → gx_H → Option (Int32 × gx_H)) (hk18 : ∀ (v0 : Nat) (v1 : Nat) (v2 : Nat) (v3 : Int32) (h : gx_H), gx_G E RL cL_law 4 (some .boolean) false (d + 15) 0 0 18 [some (.retAddr 11), some (.ref v1), some (.ref v2), some (.int v3)] [] h (fun x : Int32 => some (.int x)) (k18 v0 v1 v2 v3 h))  : ∀ (v0 : Nat) (v1 : Nat) (v2 : Nat) (v3 : Int32) (h : gx_H), gx_G E RL cL_law 4 (some .boolean) false (d + 15) 0 0 18 [some (.retAddr 11), some (.ref v1), some (.ref v2), some (.int v3)] [] h (fun x : Int32 => some (.int x)) (bL_law_18 E k18 v0 v1 v2 v3 h) := by
  intro v0 v1 v2 v3 h
  unfold bL_law_18
  refine gx_iload_n 3 dL_law_18 rfl rfl ?_
  refine gx_kload_n 0 dL_law_19 rfl rfl ?_
  refine gx_slen dL_law_20 ?_
  refine gx_iconst (5 : Int32) dL_law_21 (by decide) ?_
  refine gx_isub dL_law_22 ?_
  refine gx_icmp_gt 1241 dL_law_23 (by decide) (fun _ => ?_) (fun _ => ?_)
  · refine gx_iconst (1 : Int32) dL_law_1241 (by decide) ?_
    exact gx_zret dL_law_1242 rfl
  · refine gx_kload_n 0 dL_law_26 rfl rfl ?_
    refine gx_iload_n 3 dL_law_27 rfl rfl ?_
    refine gx_sld dL_law_28 (fun x8 => ?_)
    refine gx_bipush (63 : Int32) dL_law_29 (by decide) ?_
    refine gx_iand dL_law_31 ?_
    refine gx_ite (fun hx => ?_) (fun hx0 => ?_)
    · refine gx_tabIn (off := 156) 188 dL_law_32 (by rw [hx]; decide) (by rw [hx]; decide) (by rw [hx]; decide) (by decide) ?_
      refine gx_aload_n 1 dL_law_188 rfl rfl ?_
      refine gx_kload_n 0 dL_law_189 rfl rfl ?_
      refine gx_iload_n 3 dL_law_190 rfl rfl ?_
      refine gx_iconst (1 : Int32) dL_law_191 (by decide) ?_
      refine gx_iadd dL_law_192 ?_
      refine gx_sld dL_law_193 (fun x9 => ?_)
      refine gx_kload_n 0 dL_law_194 rfl rfl ?_
      refine gx_iload_n 3 dL_law_195 rfl rfl ?_
      refine gx_iconst (2 : Int32) dL_law_196 (by decide) ?_
      refine gx_iadd dL_law_197 ?_
      refine gx_sld dL_law_198 (fun x10 => ?_)
      refine gx_callV (ci := 8) (bc := 0) (bs := 0) (mc := 0) (ms := 0) (em' := (fun x : Int32 => some (.int x))) [.int x9, .int x10] kc_RL_13 rfl dL_law_199 rfl rfl (gx_w8 rfl) (fun x q => (gx_isO_of (by unfold fX10_board at q; exact q)).2) (fun _ _ q => okX10_board (d + 12) q) (fun x12 h11 => ?_)
      refine gx_aload_n 2 dL_law_202 rfl rfl ?_
      refine gx_kload_n 0 dL_law_203 rfl rfl ?_
      refine gx_iload_n 3 dL_law_204 rfl rfl ?_
      refine gx_iconst (1 : Int32) dL_law_205 (by decide) ?_
      refine gx_iadd dL_law_206 ?_
      refine gx_sld dL_law_207 (fun x13 => ?_)
      refine gx_kload_n 0 dL_law_208 rfl rfl ?_
      refine gx_iload_n 3 dL_law_209 rfl rfl ?_
      refine gx_iconst (2 : Int32) dL_law_210 (by decide) ?_
      refine gx_iadd dL_law_211 ?_
      refine gx_sld dL_law_212 (fun x14 => ?_)
      refine gx_callV (ci := 9) (bc := 0) (bs := 0) (mc := 0) (ms := 0) (em' := (fun x : Int32 => some (.int x))) [.int x13, .int x14] kc_RL_17 rfl dL_law_213 rfl rfl (gx_w8 rfl) (fun x q => (gx_isO_of (by unfold fX11_board at q; exact q)).2) (fun _ _ q => okX11_board (d + 13) q) (fun x16 h15 => ?_)
      refine gx_icmp_eq 1235 dL_law_216 (by decide) (fun _ => ?_) (fun _ => ?_)
      · exact gx_sub (gL_law_1235 k18 hk18 11 v1 v2 v3 h15) (And.intro rfl (And.intro rfl (And.intro rfl (And.intro rfl True.intro))))
      · refine gx_iconst (0 : Int32) dL_law_219 (by decide) ?_
        exact gx_zret dL_law_220 rfl
    refine gx_ite (fun hx => ?_) (fun hx1 => ?_)
    · refine gx_tabIn (off := 189) 221 dL_law_32 (by rw [hx]; decide) (by rw [hx]; decide) (by rw [hx]; decide) (by decide) ?_
      refine gx_aload_n 1 dL_law_221 rfl rfl ?_
      refine gx_kload_n 0 dL_law_222 rfl rfl ?_
      refine gx_iload_n 3 dL_law_223 rfl rfl ?_
      refine gx_iconst (1 : Int32) dL_law_224 (by decide) ?_
      refine gx_iadd dL_law_225 ?_
      refine gx_sld dL_law_226 (fun x17 => ?_)
      refine gx_callV (ci := 8) (bc := 0) (bs := 0) (mc := 0) (ms := 0) (em' := (fun x : Int32 => some (.int x))) [.int x17] kc_RL_18 rfl dL_law_227 rfl rfl (gx_w8 rfl) (fun x q => (gx_isO_of (by unfold fX10_die at q; exact q)).2) (fun _ _ q => okX10_die (d + 13) q) (fun x19 h18 => ?_)
      refine gx_aload_n 2 dL_law_230 rfl rfl ?_
      refine gx_kload_n 0 dL_law_231 rfl rfl ?_
      refine gx_iload_n 3 dL_law_232 rfl rfl ?_
      refine gx_iconst (1 : Int32) dL_law_233 (by decide) ?_
      refine gx_iadd dL_law_234 ?_
      refine gx_sld dL_law_235 (fun x20 => ?_)
      refine gx_callV (ci := 9) (bc := 0) (bs := 0) (mc := 0) (ms := 0) (em' := (fun x : Int32 => some (.int x))) [.int x20] kc_RL_22 rfl dL_law_236 rfl rfl (gx_w8 rfl) (fun x q => (gx_isO_of (by unfold fX11_die at q; exact q)).2) (fun _ _ q => okX11_die (d + 13) q) (fun x22 h21 => ?_)
      refine gx_icmp_eq 1235 dL_law_239 (by decide) (fun _ => ?_) (fun _ => ?_)
      · exact gx_sub (gL_law_1235 k18 hk18 11 v1 v2 v3 h21) (And.intro rfl (And.intro rfl (And.intro rfl (And.intro rfl True.intro))))
      · refine gx_iconst (0 : Int32) dL_law_242 (by decide) ?_
        exact gx_zret dL_law_243 rfl
    refine gx_ite (fun hx => ?_) (fun hx2 => ?_)
    · refine gx_tabIn (off := 212) 244 dL_law_32 (by rw [hx]; decide) (by rw [hx]; decide) (by rw [hx]; decide) (by decide) ?_
      refine gx_aload_n 1 dL_law_244 rfl rfl ?_
      refine gx_kload_n 0 dL_law_245 rfl rfl ?_
      refine gx_iload_n 3 dL_law_246 rfl rfl ?_
      refine gx_iconst (1 : Int32) dL_law_247 (by decide) ?_
      refine gx_iadd dL_law_248 ?_
      refine gx_sld dL_law_249 (fun x23 => ?_)
      refine gx_kload_n 0 dL_law_250 rfl rfl ?_
      refine gx_iload_n 3 dL_law_251 rfl rfl ?_
      refine gx_iconst (2 : Int32) dL_law_252 (by decide) ?_
      refine gx_iadd dL_law_253 ?_
      refine gx_sld dL_law_254 (fun x24 => ?_)
      refine gx_kload_n 0 dL_law_255 rfl rfl ?_
      refine gx_iload_n 3 dL_law_256 rfl rfl ?_
      refine gx_iconst (3 : Int32) dL_law_257 (by decide) ?_
      refine gx_iadd dL_law_258 ?_
      refine gx_sld dL_law_259 (fun x25 => ?_)
      refine gx_callV (ci := 8) (bc := 0) (bs := 0) (mc := 0) (ms := 0) (em' := (fun x : Int32 => some (.int x))) [.int x23, .int x24, .int x25] kc_RL_23 rfl dL_law_260 rfl rfl (gx_w8 rfl) (fun x q => (gx_isO_of (by unfold fX10_link at q; exact q)).2) (fun _ _ q => okX10_link (d + 13) q) (fun x27 h26 => ?_)
      refine gx_aload_n 2 dL_law_263 rfl rfl ?_
      refine gx_kload_n 0 dL_law_264 rfl rfl ?_
      refine gx_iload_n 3 dL_law_265 rfl rfl ?_
      refine gx_iconst (1 : Int32) dL_law_266 (by decide) ?_
      refine gx_iadd dL_law_267 ?_
      refine gx_sld dL_law_268 (fun x28 => ?_)
      refine gx_kload_n 0 dL_law_269 rfl rfl ?_
      refine gx_iload_n 3 dL_law_270 rfl rfl ?_
      refine gx_iconst (2 : Int32) dL_law_271 (by decide) ?_
      refine gx_iadd dL_law_272 ?_
      refine gx_sld dL_law_273 (fun x29 => ?_)
      refine gx_kload_n 0 dL_law_274 rfl rfl ?_
      refine gx_iload_n 3 dL_law_275 rfl rfl ?_
      refine gx_iconst (3 : Int32) dL_law_276 (by decide) ?_
      refine gx_iadd dL_law_277 ?_
      refine gx_sld dL_law_278 (fun x30 => ?_)
      refine gx_callV (ci := 9) (bc := 0) (bs := 0) (mc := 0) (ms := 0) (em' := (fun x : Int32 => some (.int x))) [.int x28, .int x29, .int x30] kc_RL_27 rfl dL_law_279 rfl rfl (gx_w8 rfl) (fun x q => (gx_isO_of (by unfold fX11_link at q; exact q)).2) (fun _ _ q => okX11_link (d + 12) q) (fun x32 h31 => ?_)
      refine gx_icmp_eq 1235 dL_law_282 (by decide) (fun _ => ?_) (fun _ => ?_)
      · exact gx_sub (gL_law_1235 k18 hk18 11 v1 v2 v3 h31) (And.intro rfl (And.intro rfl (And.intro rfl (And.intro rfl True.intro))))
      · refine gx_iconst (0 : Int32) dL_law_285 (by decide) ?_
        exact gx_zret dL_law_286 rfl
    refine gx_ite (fun hx => ?_) (fun hx3 => ?_)
    · refine gx_tabIn (off := 255) 287 dL_law_32 (by rw [hx]; decide) (by rw [hx]; decide) (by rw [hx]; decide) (by decide) ?_
      refine gx_aload_n 1 dL_law_287 rfl rfl ?_
      refine gx_kload_n 0 dL_law_288 rfl rfl ?_
      refine gx_iload_n 3 dL_law_289 rfl rfl ?_
      refine gx_iconst (1 : Int32) dL_law_290 (by decide) ?_
      refine gx_iadd dL_law_291 ?_
      refine gx_sld dL_law_292 (fun x33 => ?_)
      refine gx_callV (ci := 8) (bc := 0) (bs := 0) (mc := 0) (ms := 0) (em' := (fun x : Int32 => some (.int x))) [.int x33] kc_RL_28 rfl dL_law_293 rfl rfl (gx_w8 rfl) (fun x q => (gx_isO_of (by unfold fX10_player at q; exact q)).2) (fun _ _ q => okX10_player (d + 13) q) (fun x35 h34 => ?_)
      refine gx_aload_n 2 dL_law_296 rfl rfl ?_
      refine gx_kload_n 0 dL_law_297 rfl rfl ?_
      refine gx_iload_n 3 dL_law_298 rfl rfl ?_
      refine gx_iconst (1 : Int32) dL_law_299 (by decide) ?_
      refine gx_iadd dL_law_300 ?_
      refine gx_sld dL_law_301 (fun x36 => ?_)
      refine gx_callV (ci := 9) (bc := 0) (bs := 0) (mc := 0) (ms := 0) (em' := (fun x : Int32 => some (.int x))) [.int x36] kc_RL_31 rfl dL_law_302 rfl rfl (gx_w8 rfl) (fun x q => (gx_isO_of (by unfold fX11_player at q; exact q)).2) (fun _ _ q => okX11_player (d + 13) q) (fun x38 h37 => ?_)
      refine gx_icmp_eq 1235 dL_law_305 (by decide) (fun _ => ?_) (fun _ => ?_)
      · exact gx_sub (gL_law_1235 k18 hk18 11 v1 v2 v3 h37) (And.intro rfl (And.intro rfl (And.intro rfl (And.intro rfl True.intro))))
      · refine gx_iconst (0 : Int32) dL_law_308 (by decide) ?_
        exact gx_zret dL_law_309 rfl
    refine gx_ite (fun hx => ?_) (fun hx4 => ?_)
    · refine gx_tabIn (off := 278) 310 dL_law_32 (by rw [hx]; decide) (by rw [hx]; decide) (by rw [hx]; decide) (by decide) ?_
      refine gx_aload_n 1 dL_law_310 rfl rfl ?_
      refine gx_kload_n 0 dL_law_311 rfl rfl ?_
      refine gx_iload_n 3 dL_law_312 rfl rfl ?_
      refine gx_iconst (1 : Int32) dL_law_313 (by decide) ?_
      refine gx_iadd dL_law_314 ?_
      refine gx_sld dL_law_315 (fun x39 => ?_)
      refine gx_callV (ci := 8) (bc := 0) (bs := 0) (mc := 0) (ms := 0) (em' := (fun x : Int32 => some (.int x))) [.int x39] kc_RL_32 rfl dL_law_316 rfl rfl (gx_w8 rfl) (fun x q => (gx_isO_of (by unfold fX10_type at q; exact q)).2) (fun _ _ q => okX10_type (d + 13) q) (fun x41 h40 => ?_)
      refine gx_aload_n 2 dL_law_319 rfl rfl ?_
      refine gx_kload_n 0 dL_law_320 rfl rfl ?_
      refine gx_iload_n 3 dL_law_321 rfl rfl ?_
      refine gx_iconst (1 : Int32) dL_law_322 (by decide) ?_
      refine gx_iadd dL_law_323 ?_
      refine gx_sld dL_law_324 (fun x42 => ?_)
      refine gx_callV (ci := 9) (bc := 0) (bs := 0) (mc := 0) (ms := 0) (em' := (fun x : Int32 => some (.int x))) [.int x42] kc_RL_35 rfl dL_law_325 rfl rfl (gx_w8 rfl) (fun x q => (gx_isO_of (by unfold fX11_type at q; exact q)).2) (fun _ _ q => okX11_type (d + 13) q) (fun x44 h43 => ?_)
      refine gx_icmp_eq 1235 dL_law_328 (by decide) (fun _ => ?_) (fun _ => ?_)
      · exact gx_sub (gL_law_1235 k18 hk18 11 v1 v2 v3 h43) (And.intro rfl (And.intro rfl (And.intro rfl (And.intro rfl True.intro))))
      · refine gx_iconst (0 : Int32) dL_law_331 (by decide) ?_
        exact gx_zret dL_law_332 rfl
    refine gx_ite (fun hx => ?_) (fun hx5 => ?_)
    · refine gx_tabIn (off := 301) 333 dL_law_32 (by rw [hx]; decide) (by rw [hx]; decide) (by rw [hx]; decide) (by decide) ?_
      refine gx_aload_n 1 dL_law_333 rfl rfl ?_
      refine gx_callV (ci := 8) (bc := 0) (bs := 0) (mc := 0) (ms := 0) (em' := (fun x : Int32 => some (.int x))) [] kc_RL_36 rfl dL_law_334 rfl rfl (gx_w8 rfl) (fun x q => (gx_isO_of (by unfold fX10_clear at q; exact q)).2) (fun _ _ q => okX10_clear (d + 13) q) (fun x46 h45 => ?_)
      refine gx_aload_n 2 dL_law_337 rfl rfl ?_
      refine gx_callV (ci := 9) (bc := 0) (bs := 0) (mc := 0) (ms := 0) (em' := (fun x : Int32 => some (.int x))) [] kc_RL_40 rfl dL_law_338 rfl rfl (gx_w8 rfl) (fun x q => (gx_isO_of (by unfold fX11_clear at q; exact q)).2) (fun _ _ q => okX11_clear (d + 14) q) (fun x48 h47 => ?_)
      refine gx_icmp_eq 1235 dL_law_341 (by decide) (fun _ => ?_) (fun _ => ?_)
      · exact gx_sub (gL_law_1235 k18 hk18 11 v1 v2 v3 h47) (And.intro rfl (And.intro rfl (And.intro rfl (And.intro rfl True.intro))))
      · refine gx_iconst (0 : Int32) dL_law_344 (by decide) ?_
        exact gx_zret dL_law_345 rfl
    refine gx_ite (fun hx => ?_) (fun hx6 => ?_)
    · refine gx_tabIn (off := 314) 346 dL_law_32 (by rw [hx]; decide) (by rw [hx]; decide) (by rw [hx]; decide) (by decide) ?_
      refine gx_aload_n 1 dL_law_346 rfl rfl ?_
      refine gx_callV (ci := 8) (bc := 0) (bs := 0) (mc := 0) (ms := 0) (em' := (fun x : Int32 => some (.int x))) [] kc_RL_41 rfl dL_law_347 rfl rfl (gx_w8 rfl) (fun x q => (gx_isO_of (by unfold fX10_read at q; exact q)).2) (fun _ _ q => okX10_read (d + 7) q) (fun x50 h49 => ?_)
      refine gx_aload_n 2 dL_law_350 rfl rfl ?_
      refine gx_callV (ci := 9) (bc := 0) (bs := 0) (mc := 0) (ms := 0) (em' := (fun x : Int32 => some (.int x))) [] kc_RL_44 rfl dL_law_351 rfl rfl (gx_w8 rfl) (fun x q => (gx_isO_of (by unfold fX11_read at q; exact q)).2) (fun _ _ q => okX11_read (d + 8) q) (fun x52 h51 => ?_)
      refine gx_icmp_eq 1235 dL_law_354 (by decide) (fun _ => ?_) (fun _ => ?_)
      · exact gx_sub (gL_law_1235 k18 hk18 11 v1 v2 v3 h51) (And.intro rfl (And.intro rfl (And.intro rfl (And.intro rfl True.intro))))
      · refine gx_iconst (0 : Int32) dL_law_357 (by decide) ?_
        exact gx_zret dL_law_358 rfl
    refine gx_ite (fun hx => ?_) (fun hx7 => ?_)
    · refine gx_tabIn (off := 327) 359 dL_law_32 (by rw [hx]; decide) (by rw [hx]; decide) (by rw [hx]; decide) (by decide) ?_
      refine gx_aload_n 1 dL_law_359 rfl rfl ?_
      refine gx_kload_n 0 dL_law_360 rfl rfl ?_
      refine gx_iload_n 3 dL_law_361 rfl rfl ?_
      refine gx_iconst (1 : Int32) dL_law_362 (by decide) ?_
      refine gx_iadd dL_law_363 ?_
      refine gx_sld dL_law_364 (fun x53 => ?_)
      refine gx_kload_n 0 dL_law_365 rfl rfl ?_
      refine gx_iload_n 3 dL_law_366 rfl rfl ?_
      refine gx_iconst (2 : Int32) dL_law_367 (by decide) ?_
      refine gx_iadd dL_law_368 ?_
      refine gx_sld dL_law_369 (fun x54 => ?_)
      refine gx_callV (ci := 8) (bc := 0) (bs := 0) (mc := 0) (ms := 0) (em' := (fun x : Int32 => some (.int x))) [.int x53, .int x54] kc_RL_45 rfl dL_law_370 rfl rfl (gx_w8 rfl) (fun x q => (gx_isO_of (by unfold fX10_rolls at q; exact q)).2) (fun _ _ q => okX10_rolls (d + 10) q) (fun x56 h55 => ?_)
      refine gx_aload_n 2 dL_law_373 rfl rfl ?_
      refine gx_kload_n 0 dL_law_374 rfl rfl ?_
      refine gx_iload_n 3 dL_law_375 rfl rfl ?_
      refine gx_iconst (1 : Int32) dL_law_376 (by decide) ?_
      refine gx_iadd dL_law_377 ?_
      refine gx_sld dL_law_378 (fun x57 => ?_)
      refine gx_kload_n 0 dL_law_379 rfl rfl ?_
      refine gx_iload_n 3 dL_law_380 rfl rfl ?_
      refine gx_iconst (2 : Int32) dL_law_381 (by decide) ?_
      refine gx_iadd dL_law_382 ?_
      refine gx_sld dL_law_383 (fun x58 => ?_)
      refine gx_callV (ci := 9) (bc := 0) (bs := 0) (mc := 0) (ms := 0) (em' := (fun x : Int32 => some (.int x))) [.int x57, .int x58] kc_RL_48 rfl dL_law_384 rfl rfl (gx_w8 rfl) (fun x q => (gx_isO_of (by unfold fX11_rolls at q; exact q)).2) (fun _ _ q => okX11_rolls (d + 10) q) (fun x60 h59 => ?_)
      refine gx_icmp_eq 1235 dL_law_387 (by decide) (fun _ => ?_) (fun _ => ?_)
      · exact gx_sub (gL_law_1235 k18 hk18 11 v1 v2 v3 h59) (And.intro rfl (And.intro rfl (And.intro rfl (And.intro rfl True.intro))))
      · refine gx_iconst (0 : Int32) dL_law_390 (by decide) ?_
        exact gx_zret dL_law_391 rfl
    refine gx_ite (fun hx => ?_) (fun hx8 => ?_)
    · refine gx_tabIn (off := 360) 392 dL_law_32 (by rw [hx]; decide) (by rw [hx]; decide) (by rw [hx]; decide) (by decide) ?_
      refine gx_aload_n 1 dL_law_392 rfl rfl ?_
      refine gx_kload_n 0 dL_law_393 rfl rfl ?_
      refine gx_iload_n 3 dL_law_394 rfl rfl ?_
      refine gx_iconst (1 : Int32) dL_law_395 (by decide) ?_
      refine gx_iadd dL_law_396 ?_
      refine gx_sld dL_law_397 (fun x61 => ?_)
      refine gx_kload_n 0 dL_law_398 rfl rfl ?_
      refine gx_iload_n 3 dL_law_399 rfl rfl ?_
      refine gx_iconst (2 : Int32) dL_law_400 (by decide) ?_
      refine gx_iadd dL_law_401 ?_
      refine gx_sld dL_law_402 (fun x62 => ?_)
      refine gx_callV (ci := 8) (bc := 0) (bs := 0) (mc := 0) (ms := 0) (em' := (fun x : Int32 => some (.int x))) [.int x61, .int x62] kc_RL_49 rfl dL_law_403 rfl rfl (gx_w8 rfl) (fun x q => (gx_isO_of (by unfold fX10_sets at q; exact q)).2) (fun _ _ q => okX10_sets (d + 12) q) (fun x64 h63 => ?_)
      refine gx_aload_n 2 dL_law_406 rfl rfl ?_
      refine gx_kload_n 0 dL_law_407 rfl rfl ?_
      refine gx_iload_n 3 dL_law_408 rfl rfl ?_
      refine gx_iconst (1 : Int32) dL_law_409 (by decide) ?_
      refine gx_iadd dL_law_410 ?_
      refine gx_sld dL_law_411 (fun x65 => ?_)
      refine gx_kload_n 0 dL_law_412 rfl rfl ?_
      refine gx_iload_n 3 dL_law_413 rfl rfl ?_
      refine gx_iconst (2 : Int32) dL_law_414 (by decide) ?_
      refine gx_iadd dL_law_415 ?_
      refine gx_sld dL_law_416 (fun x66 => ?_)
      refine gx_callV (ci := 9) (bc := 0) (bs := 0) (mc := 0) (ms := 0) (em' := (fun x : Int32 => some (.int x))) [.int x65, .int x66] kc_RL_52 rfl dL_law_417 rfl rfl (gx_w8 rfl) (fun x q => (gx_isO_of (by unfold fX11_sets at q; exact q)).2) (fun _ _ q => okX11_sets (d + 12) q) (fun x68 h67 => ?_)
      refine gx_icmp_eq 1235 dL_law_420 (by decide) (fun _ => ?_) (fun _ => ?_)
      · exact gx_sub (gL_law_1235 k18 hk18 11 v1 v2 v3 h67) (And.intro rfl (And.intro rfl (And.intro rfl (And.intro rfl True.intro))))
      · refine gx_iconst (0 : Int32) dL_law_423 (by decide) ?_
        exact gx_zret dL_law_424 rfl
    refine gx_ite (fun hx => ?_) (fun hx9 => ?_)
    · refine gx_tabIn (off := 393) 425 dL_law_32 (by rw [hx]; decide) (by rw [hx]; decide) (by rw [hx]; decide) (by decide) ?_
      refine gx_aload_n 1 dL_law_425 rfl rfl ?_
      refine gx_callV (ci := 8) (bc := 0) (bs := 0) (mc := 0) (ms := 0) (em' := (fun x : Int32 => some (.int x))) [] kc_RL_53 rfl dL_law_426 rfl rfl (gx_w8 rfl) (fun x q => (gx_isO_of (by unfold fX10_undo at q; exact q)).2) (fun _ _ q => okX10_undo (d + 12) q) (fun x70 h69 => ?_)
      refine gx_aload_n 2 dL_law_429 rfl rfl ?_
      refine gx_callV (ci := 9) (bc := 0) (bs := 0) (mc := 0) (ms := 0) (em' := (fun x : Int32 => some (.int x))) [] kc_RL_56 rfl dL_law_430 rfl rfl (gx_w8 rfl) (fun x q => (gx_isO_of (by unfold fX11_undo at q; exact q)).2) (fun _ _ q => okX11_undo (d + 12) q) (fun x72 h71 => ?_)
      refine gx_icmp_eq 1235 dL_law_433 (by decide) (fun _ => ?_) (fun _ => ?_)
      · exact gx_sub (gL_law_1235 k18 hk18 11 v1 v2 v3 h71) (And.intro rfl (And.intro rfl (And.intro rfl (And.intro rfl True.intro))))
      · refine gx_iconst (0 : Int32) dL_law_436 (by decide) ?_
        exact gx_zret dL_law_437 rfl
    refine gx_ite (fun hx => ?_) (fun hx10 => ?_)
    · refine gx_tabIn (off := 406) 438 dL_law_32 (by rw [hx]; decide) (by rw [hx]; decide) (by rw [hx]; decide) (by decide) ?_
      refine gx_aload_n 1 dL_law_438 rfl rfl ?_
      refine gx_kload_n 0 dL_law_439 rfl rfl ?_
      refine gx_iload_n 3 dL_law_440 rfl rfl ?_
      refine gx_iconst (1 : Int32) dL_law_441 (by decide) ?_
      refine gx_iadd dL_law_442 ?_
      refine gx_sld dL_law_443 (fun x73 => ?_)
      refine gx_kload_n 0 dL_law_444 rfl rfl ?_
      refine gx_iload_n 3 dL_law_445 rfl rfl ?_
      refine gx_iconst (2 : Int32) dL_law_446 (by decide) ?_
      refine gx_iadd dL_law_447 ?_
      refine gx_sld dL_law_448 (fun x74 => ?_)
      refine gx_callV (ci := 8) (bc := 0) (bs := 0) (mc := 0) (ms := 0) (em' := (fun x : Int32 => some (.int x))) [.int x73, .int x74] kc_RL_57 rfl dL_law_449 rfl rfl (gx_w8 rfl) (fun x q => (gx_isO_of (by unfold fX10_of at q; exact q)).2) (fun _ _ q => okX10_of (d + 12) q) (fun x76 h75 => ?_)
      refine gx_aload_n 2 dL_law_452 rfl rfl ?_
      refine gx_kload_n 0 dL_law_453 rfl rfl ?_
      refine gx_iload_n 3 dL_law_454 rfl rfl ?_
      refine gx_iconst (1 : Int32) dL_law_455 (by decide) ?_
      refine gx_iadd dL_law_456 ?_
      refine gx_sld dL_law_457 (fun x77 => ?_)
      refine gx_kload_n 0 dL_law_458 rfl rfl ?_
      refine gx_iload_n 3 dL_law_459 rfl rfl ?_
      refine gx_iconst (2 : Int32) dL_law_460 (by decide) ?_
      refine gx_iadd dL_law_461 ?_
      refine gx_sld dL_law_462 (fun x78 => ?_)
      refine gx_callV (ci := 9) (bc := 0) (bs := 0) (mc := 0) (ms := 0) (em' := (fun x : Int32 => some (.int x))) [.int x77, .int x78] kc_RL_60 rfl dL_law_463 rfl rfl (gx_w8 rfl) (fun x q => (gx_isO_of (by unfold fX11_of at q; exact q)).2) (fun _ _ q => okX11_of (d + 12) q) (fun x80 h79 => ?_)
      refine gx_icmp_eq 1235 dL_law_466 (by decide) (fun _ => ?_) (fun _ => ?_)
      · exact gx_sub (gL_law_1235 k18 hk18 11 v1 v2 v3 h79) (And.intro rfl (And.intro rfl (And.intro rfl (And.intro rfl True.intro))))
      · refine gx_iconst (0 : Int32) dL_law_469 (by decide) ?_
        exact gx_zret dL_law_470 rfl
    refine gx_ite (fun hx => ?_) (fun hx11 => ?_)
    · refine gx_tabIn (off := 439) 471 dL_law_32 (by rw [hx]; decide) (by rw [hx]; decide) (by rw [hx]; decide) (by decide) ?_
      refine gx_aload_n 1 dL_law_471 rfl rfl ?_
      refine gx_kload_n 0 dL_law_472 rfl rfl ?_
      refine gx_iload_n 3 dL_law_473 rfl rfl ?_
      refine gx_iconst (1 : Int32) dL_law_474 (by decide) ?_
      refine gx_iadd dL_law_475 ?_
      refine gx_sld dL_law_476 (fun x81 => ?_)
      refine gx_kload_n 0 dL_law_477 rfl rfl ?_
      refine gx_iload_n 3 dL_law_478 rfl rfl ?_
      refine gx_iconst (2 : Int32) dL_law_479 (by decide) ?_
      refine gx_iadd dL_law_480 ?_
      refine gx_sld dL_law_481 (fun x82 => ?_)
      refine gx_callV (ci := 8) (bc := 0) (bs := 0) (mc := 0) (ms := 0) (em' := (fun x : Int32 => some (.int x))) [.int x81, .int x82] kc_RL_61 rfl dL_law_482 rfl rfl (gx_w8 rfl) (fun x q => (gx_isO_of (by unfold fX10_about at q; exact q)).2) (fun _ _ q => okX10_about (d + 12) q) (fun x84 h83 => ?_)
      refine gx_aload_n 2 dL_law_485 rfl rfl ?_
      refine gx_kload_n 0 dL_law_486 rfl rfl ?_
      refine gx_iload_n 3 dL_law_487 rfl rfl ?_
      refine gx_iconst (1 : Int32) dL_law_488 (by decide) ?_
      refine gx_iadd dL_law_489 ?_
      refine gx_sld dL_law_490 (fun x85 => ?_)
      refine gx_kload_n 0 dL_law_491 rfl rfl ?_
      refine gx_iload_n 3 dL_law_492 rfl rfl ?_
      refine gx_iconst (2 : Int32) dL_law_493 (by decide) ?_
      refine gx_iadd dL_law_494 ?_
      refine gx_sld dL_law_495 (fun x86 => ?_)
      refine gx_callV (ci := 9) (bc := 0) (bs := 0) (mc := 0) (ms := 0) (em' := (fun x : Int32 => some (.int x))) [.int x85, .int x86] kc_RL_64 rfl dL_law_496 rfl rfl (gx_w8 rfl) (fun x q => (gx_isO_of (by unfold fX11_about at q; exact q)).2) (fun _ _ q => okX11_about (d + 12) q) (fun x88 h87 => ?_)
      refine gx_icmp_eq 1235 dL_law_499 (by decide) (fun _ => ?_) (fun _ => ?_)
      · exact gx_sub (gL_law_1235 k18 hk18 11 v1 v2 v3 h87) (And.intro rfl (And.intro rfl (And.intro rfl (And.intro rfl True.intro))))
      · refine gx_iconst (0 : Int32) dL_law_502 (by decide) ?_
        exact gx_zret dL_law_503 rfl
    refine gx_ite (fun hx => ?_) (fun hx12 => ?_)
    · refine gx_tabIn (off := 472) 504 dL_law_32 (by rw [hx]; decide) (by rw [hx]; decide) (by rw [hx]; decide) (by decide) ?_
      refine gx_aload_n 1 dL_law_504 rfl rfl ?_
      refine gx_kload_n 0 dL_law_505 rfl rfl ?_
      refine gx_iload_n 3 dL_law_506 rfl rfl ?_
      refine gx_iconst (1 : Int32) dL_law_507 (by decide) ?_
      refine gx_iadd dL_law_508 ?_
      refine gx_sld dL_law_509 (fun x89 => ?_)
      refine gx_kload_n 0 dL_law_510 rfl rfl ?_
      refine gx_iload_n 3 dL_law_511 rfl rfl ?_
      refine gx_iconst (2 : Int32) dL_law_512 (by decide) ?_
      refine gx_iadd dL_law_513 ?_
      refine gx_sld dL_law_514 (fun x90 => ?_)
      refine gx_callV (ci := 8) (bc := 0) (bs := 0) (mc := 0) (ms := 0) (em' := (fun x : Int32 => some (.int x))) [.int x89, .int x90] kc_RL_65 rfl dL_law_515 rfl rfl (gx_w8 rfl) (fun x q => (gx_isO_of (by unfold fX10_goes at q; exact q)).2) (fun _ _ q => okX10_goes (d + 10) q) (fun x92 h91 => ?_)
      refine gx_aload_n 2 dL_law_518 rfl rfl ?_
      refine gx_kload_n 0 dL_law_519 rfl rfl ?_
      refine gx_iload_n 3 dL_law_520 rfl rfl ?_
      refine gx_iconst (1 : Int32) dL_law_521 (by decide) ?_
      refine gx_iadd dL_law_522 ?_
      refine gx_sld dL_law_523 (fun x93 => ?_)
      refine gx_kload_n 0 dL_law_524 rfl rfl ?_
      refine gx_iload_n 3 dL_law_525 rfl rfl ?_
      refine gx_iconst (2 : Int32) dL_law_526 (by decide) ?_
      refine gx_iadd dL_law_527 ?_
      refine gx_sld dL_law_528 (fun x94 => ?_)
      refine gx_callV (ci := 9) (bc := 0) (bs := 0) (mc := 0) (ms := 0) (em' := (fun x : Int32 => some (.int x))) [.int x93, .int x94] kc_RL_68 rfl dL_law_529 rfl rfl (gx_w8 rfl) (fun x q => (gx_isO_of (by unfold fX11_goes at q; exact q)).2) (fun _ _ q => okX11_goes (d + 9) q) (fun x96 h95 => ?_)
      refine gx_icmp_eq 1235 dL_law_532 (by decide) (fun _ => ?_) (fun _ => ?_)
      · exact gx_sub (gL_law_1235 k18 hk18 11 v1 v2 v3 h95) (And.intro rfl (And.intro rfl (And.intro rfl (And.intro rfl True.intro))))
      · refine gx_iconst (0 : Int32) dL_law_535 (by decide) ?_
        exact gx_zret dL_law_536 rfl
    refine gx_ite (fun hx => ?_) (fun hx13 => ?_)
    · refine gx_tabIn (off := 505) 537 dL_law_32 (by rw [hx]; decide) (by rw [hx]; decide) (by rw [hx]; decide) (by decide) ?_
      refine gx_aload_n 1 dL_law_537 rfl rfl ?_
      refine gx_kload_n 0 dL_law_538 rfl rfl ?_
      refine gx_iload_n 3 dL_law_539 rfl rfl ?_
      refine gx_iconst (1 : Int32) dL_law_540 (by decide) ?_
      refine gx_iadd dL_law_541 ?_
      refine gx_sld dL_law_542 (fun x97 => ?_)
      refine gx_kload_n 0 dL_law_543 rfl rfl ?_
      refine gx_iload_n 3 dL_law_544 rfl rfl ?_
      refine gx_iconst (2 : Int32) dL_law_545 (by decide) ?_
      refine gx_iadd dL_law_546 ?_
      refine gx_sld dL_law_547 (fun x98 => ?_)
      refine gx_callV (ci := 8) (bc := 0) (bs := 0) (mc := 0) (ms := 0) (em' := (fun x : Int32 => some (.int x))) [.int x97, .int x98] kc_RL_69 rfl dL_law_548 rfl rfl (gx_w8 rfl) (fun x q => (gx_isO_of (by unfold fX10_few at q; exact q)).2) (fun _ _ q => okX10_few (d + 1) q) (fun x100 h99 => ?_)
      refine gx_aload_n 2 dL_law_551 rfl rfl ?_
      refine gx_kload_n 0 dL_law_552 rfl rfl ?_
      refine gx_iload_n 3 dL_law_553 rfl rfl ?_
      refine gx_iconst (1 : Int32) dL_law_554 (by decide) ?_
      refine gx_iadd dL_law_555 ?_
      refine gx_sld dL_law_556 (fun x101 => ?_)
      refine gx_kload_n 0 dL_law_557 rfl rfl ?_
      refine gx_iload_n 3 dL_law_558 rfl rfl ?_
      refine gx_iconst (2 : Int32) dL_law_559 (by decide) ?_
      refine gx_iadd dL_law_560 ?_
      refine gx_sld dL_law_561 (fun x102 => ?_)
      refine gx_callV (ci := 9) (bc := 0) (bs := 0) (mc := 0) (ms := 0) (em' := (fun x : Int32 => some (.int x))) [.int x101, .int x102] kc_RL_72 rfl dL_law_562 rfl rfl (gx_w8 rfl) (fun x q => (gx_isO_of (by unfold fX11_few at q; exact q)).2) (fun _ _ q => okX11_few (d + 8) q) (fun x104 h103 => ?_)
      refine gx_icmp_eq 1235 dL_law_565 (by decide) (fun _ => ?_) (fun _ => ?_)
      · exact gx_sub (gL_law_1235 k18 hk18 11 v1 v2 v3 h103) (And.intro rfl (And.intro rfl (And.intro rfl (And.intro rfl True.intro))))
      · refine gx_iconst (0 : Int32) dL_law_568 (by decide) ?_
        exact gx_zret dL_law_569 rfl
    refine gx_ite (fun hx => ?_) (fun hx14 => ?_)
    · refine gx_tabIn (off := 538) 570 dL_law_32 (by rw [hx]; decide) (by rw [hx]; decide) (by rw [hx]; decide) (by decide) ?_
      refine gx_aload_n 1 dL_law_570 rfl rfl ?_
      refine gx_kload_n 0 dL_law_571 rfl rfl ?_
      refine gx_iload_n 3 dL_law_572 rfl rfl ?_
      refine gx_iconst (1 : Int32) dL_law_573 (by decide) ?_
      refine gx_iadd dL_law_574 ?_
      refine gx_sld dL_law_575 (fun x105 => ?_)
      refine gx_kload_n 0 dL_law_576 rfl rfl ?_
      refine gx_iload_n 3 dL_law_577 rfl rfl ?_
      refine gx_iconst (2 : Int32) dL_law_578 (by decide) ?_
      refine gx_iadd dL_law_579 ?_
      refine gx_sld dL_law_580 (fun x106 => ?_)
      refine gx_callV (ci := 8) (bc := 0) (bs := 0) (mc := 0) (ms := 0) (em' := (fun x : Int32 => some (.int x))) [.int x105, .int x106] kc_RL_73 rfl dL_law_581 rfl rfl (gx_w8 rfl) (fun x q => (gx_isO_of (by unfold fX10_home at q; exact q)).2) (fun _ _ q => okX10_home d q) (fun x108 h107 => ?_)
      refine gx_aload_n 2 dL_law_584 rfl rfl ?_
      refine gx_kload_n 0 dL_law_585 rfl rfl ?_
      refine gx_iload_n 3 dL_law_586 rfl rfl ?_
      refine gx_iconst (1 : Int32) dL_law_587 (by decide) ?_
      refine gx_iadd dL_law_588 ?_
      refine gx_sld dL_law_589 (fun x109 => ?_)
      refine gx_kload_n 0 dL_law_590 rfl rfl ?_
      refine gx_iload_n 3 dL_law_591 rfl rfl ?_
      refine gx_iconst (2 : Int32) dL_law_592 (by decide) ?_
      refine gx_iadd dL_law_593 ?_
      refine gx_sld dL_law_594 (fun x110 => ?_)
      refine gx_callV (ci := 9) (bc := 0) (bs := 0) (mc := 0) (ms := 0) (em' := (fun x : Int32 => some (.int x))) [.int x109, .int x110] kc_RL_76 rfl dL_law_595 rfl rfl (gx_w8 rfl) (fun x q => (gx_isO_of (by unfold fX11_home at q; exact q)).2) (fun _ _ q => okX11_home (d + 8) q) (fun x112 h111 => ?_)
      refine gx_icmp_eq 1235 dL_law_598 (by decide) (fun _ => ?_) (fun _ => ?_)
      · exact gx_sub (gL_law_1235 k18 hk18 11 v1 v2 v3 h111) (And.intro rfl (And.intro rfl (And.intro rfl (And.intro rfl True.intro))))
      · refine gx_iconst (0 : Int32) dL_law_601 (by decide) ?_
        exact gx_zret dL_law_602 rfl
    refine gx_ite (fun hx => ?_) (fun hx15 => ?_)
    · refine gx_tabIn (off := 571) 603 dL_law_32 (by rw [hx]; decide) (by rw [hx]; decide) (by rw [hx]; decide) (by decide) ?_
      refine gx_aload_n 1 dL_law_603 rfl rfl ?_
      refine gx_kload_n 0 dL_law_604 rfl rfl ?_
      refine gx_iload_n 3 dL_law_605 rfl rfl ?_
      refine gx_iconst (1 : Int32) dL_law_606 (by decide) ?_
      refine gx_iadd dL_law_607 ?_
      refine gx_sld dL_law_608 (fun x113 => ?_)
      refine gx_kload_n 0 dL_law_609 rfl rfl ?_
      refine gx_iload_n 3 dL_law_610 rfl rfl ?_
      refine gx_iconst (2 : Int32) dL_law_611 (by decide) ?_
      refine gx_iadd dL_law_612 ?_
      refine gx_sld dL_law_613 (fun x114 => ?_)
      refine gx_callV (ci := 8) (bc := 0) (bs := 0) (mc := 0) (ms := 0) (em' := (fun x : Int32 => some (.int x))) [.int x113, .int x114] kc_RL_77 rfl dL_law_614 rfl rfl (gx_w8 rfl) (fun x q => (gx_isO_of (by unfold fX10_mean at q; exact q)).2) (fun _ _ q => okX10_mean d q) (fun x116 h115 => ?_)
      refine gx_aload_n 2 dL_law_617 rfl rfl ?_
      refine gx_kload_n 0 dL_law_618 rfl rfl ?_
      refine gx_iload_n 3 dL_law_619 rfl rfl ?_
      refine gx_iconst (1 : Int32) dL_law_620 (by decide) ?_
      refine gx_iadd dL_law_621 ?_
      refine gx_sld dL_law_622 (fun x117 => ?_)
      refine gx_kload_n 0 dL_law_623 rfl rfl ?_
      refine gx_iload_n 3 dL_law_624 rfl rfl ?_
      refine gx_iconst (2 : Int32) dL_law_625 (by decide) ?_
      refine gx_iadd dL_law_626 ?_
      refine gx_sld dL_law_627 (fun x118 => ?_)
      refine gx_callV (ci := 9) (bc := 0) (bs := 0) (mc := 0) (ms := 0) (em' := (fun x : Int32 => some (.int x))) [.int x117, .int x118] kc_RL_80 rfl dL_law_628 rfl rfl (gx_w8 rfl) (fun x q => (gx_isO_of (by unfold fX11_mean at q; exact q)).2) (fun _ _ q => okX11_mean (d + 8) q) (fun x120 h119 => ?_)
      refine gx_icmp_eq 1235 dL_law_631 (by decide) (fun _ => ?_) (fun _ => ?_)
      · exact gx_sub (gL_law_1235 k18 hk18 11 v1 v2 v3 h119) (And.intro rfl (And.intro rfl (And.intro rfl (And.intro rfl True.intro))))
      · refine gx_iconst (0 : Int32) dL_law_634 (by decide) ?_
        exact gx_zret dL_law_635 rfl
    refine gx_ite (fun hx => ?_) (fun hx16 => ?_)
    · refine gx_tabIn (off := 604) 636 dL_law_32 (by rw [hx]; decide) (by rw [hx]; decide) (by rw [hx]; decide) (by decide) ?_
      refine gx_aload_n 1 dL_law_636 rfl rfl ?_
      refine gx_kload_n 0 dL_law_637 rfl rfl ?_
      refine gx_iload_n 3 dL_law_638 rfl rfl ?_
      refine gx_iconst (1 : Int32) dL_law_639 (by decide) ?_
      refine gx_iadd dL_law_640 ?_
      refine gx_sld dL_law_641 (fun x121 => ?_)
      refine gx_kload_n 0 dL_law_642 rfl rfl ?_
      refine gx_iload_n 3 dL_law_643 rfl rfl ?_
      refine gx_iconst (2 : Int32) dL_law_644 (by decide) ?_
      refine gx_iadd dL_law_645 ?_
      refine gx_sld dL_law_646 (fun x122 => ?_)
      refine gx_kload_n 0 dL_law_647 rfl rfl ?_
      refine gx_iload_n 3 dL_law_648 rfl rfl ?_
      refine gx_iconst (3 : Int32) dL_law_649 (by decide) ?_
      refine gx_iadd dL_law_650 ?_
      refine gx_sld dL_law_651 (fun x123 => ?_)
      refine gx_callV (ci := 8) (bc := 0) (bs := 0) (mc := 0) (ms := 0) (em' := (fun x : Int32 => some (.int x))) [.int x121, .int x122, .int x123] kc_RL_81 rfl dL_law_652 rfl rfl (gx_w8 rfl) (fun x q => (gx_isO_of (by unfold fX10_ahead at q; exact q)).2) (fun _ _ q => okX10_ahead (d + 1) q) (fun x125 h124 => ?_)
      refine gx_aload_n 2 dL_law_655 rfl rfl ?_
      refine gx_kload_n 0 dL_law_656 rfl rfl ?_
      refine gx_iload_n 3 dL_law_657 rfl rfl ?_
      refine gx_iconst (1 : Int32) dL_law_658 (by decide) ?_
      refine gx_iadd dL_law_659 ?_
      refine gx_sld dL_law_660 (fun x126 => ?_)
      refine gx_kload_n 0 dL_law_661 rfl rfl ?_
      refine gx_iload_n 3 dL_law_662 rfl rfl ?_
      refine gx_iconst (2 : Int32) dL_law_663 (by decide) ?_
      refine gx_iadd dL_law_664 ?_
      refine gx_sld dL_law_665 (fun x127 => ?_)
      refine gx_kload_n 0 dL_law_666 rfl rfl ?_
      refine gx_iload_n 3 dL_law_667 rfl rfl ?_
      refine gx_iconst (3 : Int32) dL_law_668 (by decide) ?_
      refine gx_iadd dL_law_669 ?_
      refine gx_sld dL_law_670 (fun x128 => ?_)
      refine gx_callV (ci := 9) (bc := 0) (bs := 0) (mc := 0) (ms := 0) (em' := (fun x : Int32 => some (.int x))) [.int x126, .int x127, .int x128] kc_RL_84 rfl dL_law_671 rfl rfl (gx_w8 rfl) (fun x q => (gx_isO_of (by unfold fX11_ahead at q; exact q)).2) (fun _ _ q => okX11_ahead (d + 9) q) (fun x130 h129 => ?_)
      refine gx_icmp_eq 1235 dL_law_674 (by decide) (fun _ => ?_) (fun _ => ?_)
      · exact gx_sub (gL_law_1235 k18 hk18 11 v1 v2 v3 h129) (And.intro rfl (And.intro rfl (And.intro rfl (And.intro rfl True.intro))))
      · refine gx_iconst (0 : Int32) dL_law_677 (by decide) ?_
        exact gx_zret dL_law_678 rfl
    refine gx_ite (fun hx => ?_) (fun hx17 => ?_)
    · refine gx_tabIn (off := 647) 679 dL_law_32 (by rw [hx]; decide) (by rw [hx]; decide) (by rw [hx]; decide) (by decide) ?_
      refine gx_aload_n 1 dL_law_679 rfl rfl ?_
      refine gx_kload_n 0 dL_law_680 rfl rfl ?_
      refine gx_iload_n 3 dL_law_681 rfl rfl ?_
      refine gx_iconst (1 : Int32) dL_law_682 (by decide) ?_
      refine gx_iadd dL_law_683 ?_
      refine gx_sld dL_law_684 (fun x131 => ?_)
      refine gx_kload_n 0 dL_law_685 rfl rfl ?_
      refine gx_iload_n 3 dL_law_686 rfl rfl ?_
      refine gx_iconst (2 : Int32) dL_law_687 (by decide) ?_
      refine gx_iadd dL_law_688 ?_
      refine gx_sld dL_law_689 (fun x132 => ?_)
      refine gx_kload_n 0 dL_law_690 rfl rfl ?_
      refine gx_iload_n 3 dL_law_691 rfl rfl ?_
      refine gx_iconst (3 : Int32) dL_law_692 (by decide) ?_
      refine gx_iadd dL_law_693 ?_
      refine gx_sld dL_law_694 (fun x133 => ?_)
      refine gx_callV (ci := 8) (bc := 0) (bs := 0) (mc := 0) (ms := 0) (em' := (fun x : Int32 => some (.int x))) [.int x131, .int x132, .int x133] kc_RL_85 rfl dL_law_695 rfl rfl (gx_w8 rfl) (fun x q => (gx_isO_of (by unfold fX10_rather at q; exact q)).2) (fun _ _ q => okX10_rather d q) (fun x135 h134 => ?_)
      refine gx_aload_n 2 dL_law_698 rfl rfl ?_
      refine gx_kload_n 0 dL_law_699 rfl rfl ?_
      refine gx_iload_n 3 dL_law_700 rfl rfl ?_
      refine gx_iconst (1 : Int32) dL_law_701 (by decide) ?_
      refine gx_iadd dL_law_702 ?_
      refine gx_sld dL_law_703 (fun x136 => ?_)
      refine gx_kload_n 0 dL_law_704 rfl rfl ?_
      refine gx_iload_n 3 dL_law_705 rfl rfl ?_
      refine gx_iconst (2 : Int32) dL_law_706 (by decide) ?_
      refine gx_iadd dL_law_707 ?_
      refine gx_sld dL_law_708 (fun x137 => ?_)
      refine gx_kload_n 0 dL_law_709 rfl rfl ?_
      refine gx_iload_n 3 dL_law_710 rfl rfl ?_
      refine gx_iconst (3 : Int32) dL_law_711 (by decide) ?_
      refine gx_iadd dL_law_712 ?_
      refine gx_sld dL_law_713 (fun x138 => ?_)
      refine gx_callV (ci := 9) (bc := 0) (bs := 0) (mc := 0) (ms := 0) (em' := (fun x : Int32 => some (.int x))) [.int x136, .int x137, .int x138] kc_RL_88 rfl dL_law_714 rfl rfl (gx_w8 rfl) (fun x q => (gx_isO_of (by unfold fX11_rather at q; exact q)).2) (fun _ _ q => okX11_rather (d + 8) q) (fun x140 h139 => ?_)
      refine gx_icmp_eq 1235 dL_law_717 (by decide) (fun _ => ?_) (fun _ => ?_)
      · exact gx_sub (gL_law_1235 k18 hk18 11 v1 v2 v3 h139) (And.intro rfl (And.intro rfl (And.intro rfl (And.intro rfl True.intro))))
      · refine gx_iconst (0 : Int32) dL_law_720 (by decide) ?_
        exact gx_zret dL_law_721 rfl
    refine gx_ite (fun hx => ?_) (fun hx18 => ?_)
    · refine gx_tabIn (off := 690) 722 dL_law_32 (by rw [hx]; decide) (by rw [hx]; decide) (by rw [hx]; decide) (by decide) ?_
      refine gx_aload_n 1 dL_law_722 rfl rfl ?_
      refine gx_kload_n 0 dL_law_723 rfl rfl ?_
      refine gx_iload_n 3 dL_law_724 rfl rfl ?_
      refine gx_iconst (1 : Int32) dL_law_725 (by decide) ?_
      refine gx_iadd dL_law_726 ?_
      refine gx_sld dL_law_727 (fun x141 => ?_)
      refine gx_kload_n 0 dL_law_728 rfl rfl ?_
      refine gx_iload_n 3 dL_law_729 rfl rfl ?_
      refine gx_iconst (2 : Int32) dL_law_730 (by decide) ?_
      refine gx_iadd dL_law_731 ?_
      refine gx_sld dL_law_732 (fun x142 => ?_)
      refine gx_kload_n 0 dL_law_733 rfl rfl ?_
      refine gx_iload_n 3 dL_law_734 rfl rfl ?_
      refine gx_iconst (3 : Int32) dL_law_735 (by decide) ?_
      refine gx_iadd dL_law_736 ?_
      refine gx_sld dL_law_737 (fun x143 => ?_)
      refine gx_callV (ci := 8) (bc := 0) (bs := 0) (mc := 0) (ms := 0) (em' := (fun x : Int32 => some (.int x))) [.int x141, .int x142, .int x143] kc_RL_89 rfl dL_law_738 rfl rfl (gx_w8 rfl) (fun x q => (gx_isO_of (by unfold fX10_without at q; exact q)).2) (fun _ _ q => okX10_without d q) (fun x145 h144 => ?_)
      refine gx_aload_n 2 dL_law_741 rfl rfl ?_
      refine gx_kload_n 0 dL_law_742 rfl rfl ?_
      refine gx_iload_n 3 dL_law_743 rfl rfl ?_
      refine gx_iconst (1 : Int32) dL_law_744 (by decide) ?_
      refine gx_iadd dL_law_745 ?_
      refine gx_sld dL_law_746 (fun x146 => ?_)
      refine gx_kload_n 0 dL_law_747 rfl rfl ?_
      refine gx_iload_n 3 dL_law_748 rfl rfl ?_
      refine gx_iconst (2 : Int32) dL_law_749 (by decide) ?_
      refine gx_iadd dL_law_750 ?_
      refine gx_sld dL_law_751 (fun x147 => ?_)
      refine gx_kload_n 0 dL_law_752 rfl rfl ?_
      refine gx_iload_n 3 dL_law_753 rfl rfl ?_
      refine gx_iconst (3 : Int32) dL_law_754 (by decide) ?_
      refine gx_iadd dL_law_755 ?_
      refine gx_sld dL_law_756 (fun x148 => ?_)
      refine gx_callV (ci := 9) (bc := 0) (bs := 0) (mc := 0) (ms := 0) (em' := (fun x : Int32 => some (.int x))) [.int x146, .int x147, .int x148] kc_RL_92 rfl dL_law_757 rfl rfl (gx_w8 rfl) (fun x q => (gx_isO_of (by unfold fX11_without at q; exact q)).2) (fun _ _ q => okX11_without (d + 8) q) (fun x150 h149 => ?_)
      refine gx_icmp_eq 1235 dL_law_760 (by decide) (fun _ => ?_) (fun _ => ?_)
      · exact gx_sub (gL_law_1235 k18 hk18 11 v1 v2 v3 h149) (And.intro rfl (And.intro rfl (And.intro rfl (And.intro rfl True.intro))))
      · refine gx_iconst (0 : Int32) dL_law_763 (by decide) ?_
        exact gx_zret dL_law_764 rfl
    refine gx_ite (fun hx => ?_) (fun hx19 => ?_)
    · refine gx_tabIn (off := 733) 765 dL_law_32 (by rw [hx]; decide) (by rw [hx]; decide) (by rw [hx]; decide) (by decide) ?_
      refine gx_aload_n 1 dL_law_765 rfl rfl ?_
      refine gx_kload_n 0 dL_law_766 rfl rfl ?_
      refine gx_iload_n 3 dL_law_767 rfl rfl ?_
      refine gx_iconst (1 : Int32) dL_law_768 (by decide) ?_
      refine gx_iadd dL_law_769 ?_
      refine gx_sld dL_law_770 (fun x151 => ?_)
      refine gx_kload_n 0 dL_law_771 rfl rfl ?_
      refine gx_iload_n 3 dL_law_772 rfl rfl ?_
      refine gx_iconst (2 : Int32) dL_law_773 (by decide) ?_
      refine gx_iadd dL_law_774 ?_
      refine gx_sld dL_law_775 (fun x152 => ?_)
      refine gx_kload_n 0 dL_law_776 rfl rfl ?_
      refine gx_iload_n 3 dL_law_777 rfl rfl ?_
      refine gx_iconst (3 : Int32) dL_law_778 (by decide) ?_
      refine gx_iadd dL_law_779 ?_
      refine gx_sld dL_law_780 (fun x153 => ?_)
      refine gx_callV (ci := 8) (bc := 0) (bs := 0) (mc := 0) (ms := 0) (em' := (fun x : Int32 => some (.int x))) [.int x151, .int x152, .int x153] kc_RL_93 rfl dL_law_781 rfl rfl (gx_w8 rfl) (fun x q => (gx_isO_of (by unfold fX10_span at q; exact q)).2) (fun _ _ q => okX10_span d q) (fun x155 h154 => ?_)
      refine gx_aload_n 2 dL_law_784 rfl rfl ?_
      refine gx_kload_n 0 dL_law_785 rfl rfl ?_
      refine gx_iload_n 3 dL_law_786 rfl rfl ?_
      refine gx_iconst (1 : Int32) dL_law_787 (by decide) ?_
      refine gx_iadd dL_law_788 ?_
      refine gx_sld dL_law_789 (fun x156 => ?_)
      refine gx_kload_n 0 dL_law_790 rfl rfl ?_
      refine gx_iload_n 3 dL_law_791 rfl rfl ?_
      refine gx_iconst (2 : Int32) dL_law_792 (by decide) ?_
      refine gx_iadd dL_law_793 ?_
      refine gx_sld dL_law_794 (fun x157 => ?_)
      refine gx_kload_n 0 dL_law_795 rfl rfl ?_
      refine gx_iload_n 3 dL_law_796 rfl rfl ?_
      refine gx_iconst (3 : Int32) dL_law_797 (by decide) ?_
      refine gx_iadd dL_law_798 ?_
      refine gx_sld dL_law_799 (fun x158 => ?_)
      refine gx_callV (ci := 9) (bc := 0) (bs := 0) (mc := 0) (ms := 0) (em' := (fun x : Int32 => some (.int x))) [.int x156, .int x157, .int x158] kc_RL_96 rfl dL_law_800 rfl rfl (gx_w8 rfl) (fun x q => (gx_isO_of (by unfold fX11_span at q; exact q)).2) (fun _ _ q => okX11_span (d + 8) q) (fun x160 h159 => ?_)
      refine gx_icmp_eq 1235 dL_law_803 (by decide) (fun _ => ?_) (fun _ => ?_)
      · exact gx_sub (gL_law_1235 k18 hk18 11 v1 v2 v3 h159) (And.intro rfl (And.intro rfl (And.intro rfl (And.intro rfl True.intro))))
      · refine gx_iconst (0 : Int32) dL_law_806 (by decide) ?_
        exact gx_zret dL_law_807 rfl
    refine gx_ite (fun hx => ?_) (fun hx20 => ?_)
    · refine gx_tabIn (off := 776) 808 dL_law_32 (by rw [hx]; decide) (by rw [hx]; decide) (by rw [hx]; decide) (by decide) ?_
      refine gx_aload_n 1 dL_law_808 rfl rfl ?_
      refine gx_kload_n 0 dL_law_809 rfl rfl ?_
      refine gx_iload_n 3 dL_law_810 rfl rfl ?_
      refine gx_iconst (1 : Int32) dL_law_811 (by decide) ?_
      refine gx_iadd dL_law_812 ?_
      refine gx_sld dL_law_813 (fun x161 => ?_)
      refine gx_kload_n 0 dL_law_814 rfl rfl ?_
      refine gx_iload_n 3 dL_law_815 rfl rfl ?_
      refine gx_iconst (2 : Int32) dL_law_816 (by decide) ?_
      refine gx_iadd dL_law_817 ?_
      refine gx_sld dL_law_818 (fun x162 => ?_)
      refine gx_kload_n 0 dL_law_819 rfl rfl ?_
      refine gx_iload_n 3 dL_law_820 rfl rfl ?_
      refine gx_iconst (3 : Int32) dL_law_821 (by decide) ?_
      refine gx_iadd dL_law_822 ?_
      refine gx_sld dL_law_823 (fun x163 => ?_)
      refine gx_kload_n 0 dL_law_824 rfl rfl ?_
      refine gx_iload_n 3 dL_law_825 rfl rfl ?_
      refine gx_iconst (4 : Int32) dL_law_826 (by decide) ?_
      refine gx_iadd dL_law_827 ?_
      refine gx_sld dL_law_828 (fun x164 => ?_)
      refine gx_callV (ci := 8) (bc := 0) (bs := 0) (mc := 0) (ms := 0) (em' := (fun x : Int32 => some (.int x))) [.int x161, .int x162, .int x163, .int x164] kc_RL_97 rfl dL_law_829 rfl rfl (gx_w8 rfl) (fun x q => (gx_isO_of (by unfold fX10_note at q; exact q)).2) (fun _ _ q => okX10_note (d + 12) q) (fun x166 h165 => ?_)
      refine gx_aload_n 2 dL_law_832 rfl rfl ?_
      refine gx_kload_n 0 dL_law_833 rfl rfl ?_
      refine gx_iload_n 3 dL_law_834 rfl rfl ?_
      refine gx_iconst (1 : Int32) dL_law_835 (by decide) ?_
      refine gx_iadd dL_law_836 ?_
      refine gx_sld dL_law_837 (fun x167 => ?_)
      refine gx_kload_n 0 dL_law_838 rfl rfl ?_
      refine gx_iload_n 3 dL_law_839 rfl rfl ?_
      refine gx_iconst (2 : Int32) dL_law_840 (by decide) ?_
      refine gx_iadd dL_law_841 ?_
      refine gx_sld dL_law_842 (fun x168 => ?_)
      refine gx_kload_n 0 dL_law_843 rfl rfl ?_
      refine gx_iload_n 3 dL_law_844 rfl rfl ?_
      refine gx_iconst (3 : Int32) dL_law_845 (by decide) ?_
      refine gx_iadd dL_law_846 ?_
      refine gx_sld dL_law_847 (fun x169 => ?_)
      refine gx_kload_n 0 dL_law_848 rfl rfl ?_
      refine gx_iload_n 3 dL_law_849 rfl rfl ?_
      refine gx_iconst (4 : Int32) dL_law_850 (by decide) ?_
      refine gx_iadd dL_law_851 ?_
      refine gx_sld dL_law_852 (fun x170 => ?_)
      refine gx_callV (ci := 9) (bc := 0) (bs := 0) (mc := 0) (ms := 0) (em' := (fun x : Int32 => some (.int x))) [.int x167, .int x168, .int x169, .int x170] kc_RL_101 rfl dL_law_853 rfl rfl (gx_w8 rfl) (fun x q => (gx_isO_of (by unfold fX11_note at q; exact q)).2) (fun _ _ q => okX11_note (d + 12) q) (fun x172 h171 => ?_)
      refine gx_icmp_eq 1235 dL_law_856 (by decide) (fun _ => ?_) (fun _ => ?_)
      · exact gx_sub (gL_law_1235 k18 hk18 11 v1 v2 v3 h171) (And.intro rfl (And.intro rfl (And.intro rfl (And.intro rfl True.intro))))
      · refine gx_iconst (0 : Int32) dL_law_859 (by decide) ?_
        exact gx_zret dL_law_860 rfl
    refine gx_ite (fun hx => ?_) (fun hx21 => ?_)
    · refine gx_tabIn (off := 829) 861 dL_law_32 (by rw [hx]; decide) (by rw [hx]; decide) (by rw [hx]; decide) (by decide) ?_
      refine gx_aload_n 1 dL_law_861 rfl rfl ?_
      refine gx_kload_n 0 dL_law_862 rfl rfl ?_
      refine gx_iload_n 3 dL_law_863 rfl rfl ?_
      refine gx_iconst (1 : Int32) dL_law_864 (by decide) ?_
      refine gx_iadd dL_law_865 ?_
      refine gx_sld dL_law_866 (fun x173 => ?_)
      refine gx_kload_n 0 dL_law_867 rfl rfl ?_
      refine gx_iload_n 3 dL_law_868 rfl rfl ?_
      refine gx_iconst (2 : Int32) dL_law_869 (by decide) ?_
      refine gx_iadd dL_law_870 ?_
      refine gx_sld dL_law_871 (fun x174 => ?_)
      refine gx_kload_n 0 dL_law_872 rfl rfl ?_
      refine gx_iload_n 3 dL_law_873 rfl rfl ?_
      refine gx_iconst (3 : Int32) dL_law_874 (by decide) ?_
      refine gx_iadd dL_law_875 ?_
      refine gx_sld dL_law_876 (fun x175 => ?_)
      refine gx_kload_n 0 dL_law_877 rfl rfl ?_
      refine gx_iload_n 3 dL_law_878 rfl rfl ?_
      refine gx_iconst (4 : Int32) dL_law_879 (by decide) ?_
      refine gx_iadd dL_law_880 ?_
      refine gx_sld dL_law_881 (fun x176 => ?_)
      refine gx_callV (ci := 8) (bc := 0) (bs := 0) (mc := 0) (ms := 0) (em' := (fun x : Int32 => some (.int x))) [.int x173, .int x174, .int x175, .int x176] kc_RL_102 rfl dL_law_882 rfl rfl (gx_w8 rfl) (fun x q => (gx_isO_of (by unfold fX10_mark at q; exact q)).2) (fun _ _ q => okX10_mark (d + 12) q) (fun x178 h177 => ?_)
      refine gx_aload_n 2 dL_law_885 rfl rfl ?_
      refine gx_kload_n 0 dL_law_886 rfl rfl ?_
      refine gx_iload_n 3 dL_law_887 rfl rfl ?_
      refine gx_iconst (1 : Int32) dL_law_888 (by decide) ?_
      refine gx_iadd dL_law_889 ?_
      refine gx_sld dL_law_890 (fun x179 => ?_)
      refine gx_kload_n 0 dL_law_891 rfl rfl ?_
      refine gx_iload_n 3 dL_law_892 rfl rfl ?_
      refine gx_iconst (2 : Int32) dL_law_893 (by decide) ?_
      refine gx_iadd dL_law_894 ?_
      refine gx_sld dL_law_895 (fun x180 => ?_)
      refine gx_kload_n 0 dL_law_896 rfl rfl ?_
      refine gx_iload_n 3 dL_law_897 rfl rfl ?_
      refine gx_iconst (3 : Int32) dL_law_898 (by decide) ?_
      refine gx_iadd dL_law_899 ?_
      refine gx_sld dL_law_900 (fun x181 => ?_)
      refine gx_kload_n 0 dL_law_901 rfl rfl ?_
      refine gx_iload_n 3 dL_law_902 rfl rfl ?_
      refine gx_iconst (4 : Int32) dL_law_903 (by decide) ?_
      refine gx_iadd dL_law_904 ?_
      refine gx_sld dL_law_905 (fun x182 => ?_)
      refine gx_callV (ci := 9) (bc := 0) (bs := 0) (mc := 0) (ms := 0) (em' := (fun x : Int32 => some (.int x))) [.int x179, .int x180, .int x181, .int x182] kc_RL_105 rfl dL_law_906 rfl rfl (gx_w8 rfl) (fun x q => (gx_isO_of (by unfold fX11_mark at q; exact q)).2) (fun _ _ q => okX11_mark (d + 12) q) (fun x184 h183 => ?_)
      refine gx_icmp_eq 1235 dL_law_909 (by decide) (fun _ => ?_) (fun _ => ?_)
      · exact gx_sub (gL_law_1235 k18 hk18 11 v1 v2 v3 h183) (And.intro rfl (And.intro rfl (And.intro rfl (And.intro rfl True.intro))))
      · refine gx_iconst (0 : Int32) dL_law_912 (by decide) ?_
        exact gx_zret dL_law_913 rfl
    refine gx_ite (fun hx => ?_) (fun hx22 => ?_)
    · refine gx_tabIn (off := 882) 914 dL_law_32 (by rw [hx]; decide) (by rw [hx]; decide) (by rw [hx]; decide) (by decide) ?_
      refine gx_aload_n 1 dL_law_914 rfl rfl ?_
      refine gx_kload_n 0 dL_law_915 rfl rfl ?_
      refine gx_iload_n 3 dL_law_916 rfl rfl ?_
      refine gx_iconst (1 : Int32) dL_law_917 (by decide) ?_
      refine gx_iadd dL_law_918 ?_
      refine gx_sld dL_law_919 (fun x185 => ?_)
      refine gx_callV (ci := 8) (bc := 0) (bs := 0) (mc := 0) (ms := 0) (em' := (fun x : Int32 => some (.int x))) [.int x185] kc_RL_106 rfl dL_law_920 rfl rfl (gx_w8 rfl) (fun x q => (gx_isO_of (by unfold fX10_forget at q; exact q)).2) (fun _ _ q => okX10_forget (d + 13) q) (fun x187 h186 => ?_)
      refine gx_aload_n 2 dL_law_923 rfl rfl ?_
      refine gx_kload_n 0 dL_law_924 rfl rfl ?_
      refine gx_iload_n 3 dL_law_925 rfl rfl ?_
      refine gx_iconst (1 : Int32) dL_law_926 (by decide) ?_
      refine gx_iadd dL_law_927 ?_
      refine gx_sld dL_law_928 (fun x188 => ?_)
      refine gx_callV (ci := 9) (bc := 0) (bs := 0) (mc := 0) (ms := 0) (em' := (fun x : Int32 => some (.int x))) [.int x188] kc_RL_109 rfl dL_law_929 rfl rfl (gx_w8 rfl) (fun x q => (gx_isO_of (by unfold fX11_forget at q; exact q)).2) (fun _ _ q => okX11_forget (d + 13) q) (fun x190 h189 => ?_)
      refine gx_icmp_eq 1235 dL_law_932 (by decide) (fun _ => ?_) (fun _ => ?_)
      · exact gx_sub (gL_law_1235 k18 hk18 11 v1 v2 v3 h189) (And.intro rfl (And.intro rfl (And.intro rfl (And.intro rfl True.intro))))
      · refine gx_iconst (0 : Int32) dL_law_935 (by decide) ?_
        exact gx_zret dL_law_936 rfl
    refine gx_ite (fun hx => ?_) (fun hx23 => ?_)
    · refine gx_tabIn (off := 905) 937 dL_law_32 (by rw [hx]; decide) (by rw [hx]; decide) (by rw [hx]; decide) (by decide) ?_
      refine gx_aload_n 1 dL_law_937 rfl rfl ?_
      refine gx_kload_n 0 dL_law_938 rfl rfl ?_
      refine gx_iload_n 3 dL_law_939 rfl rfl ?_
      refine gx_iconst (1 : Int32) dL_law_940 (by decide) ?_
      refine gx_iadd dL_law_941 ?_
      refine gx_sld dL_law_942 (fun x191 => ?_)
      refine gx_callV (ci := 8) (bc := 0) (bs := 0) (mc := 0) (ms := 0) (em' := (fun x : Int32 => some (.int x))) [.int x191] kc_RL_110 rfl dL_law_943 rfl rfl (gx_w8 rfl) (fun x q => (gx_isO_of (by unfold fX10_is at q; exact q)).2) (fun _ _ q => okX10_is (d + 9) q) (fun x193 h192 => ?_)
      refine gx_aload_n 2 dL_law_946 rfl rfl ?_
      refine gx_kload_n 0 dL_law_947 rfl rfl ?_
      refine gx_iload_n 3 dL_law_948 rfl rfl ?_
      refine gx_iconst (1 : Int32) dL_law_949 (by decide) ?_
      refine gx_iadd dL_law_950 ?_
      refine gx_sld dL_law_951 (fun x194 => ?_)
      refine gx_callV (ci := 9) (bc := 0) (bs := 0) (mc := 0) (ms := 0) (em' := (fun x : Int32 => some (.int x))) [.int x194] kc_RL_113 rfl dL_law_952 rfl rfl (gx_w8 rfl) (fun x q => (gx_isO_of (by unfold fX11_is at q; exact q)).2) (fun _ _ q => okX11_is (d + 10) q) (fun x196 h195 => ?_)
      refine gx_icmp_eq 1235 dL_law_955 (by decide) (fun _ => ?_) (fun _ => ?_)
      · exact gx_sub (gL_law_1235 k18 hk18 11 v1 v2 v3 h195) (And.intro rfl (And.intro rfl (And.intro rfl (And.intro rfl True.intro))))
      · refine gx_iconst (0 : Int32) dL_law_958 (by decide) ?_
        exact gx_zret dL_law_959 rfl
    refine gx_ite (fun hx => ?_) (fun hx24 => ?_)
    · refine gx_tabIn (off := 928) 960 dL_law_32 (by rw [hx]; decide) (by rw [hx]; decide) (by rw [hx]; decide) (by decide) ?_
      refine gx_aload_n 1 dL_law_960 rfl rfl ?_
      refine gx_kload_n 0 dL_law_961 rfl rfl ?_
      refine gx_iload_n 3 dL_law_962 rfl rfl ?_
      refine gx_iconst (1 : Int32) dL_law_963 (by decide) ?_
      refine gx_iadd dL_law_964 ?_
      refine gx_sld dL_law_965 (fun x197 => ?_)
      refine gx_callV (ci := 8) (bc := 0) (bs := 0) (mc := 0) (ms := 0) (em' := (fun x : Int32 => some (.int x))) [.int x197] kc_RL_114 rfl dL_law_966 rfl rfl (gx_w8 rfl) (fun x q => (gx_isO_of (by unfold fX10_look at q; exact q)).2) (fun _ _ q => okX10_look (d + 8) q) (fun x199 h198 => ?_)
      refine gx_aload_n 2 dL_law_969 rfl rfl ?_
      refine gx_kload_n 0 dL_law_970 rfl rfl ?_
      refine gx_iload_n 3 dL_law_971 rfl rfl ?_
      refine gx_iconst (1 : Int32) dL_law_972 (by decide) ?_
      refine gx_iadd dL_law_973 ?_
      refine gx_sld dL_law_974 (fun x200 => ?_)
      refine gx_callV (ci := 9) (bc := 0) (bs := 0) (mc := 0) (ms := 0) (em' := (fun x : Int32 => some (.int x))) [.int x200] kc_RL_117 rfl dL_law_975 rfl rfl (gx_w8 rfl) (fun x q => (gx_isO_of (by unfold fX11_look at q; exact q)).2) (fun _ _ q => okX11_look (d + 10) q) (fun x202 h201 => ?_)
      refine gx_icmp_eq 1235 dL_law_978 (by decide) (fun _ => ?_) (fun _ => ?_)
      · exact gx_sub (gL_law_1235 k18 hk18 11 v1 v2 v3 h201) (And.intro rfl (And.intro rfl (And.intro rfl (And.intro rfl True.intro))))
      · refine gx_iconst (0 : Int32) dL_law_981 (by decide) ?_
        exact gx_zret dL_law_982 rfl
    refine gx_ite (fun hx => ?_) (fun hx25 => ?_)
    · refine gx_tabIn (off := 951) 983 dL_law_32 (by rw [hx]; decide) (by rw [hx]; decide) (by rw [hx]; decide) (by decide) ?_
      refine gx_aload_n 1 dL_law_983 rfl rfl ?_
      refine gx_kload_n 0 dL_law_984 rfl rfl ?_
      refine gx_iload_n 3 dL_law_985 rfl rfl ?_
      refine gx_iconst (1 : Int32) dL_law_986 (by decide) ?_
      refine gx_iadd dL_law_987 ?_
      refine gx_sld dL_law_988 (fun x203 => ?_)
      refine gx_callV (ci := 8) (bc := 0) (bs := 0) (mc := 0) (ms := 0) (em' := (fun x : Int32 => some (.int x))) [.int x203] kc_RL_118 rfl dL_law_989 rfl rfl (gx_w8 rfl) (fun x q => (gx_isO_of (by unfold fX10_kinds at q; exact q)).2) (fun _ _ q => okX10_kinds (d + 10) q) (fun x205 h204 => ?_)
      refine gx_aload_n 2 dL_law_992 rfl rfl ?_
      refine gx_kload_n 0 dL_law_993 rfl rfl ?_
      refine gx_iload_n 3 dL_law_994 rfl rfl ?_
      refine gx_iconst (1 : Int32) dL_law_995 (by decide) ?_
      refine gx_iadd dL_law_996 ?_
      refine gx_sld dL_law_997 (fun x206 => ?_)
      refine gx_callV (ci := 9) (bc := 0) (bs := 0) (mc := 0) (ms := 0) (em' := (fun x : Int32 => some (.int x))) [.int x206] kc_RL_121 rfl dL_law_998 rfl rfl (gx_w8 rfl) (fun x q => (gx_isO_of (by unfold fX11_kinds at q; exact q)).2) (fun _ _ q => okX11_kinds (d + 10) q) (fun x208 h207 => ?_)
      refine gx_icmp_eq 1235 dL_law_1001 (by decide) (fun _ => ?_) (fun _ => ?_)
      · exact gx_sub (gL_law_1235 k18 hk18 11 v1 v2 v3 h207) (And.intro rfl (And.intro rfl (And.intro rfl (And.intro rfl True.intro))))
      · refine gx_iconst (0 : Int32) dL_law_1004 (by decide) ?_
        exact gx_zret dL_law_1005 rfl
    refine gx_ite (fun hx => ?_) (fun hx26 => ?_)
    · refine gx_tabIn (off := 974) 1006 dL_law_32 (by rw [hx]; decide) (by rw [hx]; decide) (by rw [hx]; decide) (by decide) ?_
      refine gx_aload_n 1 dL_law_1006 rfl rfl ?_
      refine gx_kload_n 0 dL_law_1007 rfl rfl ?_
      refine gx_iload_n 3 dL_law_1008 rfl rfl ?_
      refine gx_iconst (1 : Int32) dL_law_1009 (by decide) ?_
      refine gx_iadd dL_law_1010 ?_
      refine gx_sld dL_law_1011 (fun x209 => ?_)
      refine gx_callV (ci := 8) (bc := 0) (bs := 0) (mc := 0) (ms := 0) (em' := (fun x : Int32 => some (.int x))) [.int x209] kc_RL_122 rfl dL_law_1012 rfl rfl (gx_w8 rfl) (fun x q => (gx_isO_of (by unfold fX10_ask at q; exact q)).2) (fun _ _ q => okX10_ask (d + 9) q) (fun x211 h210 => ?_)
      refine gx_aload_n 2 dL_law_1015 rfl rfl ?_
      refine gx_kload_n 0 dL_law_1016 rfl rfl ?_
      refine gx_iload_n 3 dL_law_1017 rfl rfl ?_
      refine gx_iconst (1 : Int32) dL_law_1018 (by decide) ?_
      refine gx_iadd dL_law_1019 ?_
      refine gx_sld dL_law_1020 (fun x212 => ?_)
      refine gx_callV (ci := 9) (bc := 0) (bs := 0) (mc := 0) (ms := 0) (em' := (fun x : Int32 => some (.int x))) [.int x212] kc_RL_125 rfl dL_law_1021 rfl rfl (gx_w8 rfl) (fun x q => (gx_isO_of (by unfold fX11_ask at q; exact q)).2) (fun _ _ q => okX11_ask (d + 10) q) (fun x214 h213 => ?_)
      refine gx_icmp_eq 1235 dL_law_1024 (by decide) (fun _ => ?_) (fun _ => ?_)
      · exact gx_sub (gL_law_1235 k18 hk18 11 v1 v2 v3 h213) (And.intro rfl (And.intro rfl (And.intro rfl (And.intro rfl True.intro))))
      · refine gx_iconst (0 : Int32) dL_law_1027 (by decide) ?_
        exact gx_zret dL_law_1028 rfl
    refine gx_ite (fun hx => ?_) (fun hx27 => ?_)
    · refine gx_tabIn (off := 997) 1029 dL_law_32 (by rw [hx]; decide) (by rw [hx]; decide) (by rw [hx]; decide) (by decide) ?_
      refine gx_aload_n 1 dL_law_1029 rfl rfl ?_
      refine gx_kload_n 0 dL_law_1030 rfl rfl ?_
      refine gx_iload_n 3 dL_law_1031 rfl rfl ?_
      refine gx_iconst (1 : Int32) dL_law_1032 (by decide) ?_
      refine gx_iadd dL_law_1033 ?_
      refine gx_sld dL_law_1034 (fun x215 => ?_)
      refine gx_kload_n 0 dL_law_1035 rfl rfl ?_
      refine gx_iload_n 3 dL_law_1036 rfl rfl ?_
      refine gx_iconst (2 : Int32) dL_law_1037 (by decide) ?_
      refine gx_iadd dL_law_1038 ?_
      refine gx_sld dL_law_1039 (fun x216 => ?_)
      refine gx_kload_n 0 dL_law_1040 rfl rfl ?_
      refine gx_iload_n 3 dL_law_1041 rfl rfl ?_
      refine gx_iconst (3 : Int32) dL_law_1042 (by decide) ?_
      refine gx_iadd dL_law_1043 ?_
      refine gx_sld dL_law_1044 (fun x217 => ?_)
      refine gx_callV (ci := 8) (bc := 0) (bs := 0) (mc := 0) (ms := 0) (em' := (fun x : Int32 => some (.int x))) [.int x215, .int x216, .int x217] kc_RL_126 rfl dL_law_1045 rfl rfl (gx_w8 rfl) (fun x q => (gx_isO_of (by unfold fX10_choice at q; exact q)).2) (fun _ _ q => okX10_choice (d + 8) q) (fun x219 h218 => ?_)
      refine gx_aload_n 2 dL_law_1048 rfl rfl ?_
      refine gx_kload_n 0 dL_law_1049 rfl rfl ?_
      refine gx_iload_n 3 dL_law_1050 rfl rfl ?_
      refine gx_iconst (1 : Int32) dL_law_1051 (by decide) ?_
      refine gx_iadd dL_law_1052 ?_
      refine gx_sld dL_law_1053 (fun x220 => ?_)
      refine gx_kload_n 0 dL_law_1054 rfl rfl ?_
      refine gx_iload_n 3 dL_law_1055 rfl rfl ?_
      refine gx_iconst (2 : Int32) dL_law_1056 (by decide) ?_
      refine gx_iadd dL_law_1057 ?_
      refine gx_sld dL_law_1058 (fun x221 => ?_)
      refine gx_kload_n 0 dL_law_1059 rfl rfl ?_
      refine gx_iload_n 3 dL_law_1060 rfl rfl ?_
      refine gx_iconst (3 : Int32) dL_law_1061 (by decide) ?_
      refine gx_iadd dL_law_1062 ?_
      refine gx_sld dL_law_1063 (fun x222 => ?_)
      refine gx_callV (ci := 9) (bc := 0) (bs := 0) (mc := 0) (ms := 0) (em' := (fun x : Int32 => some (.int x))) [.int x220, .int x221, .int x222] kc_RL_129 rfl dL_law_1064 rfl rfl (gx_w8 rfl) (fun x q => (gx_isO_of (by unfold fX11_choice at q; exact q)).2) (fun _ _ q => okX11_choice (d + 8) q) (fun x224 h223 => ?_)
      refine gx_icmp_eq 1235 dL_law_1067 (by decide) (fun _ => ?_) (fun _ => ?_)
      · exact gx_sub (gL_law_1235 k18 hk18 11 v1 v2 v3 h223) (And.intro rfl (And.intro rfl (And.intro rfl (And.intro rfl True.intro))))
      · refine gx_iconst (0 : Int32) dL_law_1070 (by decide) ?_
        exact gx_zret dL_law_1071 rfl
    refine gx_ite (fun hx => ?_) (fun hx28 => ?_)
    · refine gx_tabIn (off := 1040) 1072 dL_law_32 (by rw [hx]; decide) (by rw [hx]; decide) (by rw [hx]; decide) (by decide) ?_
      refine gx_aload_n 1 dL_law_1072 rfl rfl ?_
      refine gx_kload_n 0 dL_law_1073 rfl rfl ?_
      refine gx_iload_n 3 dL_law_1074 rfl rfl ?_
      refine gx_iconst (1 : Int32) dL_law_1075 (by decide) ?_
      refine gx_iadd dL_law_1076 ?_
      refine gx_sld dL_law_1077 (fun x225 => ?_)
      refine gx_kload_n 0 dL_law_1078 rfl rfl ?_
      refine gx_iload_n 3 dL_law_1079 rfl rfl ?_
      refine gx_iconst (2 : Int32) dL_law_1080 (by decide) ?_
      refine gx_iadd dL_law_1081 ?_
      refine gx_sld dL_law_1082 (fun x226 => ?_)
      refine gx_callV (ci := 8) (bc := 0) (bs := 0) (mc := 0) (ms := 0) (em' := (fun x : Int32 => some (.int x))) [.int x225, .int x226] kc_RL_130 rfl dL_law_1083 rfl rfl (gx_w8 rfl) (fun x q => (gx_isO_of (by unfold fX10_evenings at q; exact q)).2) (fun _ _ q => okX10_evenings (d + 8) q) (fun x228 h227 => ?_)
      refine gx_aload_n 2 dL_law_1086 rfl rfl ?_
      refine gx_kload_n 0 dL_law_1087 rfl rfl ?_
      refine gx_iload_n 3 dL_law_1088 rfl rfl ?_
      refine gx_iconst (1 : Int32) dL_law_1089 (by decide) ?_
      refine gx_iadd dL_law_1090 ?_
      refine gx_sld dL_law_1091 (fun x229 => ?_)
      refine gx_kload_n 0 dL_law_1092 rfl rfl ?_
      refine gx_iload_n 3 dL_law_1093 rfl rfl ?_
      refine gx_iconst (2 : Int32) dL_law_1094 (by decide) ?_
      refine gx_iadd dL_law_1095 ?_
      refine gx_sld dL_law_1096 (fun x230 => ?_)
      refine gx_callV (ci := 9) (bc := 0) (bs := 0) (mc := 0) (ms := 0) (em' := (fun x : Int32 => some (.int x))) [.int x229, .int x230] kc_RL_133 rfl dL_law_1097 rfl rfl (gx_w8 rfl) (fun x q => (gx_isO_of (by unfold fX11_evenings at q; exact q)).2) (fun _ _ q => okX11_evenings (d + 9) q) (fun x232 h231 => ?_)
      refine gx_icmp_eq 1235 dL_law_1100 (by decide) (fun _ => ?_) (fun _ => ?_)
      · exact gx_sub (gL_law_1235 k18 hk18 11 v1 v2 v3 h231) (And.intro rfl (And.intro rfl (And.intro rfl (And.intro rfl True.intro))))
      · refine gx_iconst (0 : Int32) dL_law_1103 (by decide) ?_
        exact gx_zret dL_law_1104 rfl
    refine gx_ite (fun hx => ?_) (fun hx29 => ?_)
    · refine gx_tabIn (off := 1073) 1105 dL_law_32 (by rw [hx]; decide) (by rw [hx]; decide) (by rw [hx]; decide) (by decide) ?_
      refine gx_aload_n 1 dL_law_1105 rfl rfl ?_
      refine gx_kload_n 0 dL_law_1106 rfl rfl ?_
      refine gx_iload_n 3 dL_law_1107 rfl rfl ?_
      refine gx_iconst (1 : Int32) dL_law_1108 (by decide) ?_
      refine gx_iadd dL_law_1109 ?_
      refine gx_sld dL_law_1110 (fun x233 => ?_)
      refine gx_callV (ci := 8) (bc := 0) (bs := 0) (mc := 0) (ms := 0) (em' := (fun x : Int64 => some (.long x))) [.int x233] kc_RL_134 rfl dL_law_1111 rfl rfl (gx_w8 rfl) (fun x q => (gx_isO_of (by unfold fX10_part at q; exact q)).2) (fun _ _ q => okX10_part (d + 13) q) (fun y235 h234 => ?_)
      refine gx_aload_n 2 dL_law_1114 rfl rfl ?_
      refine gx_kload_n 0 dL_law_1115 rfl rfl ?_
      refine gx_iload_n 3 dL_law_1116 rfl rfl ?_
      refine gx_iconst (1 : Int32) dL_law_1117 (by decide) ?_
      refine gx_iadd dL_law_1118 ?_
      refine gx_sld dL_law_1119 (fun x236 => ?_)
      refine gx_callV (ci := 9) (bc := 0) (bs := 0) (mc := 0) (ms := 0) (em' := (fun x : Int64 => some (.long x))) [.int x236] kc_RL_138 rfl dL_law_1120 rfl rfl (gx_w8 rfl) (fun x q => (gx_isO_of (by unfold fX11_part at q; exact q)).2) (fun _ _ q => okX11_part (d + 13) q) (fun y238 h237 => ?_)
      refine gx_lcmp dL_law_1123 ?_
      refine gx_if_eq 1235 dL_law_1124 (by decide) (fun _ => ?_) (fun _ => ?_)
      · exact gx_sub (gL_law_1235 k18 hk18 11 v1 v2 v3 h237) (And.intro rfl (And.intro rfl (And.intro rfl (And.intro rfl True.intro))))
      · refine gx_iconst (0 : Int32) dL_law_1127 (by decide) ?_
        exact gx_zret dL_law_1128 rfl
    refine gx_ite (fun hx => ?_) (fun hx30 => ?_)
    · refine gx_tabIn (off := 1097) 1129 dL_law_32 (by rw [hx]; decide) (by rw [hx]; decide) (by rw [hx]; decide) (by decide) ?_
      refine gx_aload_n 1 dL_law_1129 rfl rfl ?_
      refine gx_kload_n 0 dL_law_1130 rfl rfl ?_
      refine gx_iload_n 3 dL_law_1131 rfl rfl ?_
      refine gx_iconst (1 : Int32) dL_law_1132 (by decide) ?_
      refine gx_iadd dL_law_1133 ?_
      refine gx_sld dL_law_1134 (fun x239 => ?_)
      refine gx_callV (ci := 8) (bc := 0) (bs := 0) (mc := 0) (ms := 0) (em' := (fun x : Int32 => some (.int x))) [.int x239] kc_RL_139 rfl dL_law_1135 rfl rfl (gx_w8 rfl) (fun x q => (gx_isO_of (by unfold fX10_image at q; exact q)).2) (fun _ _ q => okX10_image (d + 11) q) (fun x241 h240 => ?_)
      refine gx_aload_n 2 dL_law_1138 rfl rfl ?_
      refine gx_kload_n 0 dL_law_1139 rfl rfl ?_
      refine gx_iload_n 3 dL_law_1140 rfl rfl ?_
      refine gx_iconst (1 : Int32) dL_law_1141 (by decide) ?_
      refine gx_iadd dL_law_1142 ?_
      refine gx_sld dL_law_1143 (fun x242 => ?_)
      refine gx_callV (ci := 9) (bc := 0) (bs := 0) (mc := 0) (ms := 0) (em' := (fun x : Int32 => some (.int x))) [.int x242] kc_RL_142 rfl dL_law_1144 rfl rfl (gx_w8 rfl) (fun x q => (gx_isO_of (by unfold fX11_image at q; exact q)).2) (fun _ _ q => okX11_image (d + 13) q) (fun x244 h243 => ?_)
      refine gx_icmp_eq 1235 dL_law_1147 (by decide) (fun _ => ?_) (fun _ => ?_)
      · exact gx_sub (gL_law_1235 k18 hk18 11 v1 v2 v3 h243) (And.intro rfl (And.intro rfl (And.intro rfl (And.intro rfl True.intro))))
      · refine gx_iconst (0 : Int32) dL_law_1150 (by decide) ?_
        exact gx_zret dL_law_1151 rfl
    refine gx_ite (fun hx => ?_) (fun hx31 => ?_)
    · refine gx_tabIn (off := 1120) 1152 dL_law_32 (by rw [hx]; decide) (by rw [hx]; decide) (by rw [hx]; decide) (by decide) ?_
      refine gx_aload_n 1 dL_law_1152 rfl rfl ?_
      refine gx_kload_n 0 dL_law_1153 rfl rfl ?_
      refine gx_iload_n 3 dL_law_1154 rfl rfl ?_
      refine gx_iconst (1 : Int32) dL_law_1155 (by decide) ?_
      refine gx_iadd dL_law_1156 ?_
      refine gx_sld dL_law_1157 (fun x245 => ?_)
      refine gx_callV (ci := 8) (bc := 0) (bs := 0) (mc := 0) (ms := 0) (em' := (fun x : Int32 => some (.int x))) [.int x245] kc_RL_143 rfl dL_law_1158 rfl rfl (gx_w8 rfl) (fun x q => (gx_isO_of (by unfold fX10_from at q; exact q)).2) (fun _ _ q => okX10_from (d + 11) q) (fun x247 h246 => ?_)
      refine gx_aload_n 2 dL_law_1161 rfl rfl ?_
      refine gx_kload_n 0 dL_law_1162 rfl rfl ?_
      refine gx_iload_n 3 dL_law_1163 rfl rfl ?_
      refine gx_iconst (1 : Int32) dL_law_1164 (by decide) ?_
      refine gx_iadd dL_law_1165 ?_
      refine gx_sld dL_law_1166 (fun x248 => ?_)
      refine gx_callV (ci := 9) (bc := 0) (bs := 0) (mc := 0) (ms := 0) (em' := (fun x : Int32 => some (.int x))) [.int x248] kc_RL_146 rfl dL_law_1167 rfl rfl (gx_w8 rfl) (fun x q => (gx_isO_of (by unfold fX11_from at q; exact q)).2) (fun _ _ q => okX11_from (d + 13) q) (fun x250 h249 => ?_)
      refine gx_icmp_eq 1235 dL_law_1170 (by decide) (fun _ => ?_) (fun _ => ?_)
      · exact gx_sub (gL_law_1235 k18 hk18 11 v1 v2 v3 h249) (And.intro rfl (And.intro rfl (And.intro rfl (And.intro rfl True.intro))))
      · refine gx_iconst (0 : Int32) dL_law_1173 (by decide) ?_
        exact gx_zret dL_law_1174 rfl
    refine gx_ite (fun hx => ?_) (fun hx32 => ?_)
    · refine gx_tabIn (off := 1143) 1175 dL_law_32 (by rw [hx]; decide) (by rw [hx]; decide) (by rw [hx]; decide) (by decide) ?_
      refine gx_aload_n 1 dL_law_1175 rfl rfl ?_
      refine gx_kload_n 0 dL_law_1176 rfl rfl ?_
      refine gx_iload_n 3 dL_law_1177 rfl rfl ?_
      refine gx_iconst (1 : Int32) dL_law_1178 (by decide) ?_
      refine gx_iadd dL_law_1179 ?_
      refine gx_sld dL_law_1180 (fun x251 => ?_)
      refine gx_callV (ci := 8) (bc := 0) (bs := 0) (mc := 0) (ms := 0) (em' := (fun x : Int32 => some (.int x))) [.int x251] kc_RL_147 rfl dL_law_1181 rfl rfl (gx_w8 rfl) (fun x q => (gx_isO_of (by unfold fX10_status at q; exact q)).2) (fun _ _ q => okX10_status (d + 13) q) (fun x253 h252 => ?_)
      refine gx_aload_n 2 dL_law_1184 rfl rfl ?_
      refine gx_kload_n 0 dL_law_1185 rfl rfl ?_
      refine gx_iload_n 3 dL_law_1186 rfl rfl ?_
      refine gx_iconst (1 : Int32) dL_law_1187 (by decide) ?_
      refine gx_iadd dL_law_1188 ?_
      refine gx_sld dL_law_1189 (fun x254 => ?_)
      refine gx_callV (ci := 9) (bc := 0) (bs := 0) (mc := 0) (ms := 0) (em' := (fun x : Int32 => some (.int x))) [.int x254] kc_RL_150 rfl dL_law_1190 rfl rfl (gx_w8 rfl) (fun x q => (gx_isO_of (by unfold fX11_status at q; exact q)).2) (fun _ _ q => okX11_status (d + 13) q) (fun x256 h255 => ?_)
      refine gx_icmp_eq 1235 dL_law_1193 (by decide) (fun _ => ?_) (fun _ => ?_)
      · exact gx_sub (gL_law_1235 k18 hk18 11 v1 v2 v3 h255) (And.intro rfl (And.intro rfl (And.intro rfl (And.intro rfl True.intro))))
      · refine gx_iconst (0 : Int32) dL_law_1196 (by decide) ?_
        exact gx_zret dL_law_1197 rfl
    refine gx_ite (fun hx => ?_) (fun hx33 => ?_)
    · refine gx_tabIn (off := 1166) 1198 dL_law_32 (by rw [hx]; decide) (by rw [hx]; decide) (by rw [hx]; decide) (by decide) ?_
      refine gx_aload_n 1 dL_law_1198 rfl rfl ?_
      refine gx_kload_n 0 dL_law_1199 rfl rfl ?_
      refine gx_iload_n 3 dL_law_1200 rfl rfl ?_
      refine gx_iconst (1 : Int32) dL_law_1201 (by decide) ?_
      refine gx_iadd dL_law_1202 ?_
      refine gx_sld dL_law_1203 (fun x257 => ?_)
      refine gx_callV (ci := 8) (bc := 0) (bs := 0) (mc := 0) (ms := 0) (em' := (fun x : Int32 => some (.int x))) [.int x257] kc_RL_151 rfl dL_law_1204 rfl rfl (gx_w8 rfl) (fun x q => (gx_isO_of (by unfold fX10_count at q; exact q)).2) (fun _ _ q => okX10_count (d + 11) q) (fun x259 h258 => ?_)
      refine gx_aload_n 2 dL_law_1207 rfl rfl ?_
      refine gx_kload_n 0 dL_law_1208 rfl rfl ?_
      refine gx_iload_n 3 dL_law_1209 rfl rfl ?_
      refine gx_iconst (1 : Int32) dL_law_1210 (by decide) ?_
      refine gx_iadd dL_law_1211 ?_
      refine gx_sld dL_law_1212 (fun x260 => ?_)
      refine gx_callV (ci := 9) (bc := 0) (bs := 0) (mc := 0) (ms := 0) (em' := (fun x : Int32 => some (.int x))) [.int x260] kc_RL_154 rfl dL_law_1213 rfl rfl (gx_w8 rfl) (fun x q => (gx_isO_of (by unfold fX11_count at q; exact q)).2) (fun _ _ q => okX11_count (d + 11) q) (fun x262 h261 => ?_)
      refine gx_icmp_eq 1235 dL_law_1216 (by decide) (fun _ => ?_) (fun _ => ?_)
      · exact gx_sub (gL_law_1235 k18 hk18 11 v1 v2 v3 h261) (And.intro rfl (And.intro rfl (And.intro rfl (And.intro rfl True.intro))))
      · refine gx_iconst (0 : Int32) dL_law_1219 (by decide) ?_
        exact gx_zret dL_law_1220 rfl
    refine gx_ite (fun hx => ?_) (fun hx34 => ?_)
    · refine gx_tabIn (off := 1189) 1221 dL_law_32 (by rw [hx]; decide) (by rw [hx]; decide) (by rw [hx]; decide) (by decide) ?_
      refine gx_aload_n 1 dL_law_1221 rfl rfl ?_
      refine gx_callV (ci := 8) (bc := 0) (bs := 0) (mc := 0) (ms := 0) (em' := (fun x : Int64 => some (.long x))) [] kc_RL_155 rfl dL_law_1222 rfl rfl (gx_w8 rfl) (fun x q => (gx_isO_of (by unfold fX10_digest at q; exact q)).2) (fun _ _ q => okX10_digest (d + 11) q) (fun y264 h263 => ?_)
      refine gx_aload_n 2 dL_law_1225 rfl rfl ?_
      refine gx_callV (ci := 9) (bc := 0) (bs := 0) (mc := 0) (ms := 0) (em' := (fun x : Int64 => some (.long x))) [] kc_RL_159 rfl dL_law_1226 rfl rfl (gx_w8 rfl) (fun x q => (gx_isO_of (by unfold fX11_digest at q; exact q)).2) (fun _ _ q => okX11_digest (d + 11) q) (fun y266 h265 => ?_)
      refine gx_lcmp dL_law_1229 ?_
      refine gx_if_eq 1235 dL_law_1230 (by decide) (fun _ => ?_) (fun _ => ?_)
      · exact gx_sub (gL_law_1235 k18 hk18 11 v1 v2 v3 h265) (And.intro rfl (And.intro rfl (And.intro rfl (And.intro rfl True.intro))))
      · refine gx_iconst (0 : Int32) dL_law_1233 (by decide) ?_
        exact gx_zret dL_law_1234 rfl
    refine gx_tabOut 1235 dL_law_32 (by have q0 := lv_neT hx0 (a := 0) (by decide); have q1 := lv_neT hx1 (a := 1) (by decide); have q2 := lv_neT hx2 (a := 2) (by decide); have q3 := lv_neT hx3 (a := 3) (by decide); have q4 := lv_neT hx4 (a := 4) (by decide); have q5 := lv_neT hx5 (a := 5) (by decide); have q6 := lv_neT hx6 (a := 6) (by decide); have q7 := lv_neT hx7 (a := 7) (by decide); have q8 := lv_neT hx8 (a := 8) (by decide); have q9 := lv_neT hx9 (a := 9) (by decide); have q10 := lv_neT hx10 (a := 10) (by decide); have q11 := lv_neT hx11 (a := 11) (by decide); have q12 := lv_neT hx12 (a := 12) (by decide); have q13 := lv_neT hx13 (a := 13) (by decide); have q14 := lv_neT hx14 (a := 14) (by decide); have q15 := lv_neT hx15 (a := 15) (by decide); have q16 := lv_neT hx16 (a := 16) (by decide); have q17 := lv_neT hx17 (a := 17) (by decide); have q18 := lv_neT hx18 (a := 18) (by decide); have q19 := lv_neT hx19 (a := 19) (by decide); have q20 := lv_neT hx20 (a := 20) (by decide); have q21 := lv_neT hx21 (a := 21) (by decide); have q22 := lv_neT hx22 (a := 22) (by decide); have q23 := lv_neT hx23 (a := 23) (by decide); have q24 := lv_neT hx24 (a := 24) (by decide); have q25 := lv_neT hx25 (a := 25) (by decide); have q26 := lv_neT hx26 (a := 26) (by decide); have q27 := lv_neT hx27 (a := 27) (by decide); have q28 := lv_neT hx28 (a := 28) (by decide); have q29 := lv_neT hx29 (a := 29) (by decide); have q30 := lv_neT hx30 (a := 30) (by decide); have q31 := lv_neT hx31 (a := 31) (by decide); have q32 := lv_neT hx32 (a := 32) (by decide); have q33 := lv_neT hx33 (a := 33) (by decide); have q34 := lv_neT hx34 (a := 34) (by decide); omega) (by decide) ?_
    exact gx_sub (gL_law_1235 k18 hk18 11 v1 v2 v3 h) (And.intro rfl (And.intro rfl (And.intro rfl (And.intro rfl True.intro))))
set_option maxRecDepth 100000 in
set_option maxHeartbeats 4000000 in
theorem gL_law_18 {E : gx_Env} {d : Nat}  : ∀ (n : Nat) (v0 : Nat) (v1 : Nat) (v2 : Nat) (v3 : Int32) (h : gx_H), gx_G E RL cL_law 4 (some .boolean) false (d + 15) 0 0 18 [some (.retAddr 11), some (.ref v1), some (.ref v2), some (.int v3)] [] h (fun x : Int32 => some (.int x)) (fL_law_18 E n v0 v1 v2 v3 h) := by
  intro n
  induction n with
  | zero => intro v0 v1 v2 v3 h; exact gx_none
  | succ n ih => exact gbL_law_18  (fL_law_18 E n) ih
set_option maxRecDepth 100000 in
set_option maxHeartbeats 4000000 in
theorem geL_law {E : gx_Env} {d : Nat} (h : gx_H) : gx_G E RL cL_law 4 (some .boolean) false (d + 15) 137 2116 0 [some (.retAddr 11), none, none, none] [] h (fun x : Int32 => some (.int x)) (fL_law E h) := by
  unfold fL_law
  refine gx_newO (bc := 136) (bs := 2105) kn_RL_7 rfl dL_law_0 ?_
  refine gx_letG ?_
  generalize (gx_new (.inr (8, [.null, .null, .null, .null, .null, .null, .long 0, .long 0, .int 0, .int 0, .int 0])) h) = h1
  refine gx_dup dL_law_3 rfl ?_
  refine gx_callI (bc := 8) (bs := 1160) (mc := 128) (ms := 945) (em' := (fun _ : Unit => none)) [] kc_RL_9 dL_law_4 rfl rfl (gx_w8 rfl) (fun _ _ q => okX10_init (d + 9) q) (fun u3 h2 => ?_)
  refine gx_astore_n 1 [some (.retAddr 11), some (.ref h.1), none, none] dL_law_7 rfl (by decide) rfl ?_
  refine gx_newO (bc := 7) (bs := 1146) kn_RL_10 rfl dL_law_8 ?_
  refine gx_letG ?_
  generalize (gx_new (.inr (9, [.null, .null, .null, .int 0, .long 0, .long 0, .null, .int 0, .int 0, .int 0, .null, .null, .null, .long 0])) h2) = h4
  refine gx_dup dL_law_11 rfl ?_
  refine gx_callI (bc := 0) (bs := 0) (mc := 7) (ms := 1146) (em' := (fun _ : Unit => none)) [] kc_RL_12 dL_law_12 rfl rfl (gx_w8 rfl) (fun _ _ q => okX11_init (d + 13) q) (fun u6 h5 => ?_)
  refine gx_astore_n 2 [some (.retAddr 11), some (.ref h.1), some (.ref h2.1), none] dL_law_15 rfl (by decide) rfl ?_
  refine gx_iconst (0 : Int32) dL_law_16 (by decide) ?_
  refine gx_istore_n 3 [some (.retAddr 11), some (.ref h.1), some (.ref h2.1), some (.int (0 : Int32))] dL_law_17 rfl (by decide) rfl ?_
  exact gx_sub (gL_law_18 gx_N 11 h.1 h2.1 (0 : Int32) h5) (And.intro rfl (And.intro rfl (And.intro rfl (And.intro rfl True.intro))))
