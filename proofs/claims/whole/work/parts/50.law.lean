theorem d_law_0 : decode code 0 = .ok (.new 7, 3) := by decide +kernel
theorem d_law_3 : decode code 3 = .ok (.dup, 1) := by decide +kernel
theorem d_law_4 : decode code 4 = .ok (.invokespecial 9, 3) := by decide +kernel
theorem d_law_7 : decode code 7 = .ok (.astore_n 1, 1) := by decide +kernel
theorem d_law_8 : decode code 8 = .ok (.new 10, 3) := by decide +kernel
theorem d_law_11 : decode code 11 = .ok (.dup, 1) := by decide +kernel
theorem d_law_12 : decode code 12 = .ok (.invokespecial 12, 3) := by decide +kernel
theorem d_law_15 : decode code 15 = .ok (.astore_n 2, 1) := by decide +kernel
theorem d_law_16 : decode code 16 = .ok (.iconst 0, 1) := by decide +kernel
theorem d_law_17 : decode code 17 = .ok (.istore_n 3, 1) := by decide +kernel
theorem d_law_18 : decode code 18 = .ok (.iload_n 3, 1) := by decide +kernel
theorem d_law_19 : decode code 19 = .ok (.aload_n 0, 1) := by decide +kernel
theorem d_law_20 : decode code 20 = .ok (.arraylength, 1) := by decide +kernel
theorem d_law_21 : decode code 21 = .ok (.bipush 6, 2) := by decide +kernel
theorem d_law_23 : decode code 23 = .ok (.isub, 1) := by decide +kernel
theorem d_law_24 : decode code 24 = .ok (.if_icmp .gt 1129, 3) := by decide +kernel
theorem d_law_27 : decode code 27 = .ok (.aload_n 0, 1) := by decide +kernel
theorem d_law_28 : decode code 28 = .ok (.iload_n 3, 1) := by decide +kernel
theorem d_law_29 : decode code 29 = .ok (.iaload, 1) := by decide +kernel
theorem d_law_30 : decode code 30 = .ok (.bipush 31, 2) := by decide +kernel
theorem d_law_32 : decode code 32 = .ok (.iand, 1) := by decide +kernel
theorem d_law_33 : decode code 33 = .ok (.tableswitch 1114 0 28 #[131, 194, 207, 240, 273, 296, 319, 342, 355, 378, 401, 424, 447, 470, 523, 586, 619, 662, 705, 738, 797, 840, 863, 906, 949, 992, 1035, 1068, 1091], 131) := by decide +kernel
theorem d_law_164 : decode code 164 = .ok (.aload_n 1, 1) := by decide +kernel
theorem d_law_165 : decode code 165 = .ok (.aload_n 0, 1) := by decide +kernel
theorem d_law_166 : decode code 166 = .ok (.iload_n 3, 1) := by decide +kernel
theorem d_law_167 : decode code 167 = .ok (.iconst 1, 1) := by decide +kernel
theorem d_law_168 : decode code 168 = .ok (.iadd, 1) := by decide +kernel
theorem d_law_169 : decode code 169 = .ok (.iaload, 1) := by decide +kernel
theorem d_law_170 : decode code 170 = .ok (.aload_n 0, 1) := by decide +kernel
theorem d_law_171 : decode code 171 = .ok (.iload_n 3, 1) := by decide +kernel
theorem d_law_172 : decode code 172 = .ok (.iconst 2, 1) := by decide +kernel
theorem d_law_173 : decode code 173 = .ok (.iadd, 1) := by decide +kernel
theorem d_law_174 : decode code 174 = .ok (.iaload, 1) := by decide +kernel
theorem d_law_175 : decode code 175 = .ok (.i2l, 1) := by decide +kernel
theorem d_law_176 : decode code 176 = .ok (.bipush 32, 2) := by decide +kernel
theorem d_law_178 : decode code 178 = .ok (.lshl, 1) := by decide +kernel
theorem d_law_179 : decode code 179 = .ok (.aload_n 0, 1) := by decide +kernel
theorem d_law_180 : decode code 180 = .ok (.iload_n 3, 1) := by decide +kernel
theorem d_law_181 : decode code 181 = .ok (.iconst 3, 1) := by decide +kernel
theorem d_law_182 : decode code 182 = .ok (.iadd, 1) := by decide +kernel
theorem d_law_183 : decode code 183 = .ok (.iaload, 1) := by decide +kernel
theorem d_law_184 : decode code 184 = .ok (.i2l, 1) := by decide +kernel
theorem d_law_185 : decode code 185 = .ok (.ldc2_w 13, 3) := by decide +kernel
theorem d_law_188 : decode code 188 = .ok (.land, 1) := by decide +kernel
theorem d_law_189 : decode code 189 = .ok (.lor, 1) := by decide +kernel
theorem d_law_190 : decode code 190 = .ok (.invokevirtual 15, 3) := by decide +kernel
theorem d_law_193 : decode code 193 = .ok (.aload_n 2, 1) := by decide +kernel
theorem d_law_194 : decode code 194 = .ok (.aload_n 0, 1) := by decide +kernel
theorem d_law_195 : decode code 195 = .ok (.iload_n 3, 1) := by decide +kernel
theorem d_law_196 : decode code 196 = .ok (.iconst 1, 1) := by decide +kernel
theorem d_law_197 : decode code 197 = .ok (.iadd, 1) := by decide +kernel
theorem d_law_198 : decode code 198 = .ok (.iaload, 1) := by decide +kernel
theorem d_law_199 : decode code 199 = .ok (.aload_n 0, 1) := by decide +kernel
theorem d_law_200 : decode code 200 = .ok (.iload_n 3, 1) := by decide +kernel
theorem d_law_201 : decode code 201 = .ok (.iconst 2, 1) := by decide +kernel
theorem d_law_202 : decode code 202 = .ok (.iadd, 1) := by decide +kernel
theorem d_law_203 : decode code 203 = .ok (.iaload, 1) := by decide +kernel
theorem d_law_204 : decode code 204 = .ok (.i2l, 1) := by decide +kernel
theorem d_law_205 : decode code 205 = .ok (.bipush 32, 2) := by decide +kernel
theorem d_law_207 : decode code 207 = .ok (.lshl, 1) := by decide +kernel
theorem d_law_208 : decode code 208 = .ok (.aload_n 0, 1) := by decide +kernel
theorem d_law_209 : decode code 209 = .ok (.iload_n 3, 1) := by decide +kernel
theorem d_law_210 : decode code 210 = .ok (.iconst 3, 1) := by decide +kernel
theorem d_law_211 : decode code 211 = .ok (.iadd, 1) := by decide +kernel
theorem d_law_212 : decode code 212 = .ok (.iaload, 1) := by decide +kernel
theorem d_law_213 : decode code 213 = .ok (.i2l, 1) := by decide +kernel
theorem d_law_214 : decode code 214 = .ok (.ldc2_w 13, 3) := by decide +kernel
theorem d_law_217 : decode code 217 = .ok (.land, 1) := by decide +kernel
theorem d_law_218 : decode code 218 = .ok (.lor, 1) := by decide +kernel
theorem d_law_219 : decode code 219 = .ok (.invokevirtual 19, 3) := by decide +kernel
theorem d_law_222 : decode code 222 = .ok (.if_icmp .eq 925, 3) := by decide +kernel
theorem d_law_225 : decode code 225 = .ok (.iconst 0, 1) := by decide +kernel
theorem d_law_226 : decode code 226 = .ok (.ireturn, 1) := by decide +kernel
theorem d_law_227 : decode code 227 = .ok (.aload_n 1, 1) := by decide +kernel
theorem d_law_228 : decode code 228 = .ok (.invokevirtual 20, 3) := by decide +kernel
theorem d_law_231 : decode code 231 = .ok (.aload_n 2, 1) := by decide +kernel
theorem d_law_232 : decode code 232 = .ok (.invokevirtual 24, 3) := by decide +kernel
theorem d_law_235 : decode code 235 = .ok (.if_icmp .eq 912, 3) := by decide +kernel
theorem d_law_238 : decode code 238 = .ok (.iconst 0, 1) := by decide +kernel
theorem d_law_239 : decode code 239 = .ok (.ireturn, 1) := by decide +kernel
theorem d_law_240 : decode code 240 = .ok (.aload_n 1, 1) := by decide +kernel
theorem d_law_241 : decode code 241 = .ok (.aload_n 0, 1) := by decide +kernel
theorem d_law_242 : decode code 242 = .ok (.iload_n 3, 1) := by decide +kernel
theorem d_law_243 : decode code 243 = .ok (.iconst 1, 1) := by decide +kernel
theorem d_law_244 : decode code 244 = .ok (.iadd, 1) := by decide +kernel
theorem d_law_245 : decode code 245 = .ok (.iaload, 1) := by decide +kernel
theorem d_law_246 : decode code 246 = .ok (.aload_n 0, 1) := by decide +kernel
theorem d_law_247 : decode code 247 = .ok (.iload_n 3, 1) := by decide +kernel
theorem d_law_248 : decode code 248 = .ok (.iconst 2, 1) := by decide +kernel
theorem d_law_249 : decode code 249 = .ok (.iadd, 1) := by decide +kernel
theorem d_law_250 : decode code 250 = .ok (.iaload, 1) := by decide +kernel
theorem d_law_251 : decode code 251 = .ok (.invokevirtual 25, 3) := by decide +kernel
theorem d_law_254 : decode code 254 = .ok (.aload_n 2, 1) := by decide +kernel
theorem d_law_255 : decode code 255 = .ok (.aload_n 0, 1) := by decide +kernel
theorem d_law_256 : decode code 256 = .ok (.iload_n 3, 1) := by decide +kernel
theorem d_law_257 : decode code 257 = .ok (.iconst 1, 1) := by decide +kernel
theorem d_law_258 : decode code 258 = .ok (.iadd, 1) := by decide +kernel
theorem d_law_259 : decode code 259 = .ok (.iaload, 1) := by decide +kernel
theorem d_law_260 : decode code 260 = .ok (.aload_n 0, 1) := by decide +kernel
theorem d_law_261 : decode code 261 = .ok (.iload_n 3, 1) := by decide +kernel
theorem d_law_262 : decode code 262 = .ok (.iconst 2, 1) := by decide +kernel
theorem d_law_263 : decode code 263 = .ok (.iadd, 1) := by decide +kernel
theorem d_law_264 : decode code 264 = .ok (.iaload, 1) := by decide +kernel
theorem d_law_265 : decode code 265 = .ok (.invokevirtual 29, 3) := by decide +kernel
theorem d_law_268 : decode code 268 = .ok (.if_icmp .eq 879, 3) := by decide +kernel
theorem d_law_271 : decode code 271 = .ok (.iconst 0, 1) := by decide +kernel
theorem d_law_272 : decode code 272 = .ok (.ireturn, 1) := by decide +kernel
theorem d_law_273 : decode code 273 = .ok (.aload_n 1, 1) := by decide +kernel
theorem d_law_274 : decode code 274 = .ok (.aload_n 0, 1) := by decide +kernel
theorem d_law_275 : decode code 275 = .ok (.iload_n 3, 1) := by decide +kernel
theorem d_law_276 : decode code 276 = .ok (.iconst 1, 1) := by decide +kernel
theorem d_law_277 : decode code 277 = .ok (.iadd, 1) := by decide +kernel
theorem d_law_278 : decode code 278 = .ok (.iaload, 1) := by decide +kernel
theorem d_law_279 : decode code 279 = .ok (.aload_n 0, 1) := by decide +kernel
theorem d_law_280 : decode code 280 = .ok (.iload_n 3, 1) := by decide +kernel
theorem d_law_281 : decode code 281 = .ok (.iconst 2, 1) := by decide +kernel
theorem d_law_282 : decode code 282 = .ok (.iadd, 1) := by decide +kernel
theorem d_law_283 : decode code 283 = .ok (.iaload, 1) := by decide +kernel
theorem d_law_284 : decode code 284 = .ok (.invokevirtual 30, 3) := by decide +kernel
theorem d_law_287 : decode code 287 = .ok (.aload_n 2, 1) := by decide +kernel
theorem d_law_288 : decode code 288 = .ok (.aload_n 0, 1) := by decide +kernel
theorem d_law_289 : decode code 289 = .ok (.iload_n 3, 1) := by decide +kernel
theorem d_law_290 : decode code 290 = .ok (.iconst 1, 1) := by decide +kernel
theorem d_law_291 : decode code 291 = .ok (.iadd, 1) := by decide +kernel
theorem d_law_292 : decode code 292 = .ok (.iaload, 1) := by decide +kernel
theorem d_law_293 : decode code 293 = .ok (.aload_n 0, 1) := by decide +kernel
theorem d_law_294 : decode code 294 = .ok (.iload_n 3, 1) := by decide +kernel
theorem d_law_295 : decode code 295 = .ok (.iconst 2, 1) := by decide +kernel
theorem d_law_296 : decode code 296 = .ok (.iadd, 1) := by decide +kernel
theorem d_law_297 : decode code 297 = .ok (.iaload, 1) := by decide +kernel
theorem d_law_298 : decode code 298 = .ok (.invokevirtual 33, 3) := by decide +kernel
theorem d_law_301 : decode code 301 = .ok (.if_icmp .eq 846, 3) := by decide +kernel
theorem d_law_304 : decode code 304 = .ok (.iconst 0, 1) := by decide +kernel
theorem d_law_305 : decode code 305 = .ok (.ireturn, 1) := by decide +kernel
theorem d_law_306 : decode code 306 = .ok (.aload_n 1, 1) := by decide +kernel
theorem d_law_307 : decode code 307 = .ok (.aload_n 0, 1) := by decide +kernel
theorem d_law_308 : decode code 308 = .ok (.iload_n 3, 1) := by decide +kernel
theorem d_law_309 : decode code 309 = .ok (.iconst 1, 1) := by decide +kernel
theorem d_law_310 : decode code 310 = .ok (.iadd, 1) := by decide +kernel
theorem d_law_311 : decode code 311 = .ok (.iaload, 1) := by decide +kernel
theorem d_law_312 : decode code 312 = .ok (.invokevirtual 34, 3) := by decide +kernel
theorem d_law_315 : decode code 315 = .ok (.aload_n 2, 1) := by decide +kernel
theorem d_law_316 : decode code 316 = .ok (.aload_n 0, 1) := by decide +kernel
theorem d_law_317 : decode code 317 = .ok (.iload_n 3, 1) := by decide +kernel
theorem d_law_318 : decode code 318 = .ok (.iconst 1, 1) := by decide +kernel
theorem d_law_319 : decode code 319 = .ok (.iadd, 1) := by decide +kernel
theorem d_law_320 : decode code 320 = .ok (.iaload, 1) := by decide +kernel
theorem d_law_321 : decode code 321 = .ok (.invokevirtual 38, 3) := by decide +kernel
theorem d_law_324 : decode code 324 = .ok (.if_icmp .eq 823, 3) := by decide +kernel
theorem d_law_327 : decode code 327 = .ok (.iconst 0, 1) := by decide +kernel
theorem d_law_328 : decode code 328 = .ok (.ireturn, 1) := by decide +kernel
theorem d_law_329 : decode code 329 = .ok (.aload_n 1, 1) := by decide +kernel
theorem d_law_330 : decode code 330 = .ok (.aload_n 0, 1) := by decide +kernel
theorem d_law_331 : decode code 331 = .ok (.iload_n 3, 1) := by decide +kernel
theorem d_law_332 : decode code 332 = .ok (.iconst 1, 1) := by decide +kernel
theorem d_law_333 : decode code 333 = .ok (.iadd, 1) := by decide +kernel
theorem d_law_334 : decode code 334 = .ok (.iaload, 1) := by decide +kernel
theorem d_law_335 : decode code 335 = .ok (.invokevirtual 39, 3) := by decide +kernel
theorem d_law_338 : decode code 338 = .ok (.aload_n 2, 1) := by decide +kernel
theorem d_law_339 : decode code 339 = .ok (.aload_n 0, 1) := by decide +kernel
theorem d_law_340 : decode code 340 = .ok (.iload_n 3, 1) := by decide +kernel
theorem d_law_341 : decode code 341 = .ok (.iconst 1, 1) := by decide +kernel
theorem d_law_342 : decode code 342 = .ok (.iadd, 1) := by decide +kernel
theorem d_law_343 : decode code 343 = .ok (.iaload, 1) := by decide +kernel
theorem d_law_344 : decode code 344 = .ok (.invokevirtual 42, 3) := by decide +kernel
theorem d_law_347 : decode code 347 = .ok (.if_icmp .eq 800, 3) := by decide +kernel
theorem d_law_350 : decode code 350 = .ok (.iconst 0, 1) := by decide +kernel
theorem d_law_351 : decode code 351 = .ok (.ireturn, 1) := by decide +kernel
theorem d_law_352 : decode code 352 = .ok (.aload_n 1, 1) := by decide +kernel
theorem d_law_353 : decode code 353 = .ok (.aload_n 0, 1) := by decide +kernel
theorem d_law_354 : decode code 354 = .ok (.iload_n 3, 1) := by decide +kernel
theorem d_law_355 : decode code 355 = .ok (.iconst 1, 1) := by decide +kernel
theorem d_law_356 : decode code 356 = .ok (.iadd, 1) := by decide +kernel
theorem d_law_357 : decode code 357 = .ok (.iaload, 1) := by decide +kernel
theorem d_law_358 : decode code 358 = .ok (.invokevirtual 43, 3) := by decide +kernel
theorem d_law_361 : decode code 361 = .ok (.aload_n 2, 1) := by decide +kernel
theorem d_law_362 : decode code 362 = .ok (.aload_n 0, 1) := by decide +kernel
theorem d_law_363 : decode code 363 = .ok (.iload_n 3, 1) := by decide +kernel
theorem d_law_364 : decode code 364 = .ok (.iconst 1, 1) := by decide +kernel
theorem d_law_365 : decode code 365 = .ok (.iadd, 1) := by decide +kernel
theorem d_law_366 : decode code 366 = .ok (.iaload, 1) := by decide +kernel
theorem d_law_367 : decode code 367 = .ok (.invokevirtual 46, 3) := by decide +kernel
theorem d_law_370 : decode code 370 = .ok (.if_icmp .eq 777, 3) := by decide +kernel
theorem d_law_373 : decode code 373 = .ok (.iconst 0, 1) := by decide +kernel
theorem d_law_374 : decode code 374 = .ok (.ireturn, 1) := by decide +kernel
theorem d_law_375 : decode code 375 = .ok (.aload_n 1, 1) := by decide +kernel
theorem d_law_376 : decode code 376 = .ok (.invokevirtual 47, 3) := by decide +kernel
theorem d_law_379 : decode code 379 = .ok (.aload_n 2, 1) := by decide +kernel
theorem d_law_380 : decode code 380 = .ok (.invokevirtual 50, 3) := by decide +kernel
theorem d_law_383 : decode code 383 = .ok (.if_icmp .eq 764, 3) := by decide +kernel
theorem d_law_386 : decode code 386 = .ok (.iconst 0, 1) := by decide +kernel
theorem d_law_387 : decode code 387 = .ok (.ireturn, 1) := by decide +kernel
theorem d_law_388 : decode code 388 = .ok (.aload_n 1, 1) := by decide +kernel
theorem d_law_389 : decode code 389 = .ok (.aload_n 0, 1) := by decide +kernel
theorem d_law_390 : decode code 390 = .ok (.iload_n 3, 1) := by decide +kernel
theorem d_law_391 : decode code 391 = .ok (.iconst 1, 1) := by decide +kernel
theorem d_law_392 : decode code 392 = .ok (.iadd, 1) := by decide +kernel
theorem d_law_393 : decode code 393 = .ok (.iaload, 1) := by decide +kernel
theorem d_law_394 : decode code 394 = .ok (.invokevirtual 51, 3) := by decide +kernel
theorem d_law_397 : decode code 397 = .ok (.aload_n 2, 1) := by decide +kernel
theorem d_law_398 : decode code 398 = .ok (.aload_n 0, 1) := by decide +kernel
theorem d_law_399 : decode code 399 = .ok (.iload_n 3, 1) := by decide +kernel
theorem d_law_400 : decode code 400 = .ok (.iconst 1, 1) := by decide +kernel
theorem d_law_401 : decode code 401 = .ok (.iadd, 1) := by decide +kernel
theorem d_law_402 : decode code 402 = .ok (.iaload, 1) := by decide +kernel
theorem d_law_403 : decode code 403 = .ok (.invokevirtual 54, 3) := by decide +kernel
theorem d_law_406 : decode code 406 = .ok (.if_icmp .eq 741, 3) := by decide +kernel
theorem d_law_409 : decode code 409 = .ok (.iconst 0, 1) := by decide +kernel
theorem d_law_410 : decode code 410 = .ok (.ireturn, 1) := by decide +kernel
theorem d_law_411 : decode code 411 = .ok (.aload_n 1, 1) := by decide +kernel
theorem d_law_412 : decode code 412 = .ok (.aload_n 0, 1) := by decide +kernel
theorem d_law_413 : decode code 413 = .ok (.iload_n 3, 1) := by decide +kernel
theorem d_law_414 : decode code 414 = .ok (.iconst 1, 1) := by decide +kernel
theorem d_law_415 : decode code 415 = .ok (.iadd, 1) := by decide +kernel
theorem d_law_416 : decode code 416 = .ok (.iaload, 1) := by decide +kernel
theorem d_law_417 : decode code 417 = .ok (.invokevirtual 55, 3) := by decide +kernel
theorem d_law_420 : decode code 420 = .ok (.aload_n 2, 1) := by decide +kernel
theorem d_law_421 : decode code 421 = .ok (.aload_n 0, 1) := by decide +kernel
theorem d_law_422 : decode code 422 = .ok (.iload_n 3, 1) := by decide +kernel
theorem d_law_423 : decode code 423 = .ok (.iconst 1, 1) := by decide +kernel
theorem d_law_424 : decode code 424 = .ok (.iadd, 1) := by decide +kernel
theorem d_law_425 : decode code 425 = .ok (.iaload, 1) := by decide +kernel
theorem d_law_426 : decode code 426 = .ok (.invokevirtual 58, 3) := by decide +kernel
theorem d_law_429 : decode code 429 = .ok (.if_icmp .eq 718, 3) := by decide +kernel
theorem d_law_432 : decode code 432 = .ok (.iconst 0, 1) := by decide +kernel
theorem d_law_433 : decode code 433 = .ok (.ireturn, 1) := by decide +kernel
theorem d_law_434 : decode code 434 = .ok (.aload_n 1, 1) := by decide +kernel
theorem d_law_435 : decode code 435 = .ok (.aload_n 0, 1) := by decide +kernel
theorem d_law_436 : decode code 436 = .ok (.iload_n 3, 1) := by decide +kernel
theorem d_law_437 : decode code 437 = .ok (.iconst 1, 1) := by decide +kernel
theorem d_law_438 : decode code 438 = .ok (.iadd, 1) := by decide +kernel
theorem d_law_439 : decode code 439 = .ok (.iaload, 1) := by decide +kernel
theorem d_law_440 : decode code 440 = .ok (.invokevirtual 59, 3) := by decide +kernel
theorem d_law_443 : decode code 443 = .ok (.aload_n 2, 1) := by decide +kernel
theorem d_law_444 : decode code 444 = .ok (.aload_n 0, 1) := by decide +kernel
theorem d_law_445 : decode code 445 = .ok (.iload_n 3, 1) := by decide +kernel
theorem d_law_446 : decode code 446 = .ok (.iconst 1, 1) := by decide +kernel
theorem d_law_447 : decode code 447 = .ok (.iadd, 1) := by decide +kernel
theorem d_law_448 : decode code 448 = .ok (.iaload, 1) := by decide +kernel
theorem d_law_449 : decode code 449 = .ok (.invokevirtual 62, 3) := by decide +kernel
theorem d_law_452 : decode code 452 = .ok (.if_icmp .eq 695, 3) := by decide +kernel
theorem d_law_455 : decode code 455 = .ok (.iconst 0, 1) := by decide +kernel
theorem d_law_456 : decode code 456 = .ok (.ireturn, 1) := by decide +kernel
theorem d_law_457 : decode code 457 = .ok (.aload_n 1, 1) := by decide +kernel
theorem d_law_458 : decode code 458 = .ok (.aload_n 0, 1) := by decide +kernel
theorem d_law_459 : decode code 459 = .ok (.iload_n 3, 1) := by decide +kernel
theorem d_law_460 : decode code 460 = .ok (.iconst 1, 1) := by decide +kernel
theorem d_law_461 : decode code 461 = .ok (.iadd, 1) := by decide +kernel
theorem d_law_462 : decode code 462 = .ok (.iaload, 1) := by decide +kernel
theorem d_law_463 : decode code 463 = .ok (.invokevirtual 63, 3) := by decide +kernel
theorem d_law_466 : decode code 466 = .ok (.aload_n 2, 1) := by decide +kernel
theorem d_law_467 : decode code 467 = .ok (.aload_n 0, 1) := by decide +kernel
theorem d_law_468 : decode code 468 = .ok (.iload_n 3, 1) := by decide +kernel
theorem d_law_469 : decode code 469 = .ok (.iconst 1, 1) := by decide +kernel
theorem d_law_470 : decode code 470 = .ok (.iadd, 1) := by decide +kernel
theorem d_law_471 : decode code 471 = .ok (.iaload, 1) := by decide +kernel
theorem d_law_472 : decode code 472 = .ok (.invokevirtual 66, 3) := by decide +kernel
theorem d_law_475 : decode code 475 = .ok (.if_icmp .eq 672, 3) := by decide +kernel
theorem d_law_478 : decode code 478 = .ok (.iconst 0, 1) := by decide +kernel
theorem d_law_479 : decode code 479 = .ok (.ireturn, 1) := by decide +kernel
theorem d_law_480 : decode code 480 = .ok (.aload_n 1, 1) := by decide +kernel
theorem d_law_481 : decode code 481 = .ok (.aload_n 0, 1) := by decide +kernel
theorem d_law_482 : decode code 482 = .ok (.iload_n 3, 1) := by decide +kernel
theorem d_law_483 : decode code 483 = .ok (.iconst 1, 1) := by decide +kernel
theorem d_law_484 : decode code 484 = .ok (.iadd, 1) := by decide +kernel
theorem d_law_485 : decode code 485 = .ok (.iaload, 1) := by decide +kernel
theorem d_law_486 : decode code 486 = .ok (.invokevirtual 67, 3) := by decide +kernel
theorem d_law_489 : decode code 489 = .ok (.aload_n 2, 1) := by decide +kernel
theorem d_law_490 : decode code 490 = .ok (.aload_n 0, 1) := by decide +kernel
theorem d_law_491 : decode code 491 = .ok (.iload_n 3, 1) := by decide +kernel
theorem d_law_492 : decode code 492 = .ok (.iconst 1, 1) := by decide +kernel
theorem d_law_493 : decode code 493 = .ok (.iadd, 1) := by decide +kernel
theorem d_law_494 : decode code 494 = .ok (.iaload, 1) := by decide +kernel
theorem d_law_495 : decode code 495 = .ok (.invokevirtual 70, 3) := by decide +kernel
theorem d_law_498 : decode code 498 = .ok (.if_icmp .eq 649, 3) := by decide +kernel
theorem d_law_501 : decode code 501 = .ok (.iconst 0, 1) := by decide +kernel
theorem d_law_502 : decode code 502 = .ok (.ireturn, 1) := by decide +kernel
theorem d_law_503 : decode code 503 = .ok (.aload_n 1, 1) := by decide +kernel
theorem d_law_504 : decode code 504 = .ok (.aload_n 0, 1) := by decide +kernel
theorem d_law_505 : decode code 505 = .ok (.iload_n 3, 1) := by decide +kernel
theorem d_law_506 : decode code 506 = .ok (.iconst 1, 1) := by decide +kernel
theorem d_law_507 : decode code 507 = .ok (.iadd, 1) := by decide +kernel
theorem d_law_508 : decode code 508 = .ok (.iaload, 1) := by decide +kernel
theorem d_law_509 : decode code 509 = .ok (.aload_n 0, 1) := by decide +kernel
theorem d_law_510 : decode code 510 = .ok (.iload_n 3, 1) := by decide +kernel
theorem d_law_511 : decode code 511 = .ok (.iconst 2, 1) := by decide +kernel
theorem d_law_512 : decode code 512 = .ok (.iadd, 1) := by decide +kernel
theorem d_law_513 : decode code 513 = .ok (.iaload, 1) := by decide +kernel
theorem d_law_514 : decode code 514 = .ok (.aload_n 0, 1) := by decide +kernel
theorem d_law_515 : decode code 515 = .ok (.iload_n 3, 1) := by decide +kernel
theorem d_law_516 : decode code 516 = .ok (.iconst 3, 1) := by decide +kernel
theorem d_law_517 : decode code 517 = .ok (.iadd, 1) := by decide +kernel
theorem d_law_518 : decode code 518 = .ok (.iaload, 1) := by decide +kernel
theorem d_law_519 : decode code 519 = .ok (.aload_n 0, 1) := by decide +kernel
theorem d_law_520 : decode code 520 = .ok (.iload_n 3, 1) := by decide +kernel
theorem d_law_521 : decode code 521 = .ok (.iconst 4, 1) := by decide +kernel
theorem d_law_522 : decode code 522 = .ok (.iadd, 1) := by decide +kernel
theorem d_law_523 : decode code 523 = .ok (.iaload, 1) := by decide +kernel
theorem d_law_524 : decode code 524 = .ok (.invokevirtual 71, 3) := by decide +kernel
theorem d_law_527 : decode code 527 = .ok (.aload_n 2, 1) := by decide +kernel
theorem d_law_528 : decode code 528 = .ok (.aload_n 0, 1) := by decide +kernel
theorem d_law_529 : decode code 529 = .ok (.iload_n 3, 1) := by decide +kernel
theorem d_law_530 : decode code 530 = .ok (.iconst 1, 1) := by decide +kernel
theorem d_law_531 : decode code 531 = .ok (.iadd, 1) := by decide +kernel
theorem d_law_532 : decode code 532 = .ok (.iaload, 1) := by decide +kernel
theorem d_law_533 : decode code 533 = .ok (.aload_n 0, 1) := by decide +kernel
theorem d_law_534 : decode code 534 = .ok (.iload_n 3, 1) := by decide +kernel
theorem d_law_535 : decode code 535 = .ok (.iconst 2, 1) := by decide +kernel
theorem d_law_536 : decode code 536 = .ok (.iadd, 1) := by decide +kernel
theorem d_law_537 : decode code 537 = .ok (.iaload, 1) := by decide +kernel
theorem d_law_538 : decode code 538 = .ok (.aload_n 0, 1) := by decide +kernel
theorem d_law_539 : decode code 539 = .ok (.iload_n 3, 1) := by decide +kernel
theorem d_law_540 : decode code 540 = .ok (.iconst 3, 1) := by decide +kernel
theorem d_law_541 : decode code 541 = .ok (.iadd, 1) := by decide +kernel
theorem d_law_542 : decode code 542 = .ok (.iaload, 1) := by decide +kernel
theorem d_law_543 : decode code 543 = .ok (.aload_n 0, 1) := by decide +kernel
theorem d_law_544 : decode code 544 = .ok (.iload_n 3, 1) := by decide +kernel
theorem d_law_545 : decode code 545 = .ok (.iconst 4, 1) := by decide +kernel
theorem d_law_546 : decode code 546 = .ok (.iadd, 1) := by decide +kernel
theorem d_law_547 : decode code 547 = .ok (.iaload, 1) := by decide +kernel
theorem d_law_548 : decode code 548 = .ok (.invokevirtual 75, 3) := by decide +kernel
theorem d_law_551 : decode code 551 = .ok (.if_icmp .eq 596, 3) := by decide +kernel
theorem d_law_554 : decode code 554 = .ok (.iconst 0, 1) := by decide +kernel
theorem d_law_555 : decode code 555 = .ok (.ireturn, 1) := by decide +kernel
theorem d_law_556 : decode code 556 = .ok (.aload_n 1, 1) := by decide +kernel
theorem d_law_557 : decode code 557 = .ok (.aload_n 0, 1) := by decide +kernel
theorem d_law_558 : decode code 558 = .ok (.iload_n 3, 1) := by decide +kernel
theorem d_law_559 : decode code 559 = .ok (.iconst 1, 1) := by decide +kernel
theorem d_law_560 : decode code 560 = .ok (.iadd, 1) := by decide +kernel
theorem d_law_561 : decode code 561 = .ok (.iaload, 1) := by decide +kernel
theorem d_law_562 : decode code 562 = .ok (.aload_n 0, 1) := by decide +kernel
theorem d_law_563 : decode code 563 = .ok (.iload_n 3, 1) := by decide +kernel
theorem d_law_564 : decode code 564 = .ok (.iconst 2, 1) := by decide +kernel
theorem d_law_565 : decode code 565 = .ok (.iadd, 1) := by decide +kernel
theorem d_law_566 : decode code 566 = .ok (.iaload, 1) := by decide +kernel
theorem d_law_567 : decode code 567 = .ok (.aload_n 0, 1) := by decide +kernel
theorem d_law_568 : decode code 568 = .ok (.iload_n 3, 1) := by decide +kernel
theorem d_law_569 : decode code 569 = .ok (.iconst 3, 1) := by decide +kernel
theorem d_law_570 : decode code 570 = .ok (.iadd, 1) := by decide +kernel
theorem d_law_571 : decode code 571 = .ok (.iaload, 1) := by decide +kernel
theorem d_law_572 : decode code 572 = .ok (.aload_n 0, 1) := by decide +kernel
theorem d_law_573 : decode code 573 = .ok (.iload_n 3, 1) := by decide +kernel
theorem d_law_574 : decode code 574 = .ok (.iconst 4, 1) := by decide +kernel
theorem d_law_575 : decode code 575 = .ok (.iadd, 1) := by decide +kernel
theorem d_law_576 : decode code 576 = .ok (.iaload, 1) := by decide +kernel
theorem d_law_577 : decode code 577 = .ok (.aload_n 0, 1) := by decide +kernel
theorem d_law_578 : decode code 578 = .ok (.iload_n 3, 1) := by decide +kernel
theorem d_law_579 : decode code 579 = .ok (.iconst 5, 1) := by decide +kernel
theorem d_law_580 : decode code 580 = .ok (.iadd, 1) := by decide +kernel
theorem d_law_581 : decode code 581 = .ok (.iaload, 1) := by decide +kernel
theorem d_law_582 : decode code 582 = .ok (.invokevirtual 76, 3) := by decide +kernel
theorem d_law_585 : decode code 585 = .ok (.aload_n 2, 1) := by decide +kernel
theorem d_law_586 : decode code 586 = .ok (.aload_n 0, 1) := by decide +kernel
theorem d_law_587 : decode code 587 = .ok (.iload_n 3, 1) := by decide +kernel
theorem d_law_588 : decode code 588 = .ok (.iconst 1, 1) := by decide +kernel
theorem d_law_589 : decode code 589 = .ok (.iadd, 1) := by decide +kernel
theorem d_law_590 : decode code 590 = .ok (.iaload, 1) := by decide +kernel
theorem d_law_591 : decode code 591 = .ok (.aload_n 0, 1) := by decide +kernel
theorem d_law_592 : decode code 592 = .ok (.iload_n 3, 1) := by decide +kernel
theorem d_law_593 : decode code 593 = .ok (.iconst 2, 1) := by decide +kernel
theorem d_law_594 : decode code 594 = .ok (.iadd, 1) := by decide +kernel
theorem d_law_595 : decode code 595 = .ok (.iaload, 1) := by decide +kernel
theorem d_law_596 : decode code 596 = .ok (.aload_n 0, 1) := by decide +kernel
theorem d_law_597 : decode code 597 = .ok (.iload_n 3, 1) := by decide +kernel
theorem d_law_598 : decode code 598 = .ok (.iconst 3, 1) := by decide +kernel
theorem d_law_599 : decode code 599 = .ok (.iadd, 1) := by decide +kernel
theorem d_law_600 : decode code 600 = .ok (.iaload, 1) := by decide +kernel
theorem d_law_601 : decode code 601 = .ok (.aload_n 0, 1) := by decide +kernel
theorem d_law_602 : decode code 602 = .ok (.iload_n 3, 1) := by decide +kernel
theorem d_law_603 : decode code 603 = .ok (.iconst 4, 1) := by decide +kernel
theorem d_law_604 : decode code 604 = .ok (.iadd, 1) := by decide +kernel
theorem d_law_605 : decode code 605 = .ok (.iaload, 1) := by decide +kernel
theorem d_law_606 : decode code 606 = .ok (.aload_n 0, 1) := by decide +kernel
theorem d_law_607 : decode code 607 = .ok (.iload_n 3, 1) := by decide +kernel
theorem d_law_608 : decode code 608 = .ok (.iconst 5, 1) := by decide +kernel
theorem d_law_609 : decode code 609 = .ok (.iadd, 1) := by decide +kernel
theorem d_law_610 : decode code 610 = .ok (.iaload, 1) := by decide +kernel
theorem d_law_611 : decode code 611 = .ok (.invokevirtual 80, 3) := by decide +kernel
theorem d_law_614 : decode code 614 = .ok (.if_icmp .eq 533, 3) := by decide +kernel
theorem d_law_617 : decode code 617 = .ok (.iconst 0, 1) := by decide +kernel
theorem d_law_618 : decode code 618 = .ok (.ireturn, 1) := by decide +kernel
theorem d_law_619 : decode code 619 = .ok (.aload_n 1, 1) := by decide +kernel
theorem d_law_620 : decode code 620 = .ok (.aload_n 0, 1) := by decide +kernel
theorem d_law_621 : decode code 621 = .ok (.iload_n 3, 1) := by decide +kernel
theorem d_law_622 : decode code 622 = .ok (.iconst 1, 1) := by decide +kernel
theorem d_law_623 : decode code 623 = .ok (.iadd, 1) := by decide +kernel
theorem d_law_624 : decode code 624 = .ok (.iaload, 1) := by decide +kernel
theorem d_law_625 : decode code 625 = .ok (.aload_n 0, 1) := by decide +kernel
theorem d_law_626 : decode code 626 = .ok (.iload_n 3, 1) := by decide +kernel
theorem d_law_627 : decode code 627 = .ok (.iconst 2, 1) := by decide +kernel
theorem d_law_628 : decode code 628 = .ok (.iadd, 1) := by decide +kernel
theorem d_law_629 : decode code 629 = .ok (.iaload, 1) := by decide +kernel
theorem d_law_630 : decode code 630 = .ok (.invokevirtual 81, 3) := by decide +kernel
theorem d_law_633 : decode code 633 = .ok (.aload_n 2, 1) := by decide +kernel
theorem d_law_634 : decode code 634 = .ok (.aload_n 0, 1) := by decide +kernel
theorem d_law_635 : decode code 635 = .ok (.iload_n 3, 1) := by decide +kernel
theorem d_law_636 : decode code 636 = .ok (.iconst 1, 1) := by decide +kernel
theorem d_law_637 : decode code 637 = .ok (.iadd, 1) := by decide +kernel
theorem d_law_638 : decode code 638 = .ok (.iaload, 1) := by decide +kernel
theorem d_law_639 : decode code 639 = .ok (.aload_n 0, 1) := by decide +kernel
theorem d_law_640 : decode code 640 = .ok (.iload_n 3, 1) := by decide +kernel
theorem d_law_641 : decode code 641 = .ok (.iconst 2, 1) := by decide +kernel
theorem d_law_642 : decode code 642 = .ok (.iadd, 1) := by decide +kernel
theorem d_law_643 : decode code 643 = .ok (.iaload, 1) := by decide +kernel
theorem d_law_644 : decode code 644 = .ok (.invokevirtual 84, 3) := by decide +kernel
theorem d_law_647 : decode code 647 = .ok (.if_icmp .eq 500, 3) := by decide +kernel
theorem d_law_650 : decode code 650 = .ok (.iconst 0, 1) := by decide +kernel
theorem d_law_651 : decode code 651 = .ok (.ireturn, 1) := by decide +kernel
theorem d_law_652 : decode code 652 = .ok (.aload_n 1, 1) := by decide +kernel
theorem d_law_653 : decode code 653 = .ok (.aload_n 0, 1) := by decide +kernel
theorem d_law_654 : decode code 654 = .ok (.iload_n 3, 1) := by decide +kernel
theorem d_law_655 : decode code 655 = .ok (.iconst 1, 1) := by decide +kernel
theorem d_law_656 : decode code 656 = .ok (.iadd, 1) := by decide +kernel
theorem d_law_657 : decode code 657 = .ok (.iaload, 1) := by decide +kernel
theorem d_law_658 : decode code 658 = .ok (.aload_n 0, 1) := by decide +kernel
theorem d_law_659 : decode code 659 = .ok (.iload_n 3, 1) := by decide +kernel
theorem d_law_660 : decode code 660 = .ok (.iconst 2, 1) := by decide +kernel
theorem d_law_661 : decode code 661 = .ok (.iadd, 1) := by decide +kernel
theorem d_law_662 : decode code 662 = .ok (.iaload, 1) := by decide +kernel
theorem d_law_663 : decode code 663 = .ok (.aload_n 0, 1) := by decide +kernel
theorem d_law_664 : decode code 664 = .ok (.iload_n 3, 1) := by decide +kernel
theorem d_law_665 : decode code 665 = .ok (.iconst 3, 1) := by decide +kernel
theorem d_law_666 : decode code 666 = .ok (.iadd, 1) := by decide +kernel
theorem d_law_667 : decode code 667 = .ok (.iaload, 1) := by decide +kernel
theorem d_law_668 : decode code 668 = .ok (.invokevirtual 85, 3) := by decide +kernel
theorem d_law_671 : decode code 671 = .ok (.aload_n 2, 1) := by decide +kernel
theorem d_law_672 : decode code 672 = .ok (.aload_n 0, 1) := by decide +kernel
theorem d_law_673 : decode code 673 = .ok (.iload_n 3, 1) := by decide +kernel
theorem d_law_674 : decode code 674 = .ok (.iconst 1, 1) := by decide +kernel
theorem d_law_675 : decode code 675 = .ok (.iadd, 1) := by decide +kernel
theorem d_law_676 : decode code 676 = .ok (.iaload, 1) := by decide +kernel
theorem d_law_677 : decode code 677 = .ok (.aload_n 0, 1) := by decide +kernel
theorem d_law_678 : decode code 678 = .ok (.iload_n 3, 1) := by decide +kernel
theorem d_law_679 : decode code 679 = .ok (.iconst 2, 1) := by decide +kernel
theorem d_law_680 : decode code 680 = .ok (.iadd, 1) := by decide +kernel
theorem d_law_681 : decode code 681 = .ok (.iaload, 1) := by decide +kernel
theorem d_law_682 : decode code 682 = .ok (.aload_n 0, 1) := by decide +kernel
theorem d_law_683 : decode code 683 = .ok (.iload_n 3, 1) := by decide +kernel
theorem d_law_684 : decode code 684 = .ok (.iconst 3, 1) := by decide +kernel
theorem d_law_685 : decode code 685 = .ok (.iadd, 1) := by decide +kernel
theorem d_law_686 : decode code 686 = .ok (.iaload, 1) := by decide +kernel
theorem d_law_687 : decode code 687 = .ok (.invokevirtual 89, 3) := by decide +kernel
theorem d_law_690 : decode code 690 = .ok (.if_icmp .eq 457, 3) := by decide +kernel
theorem d_law_693 : decode code 693 = .ok (.iconst 0, 1) := by decide +kernel
theorem d_law_694 : decode code 694 = .ok (.ireturn, 1) := by decide +kernel
theorem d_law_695 : decode code 695 = .ok (.aload_n 1, 1) := by decide +kernel
theorem d_law_696 : decode code 696 = .ok (.aload_n 0, 1) := by decide +kernel
theorem d_law_697 : decode code 697 = .ok (.iload_n 3, 1) := by decide +kernel
theorem d_law_698 : decode code 698 = .ok (.iconst 1, 1) := by decide +kernel
theorem d_law_699 : decode code 699 = .ok (.iadd, 1) := by decide +kernel
theorem d_law_700 : decode code 700 = .ok (.iaload, 1) := by decide +kernel
theorem d_law_701 : decode code 701 = .ok (.aload_n 0, 1) := by decide +kernel
theorem d_law_702 : decode code 702 = .ok (.iload_n 3, 1) := by decide +kernel
theorem d_law_703 : decode code 703 = .ok (.iconst 2, 1) := by decide +kernel
theorem d_law_704 : decode code 704 = .ok (.iadd, 1) := by decide +kernel
theorem d_law_705 : decode code 705 = .ok (.iaload, 1) := by decide +kernel
theorem d_law_706 : decode code 706 = .ok (.aload_n 0, 1) := by decide +kernel
theorem d_law_707 : decode code 707 = .ok (.iload_n 3, 1) := by decide +kernel
theorem d_law_708 : decode code 708 = .ok (.iconst 3, 1) := by decide +kernel
theorem d_law_709 : decode code 709 = .ok (.iadd, 1) := by decide +kernel
theorem d_law_710 : decode code 710 = .ok (.iaload, 1) := by decide +kernel
theorem d_law_711 : decode code 711 = .ok (.invokevirtual 90, 3) := by decide +kernel
theorem d_law_714 : decode code 714 = .ok (.aload_n 2, 1) := by decide +kernel
theorem d_law_715 : decode code 715 = .ok (.aload_n 0, 1) := by decide +kernel
theorem d_law_716 : decode code 716 = .ok (.iload_n 3, 1) := by decide +kernel
theorem d_law_717 : decode code 717 = .ok (.iconst 1, 1) := by decide +kernel
theorem d_law_718 : decode code 718 = .ok (.iadd, 1) := by decide +kernel
theorem d_law_719 : decode code 719 = .ok (.iaload, 1) := by decide +kernel
theorem d_law_720 : decode code 720 = .ok (.aload_n 0, 1) := by decide +kernel
theorem d_law_721 : decode code 721 = .ok (.iload_n 3, 1) := by decide +kernel
theorem d_law_722 : decode code 722 = .ok (.iconst 2, 1) := by decide +kernel
theorem d_law_723 : decode code 723 = .ok (.iadd, 1) := by decide +kernel
theorem d_law_724 : decode code 724 = .ok (.iaload, 1) := by decide +kernel
theorem d_law_725 : decode code 725 = .ok (.aload_n 0, 1) := by decide +kernel
theorem d_law_726 : decode code 726 = .ok (.iload_n 3, 1) := by decide +kernel
theorem d_law_727 : decode code 727 = .ok (.iconst 3, 1) := by decide +kernel
theorem d_law_728 : decode code 728 = .ok (.iadd, 1) := by decide +kernel
theorem d_law_729 : decode code 729 = .ok (.iaload, 1) := by decide +kernel
theorem d_law_730 : decode code 730 = .ok (.invokevirtual 93, 3) := by decide +kernel
theorem d_law_733 : decode code 733 = .ok (.if_icmp .eq 414, 3) := by decide +kernel
theorem d_law_736 : decode code 736 = .ok (.iconst 0, 1) := by decide +kernel
theorem d_law_737 : decode code 737 = .ok (.ireturn, 1) := by decide +kernel
theorem d_law_738 : decode code 738 = .ok (.aload_n 1, 1) := by decide +kernel
theorem d_law_739 : decode code 739 = .ok (.aload_n 0, 1) := by decide +kernel
theorem d_law_740 : decode code 740 = .ok (.iload_n 3, 1) := by decide +kernel
theorem d_law_741 : decode code 741 = .ok (.iconst 1, 1) := by decide +kernel
theorem d_law_742 : decode code 742 = .ok (.iadd, 1) := by decide +kernel
theorem d_law_743 : decode code 743 = .ok (.iaload, 1) := by decide +kernel
theorem d_law_744 : decode code 744 = .ok (.aload_n 0, 1) := by decide +kernel
theorem d_law_745 : decode code 745 = .ok (.iload_n 3, 1) := by decide +kernel
theorem d_law_746 : decode code 746 = .ok (.iconst 2, 1) := by decide +kernel
theorem d_law_747 : decode code 747 = .ok (.iadd, 1) := by decide +kernel
theorem d_law_748 : decode code 748 = .ok (.iaload, 1) := by decide +kernel
theorem d_law_749 : decode code 749 = .ok (.invokevirtual 94, 3) := by decide +kernel
theorem d_law_752 : decode code 752 = .ok (.aload_n 2, 1) := by decide +kernel
theorem d_law_753 : decode code 753 = .ok (.aload_n 0, 1) := by decide +kernel
theorem d_law_754 : decode code 754 = .ok (.iload_n 3, 1) := by decide +kernel
theorem d_law_755 : decode code 755 = .ok (.iconst 1, 1) := by decide +kernel
theorem d_law_756 : decode code 756 = .ok (.iadd, 1) := by decide +kernel
theorem d_law_757 : decode code 757 = .ok (.iaload, 1) := by decide +kernel
theorem d_law_758 : decode code 758 = .ok (.aload_n 0, 1) := by decide +kernel
theorem d_law_759 : decode code 759 = .ok (.iload_n 3, 1) := by decide +kernel
theorem d_law_760 : decode code 760 = .ok (.iconst 2, 1) := by decide +kernel
theorem d_law_761 : decode code 761 = .ok (.iadd, 1) := by decide +kernel
theorem d_law_762 : decode code 762 = .ok (.iaload, 1) := by decide +kernel
theorem d_law_763 : decode code 763 = .ok (.invokevirtual 97, 3) := by decide +kernel
theorem d_law_766 : decode code 766 = .ok (.if_icmp .eq 381, 3) := by decide +kernel
theorem d_law_769 : decode code 769 = .ok (.iconst 0, 1) := by decide +kernel
theorem d_law_770 : decode code 770 = .ok (.ireturn, 1) := by decide +kernel
theorem d_law_771 : decode code 771 = .ok (.aload_n 1, 1) := by decide +kernel
theorem d_law_772 : decode code 772 = .ok (.aload_n 0, 1) := by decide +kernel
theorem d_law_773 : decode code 773 = .ok (.iload_n 3, 1) := by decide +kernel
theorem d_law_774 : decode code 774 = .ok (.iconst 1, 1) := by decide +kernel
theorem d_law_775 : decode code 775 = .ok (.iadd, 1) := by decide +kernel
theorem d_law_776 : decode code 776 = .ok (.iaload, 1) := by decide +kernel
theorem d_law_777 : decode code 777 = .ok (.aload_n 0, 1) := by decide +kernel
theorem d_law_778 : decode code 778 = .ok (.iload_n 3, 1) := by decide +kernel
theorem d_law_779 : decode code 779 = .ok (.iconst 2, 1) := by decide +kernel
theorem d_law_780 : decode code 780 = .ok (.iadd, 1) := by decide +kernel
theorem d_law_781 : decode code 781 = .ok (.iaload, 1) := by decide +kernel
theorem d_law_782 : decode code 782 = .ok (.aload_n 0, 1) := by decide +kernel
theorem d_law_783 : decode code 783 = .ok (.iload_n 3, 1) := by decide +kernel
theorem d_law_784 : decode code 784 = .ok (.iconst 3, 1) := by decide +kernel
theorem d_law_785 : decode code 785 = .ok (.iadd, 1) := by decide +kernel
theorem d_law_786 : decode code 786 = .ok (.iaload, 1) := by decide +kernel
theorem d_law_787 : decode code 787 = .ok (.ifCond .eq 7, 3) := by decide +kernel
theorem d_law_790 : decode code 790 = .ok (.iconst 1, 1) := by decide +kernel
theorem d_law_791 : decode code 791 = .ok (.goto 4, 3) := by decide +kernel
theorem d_law_794 : decode code 794 = .ok (.iconst 0, 1) := by decide +kernel
theorem d_law_795 : decode code 795 = .ok (.invokevirtual 98, 3) := by decide +kernel
theorem d_law_798 : decode code 798 = .ok (.aload_n 2, 1) := by decide +kernel
theorem d_law_799 : decode code 799 = .ok (.aload_n 0, 1) := by decide +kernel
theorem d_law_800 : decode code 800 = .ok (.iload_n 3, 1) := by decide +kernel
theorem d_law_801 : decode code 801 = .ok (.iconst 1, 1) := by decide +kernel
theorem d_law_802 : decode code 802 = .ok (.iadd, 1) := by decide +kernel
theorem d_law_803 : decode code 803 = .ok (.iaload, 1) := by decide +kernel
theorem d_law_804 : decode code 804 = .ok (.aload_n 0, 1) := by decide +kernel
theorem d_law_805 : decode code 805 = .ok (.iload_n 3, 1) := by decide +kernel
theorem d_law_806 : decode code 806 = .ok (.iconst 2, 1) := by decide +kernel
theorem d_law_807 : decode code 807 = .ok (.iadd, 1) := by decide +kernel
theorem d_law_808 : decode code 808 = .ok (.iaload, 1) := by decide +kernel
theorem d_law_809 : decode code 809 = .ok (.aload_n 0, 1) := by decide +kernel
theorem d_law_810 : decode code 810 = .ok (.iload_n 3, 1) := by decide +kernel
theorem d_law_811 : decode code 811 = .ok (.iconst 3, 1) := by decide +kernel
theorem d_law_812 : decode code 812 = .ok (.iadd, 1) := by decide +kernel
theorem d_law_813 : decode code 813 = .ok (.iaload, 1) := by decide +kernel
theorem d_law_814 : decode code 814 = .ok (.ifCond .eq 7, 3) := by decide +kernel
theorem d_law_817 : decode code 817 = .ok (.iconst 1, 1) := by decide +kernel
theorem d_law_818 : decode code 818 = .ok (.goto 4, 3) := by decide +kernel
theorem d_law_821 : decode code 821 = .ok (.iconst 0, 1) := by decide +kernel
theorem d_law_822 : decode code 822 = .ok (.invokevirtual 102, 3) := by decide +kernel
theorem d_law_825 : decode code 825 = .ok (.if_icmp .eq 322, 3) := by decide +kernel
theorem d_law_828 : decode code 828 = .ok (.iconst 0, 1) := by decide +kernel
theorem d_law_829 : decode code 829 = .ok (.ireturn, 1) := by decide +kernel
theorem d_law_830 : decode code 830 = .ok (.aload_n 1, 1) := by decide +kernel
theorem d_law_831 : decode code 831 = .ok (.aload_n 0, 1) := by decide +kernel
theorem d_law_832 : decode code 832 = .ok (.iload_n 3, 1) := by decide +kernel
theorem d_law_833 : decode code 833 = .ok (.iconst 1, 1) := by decide +kernel
theorem d_law_834 : decode code 834 = .ok (.iadd, 1) := by decide +kernel
theorem d_law_835 : decode code 835 = .ok (.iaload, 1) := by decide +kernel
theorem d_law_836 : decode code 836 = .ok (.aload_n 0, 1) := by decide +kernel
theorem d_law_837 : decode code 837 = .ok (.iload_n 3, 1) := by decide +kernel
theorem d_law_838 : decode code 838 = .ok (.iconst 2, 1) := by decide +kernel
theorem d_law_839 : decode code 839 = .ok (.iadd, 1) := by decide +kernel
theorem d_law_840 : decode code 840 = .ok (.iaload, 1) := by decide +kernel
theorem d_law_841 : decode code 841 = .ok (.aload_n 0, 1) := by decide +kernel
theorem d_law_842 : decode code 842 = .ok (.iload_n 3, 1) := by decide +kernel
theorem d_law_843 : decode code 843 = .ok (.iconst 3, 1) := by decide +kernel
theorem d_law_844 : decode code 844 = .ok (.iadd, 1) := by decide +kernel
theorem d_law_845 : decode code 845 = .ok (.iaload, 1) := by decide +kernel
theorem d_law_846 : decode code 846 = .ok (.invokevirtual 103, 3) := by decide +kernel
theorem d_law_849 : decode code 849 = .ok (.aload_n 2, 1) := by decide +kernel
theorem d_law_850 : decode code 850 = .ok (.aload_n 0, 1) := by decide +kernel
theorem d_law_851 : decode code 851 = .ok (.iload_n 3, 1) := by decide +kernel
theorem d_law_852 : decode code 852 = .ok (.iconst 1, 1) := by decide +kernel
theorem d_law_853 : decode code 853 = .ok (.iadd, 1) := by decide +kernel
theorem d_law_854 : decode code 854 = .ok (.iaload, 1) := by decide +kernel
theorem d_law_855 : decode code 855 = .ok (.aload_n 0, 1) := by decide +kernel
theorem d_law_856 : decode code 856 = .ok (.iload_n 3, 1) := by decide +kernel
theorem d_law_857 : decode code 857 = .ok (.iconst 2, 1) := by decide +kernel
theorem d_law_858 : decode code 858 = .ok (.iadd, 1) := by decide +kernel
theorem d_law_859 : decode code 859 = .ok (.iaload, 1) := by decide +kernel
theorem d_law_860 : decode code 860 = .ok (.aload_n 0, 1) := by decide +kernel
theorem d_law_861 : decode code 861 = .ok (.iload_n 3, 1) := by decide +kernel
theorem d_law_862 : decode code 862 = .ok (.iconst 3, 1) := by decide +kernel
theorem d_law_863 : decode code 863 = .ok (.iadd, 1) := by decide +kernel
theorem d_law_864 : decode code 864 = .ok (.iaload, 1) := by decide +kernel
theorem d_law_865 : decode code 865 = .ok (.invokevirtual 106, 3) := by decide +kernel
theorem d_law_868 : decode code 868 = .ok (.if_icmp .eq 279, 3) := by decide +kernel
theorem d_law_871 : decode code 871 = .ok (.iconst 0, 1) := by decide +kernel
theorem d_law_872 : decode code 872 = .ok (.ireturn, 1) := by decide +kernel
theorem d_law_873 : decode code 873 = .ok (.aload_n 1, 1) := by decide +kernel
theorem d_law_874 : decode code 874 = .ok (.aload_n 0, 1) := by decide +kernel
theorem d_law_875 : decode code 875 = .ok (.iload_n 3, 1) := by decide +kernel
theorem d_law_876 : decode code 876 = .ok (.iconst 1, 1) := by decide +kernel
theorem d_law_877 : decode code 877 = .ok (.iadd, 1) := by decide +kernel
theorem d_law_878 : decode code 878 = .ok (.iaload, 1) := by decide +kernel
theorem d_law_879 : decode code 879 = .ok (.invokevirtual 107, 3) := by decide +kernel
theorem d_law_882 : decode code 882 = .ok (.aload_n 2, 1) := by decide +kernel
theorem d_law_883 : decode code 883 = .ok (.aload_n 0, 1) := by decide +kernel
theorem d_law_884 : decode code 884 = .ok (.iload_n 3, 1) := by decide +kernel
theorem d_law_885 : decode code 885 = .ok (.iconst 1, 1) := by decide +kernel
theorem d_law_886 : decode code 886 = .ok (.iadd, 1) := by decide +kernel
theorem d_law_887 : decode code 887 = .ok (.iaload, 1) := by decide +kernel
theorem d_law_888 : decode code 888 = .ok (.invokevirtual 110, 3) := by decide +kernel
theorem d_law_891 : decode code 891 = .ok (.if_icmp .eq 256, 3) := by decide +kernel
theorem d_law_894 : decode code 894 = .ok (.iconst 0, 1) := by decide +kernel
theorem d_law_895 : decode code 895 = .ok (.ireturn, 1) := by decide +kernel
theorem d_law_896 : decode code 896 = .ok (.aload_n 1, 1) := by decide +kernel
theorem d_law_897 : decode code 897 = .ok (.aload_n 0, 1) := by decide +kernel
theorem d_law_898 : decode code 898 = .ok (.iload_n 3, 1) := by decide +kernel
theorem d_law_899 : decode code 899 = .ok (.iconst 1, 1) := by decide +kernel
theorem d_law_900 : decode code 900 = .ok (.iadd, 1) := by decide +kernel
theorem d_law_901 : decode code 901 = .ok (.iaload, 1) := by decide +kernel
theorem d_law_902 : decode code 902 = .ok (.aload_n 0, 1) := by decide +kernel
theorem d_law_903 : decode code 903 = .ok (.iload_n 3, 1) := by decide +kernel
theorem d_law_904 : decode code 904 = .ok (.iconst 2, 1) := by decide +kernel
theorem d_law_905 : decode code 905 = .ok (.iadd, 1) := by decide +kernel
theorem d_law_906 : decode code 906 = .ok (.iaload, 1) := by decide +kernel
theorem d_law_907 : decode code 907 = .ok (.aload_n 0, 1) := by decide +kernel
theorem d_law_908 : decode code 908 = .ok (.iload_n 3, 1) := by decide +kernel
theorem d_law_909 : decode code 909 = .ok (.iconst 3, 1) := by decide +kernel
theorem d_law_910 : decode code 910 = .ok (.iadd, 1) := by decide +kernel
theorem d_law_911 : decode code 911 = .ok (.iaload, 1) := by decide +kernel
theorem d_law_912 : decode code 912 = .ok (.invokevirtual 111, 3) := by decide +kernel
theorem d_law_915 : decode code 915 = .ok (.aload_n 2, 1) := by decide +kernel
theorem d_law_916 : decode code 916 = .ok (.aload_n 0, 1) := by decide +kernel
theorem d_law_917 : decode code 917 = .ok (.iload_n 3, 1) := by decide +kernel
theorem d_law_918 : decode code 918 = .ok (.iconst 1, 1) := by decide +kernel
theorem d_law_919 : decode code 919 = .ok (.iadd, 1) := by decide +kernel
theorem d_law_920 : decode code 920 = .ok (.iaload, 1) := by decide +kernel
theorem d_law_921 : decode code 921 = .ok (.aload_n 0, 1) := by decide +kernel
theorem d_law_922 : decode code 922 = .ok (.iload_n 3, 1) := by decide +kernel
theorem d_law_923 : decode code 923 = .ok (.iconst 2, 1) := by decide +kernel
theorem d_law_924 : decode code 924 = .ok (.iadd, 1) := by decide +kernel
theorem d_law_925 : decode code 925 = .ok (.iaload, 1) := by decide +kernel
theorem d_law_926 : decode code 926 = .ok (.aload_n 0, 1) := by decide +kernel
theorem d_law_927 : decode code 927 = .ok (.iload_n 3, 1) := by decide +kernel
theorem d_law_928 : decode code 928 = .ok (.iconst 3, 1) := by decide +kernel
theorem d_law_929 : decode code 929 = .ok (.iadd, 1) := by decide +kernel
theorem d_law_930 : decode code 930 = .ok (.iaload, 1) := by decide +kernel
theorem d_law_931 : decode code 931 = .ok (.invokevirtual 114, 3) := by decide +kernel
theorem d_law_934 : decode code 934 = .ok (.if_icmp .eq 213, 3) := by decide +kernel
theorem d_law_937 : decode code 937 = .ok (.iconst 0, 1) := by decide +kernel
theorem d_law_938 : decode code 938 = .ok (.ireturn, 1) := by decide +kernel
theorem d_law_939 : decode code 939 = .ok (.aload_n 1, 1) := by decide +kernel
theorem d_law_940 : decode code 940 = .ok (.aload_n 0, 1) := by decide +kernel
theorem d_law_941 : decode code 941 = .ok (.iload_n 3, 1) := by decide +kernel
theorem d_law_942 : decode code 942 = .ok (.iconst 1, 1) := by decide +kernel
theorem d_law_943 : decode code 943 = .ok (.iadd, 1) := by decide +kernel
theorem d_law_944 : decode code 944 = .ok (.iaload, 1) := by decide +kernel
theorem d_law_945 : decode code 945 = .ok (.aload_n 0, 1) := by decide +kernel
theorem d_law_946 : decode code 946 = .ok (.iload_n 3, 1) := by decide +kernel
theorem d_law_947 : decode code 947 = .ok (.iconst 2, 1) := by decide +kernel
theorem d_law_948 : decode code 948 = .ok (.iadd, 1) := by decide +kernel
theorem d_law_949 : decode code 949 = .ok (.iaload, 1) := by decide +kernel
theorem d_law_950 : decode code 950 = .ok (.aload_n 0, 1) := by decide +kernel
theorem d_law_951 : decode code 951 = .ok (.iload_n 3, 1) := by decide +kernel
theorem d_law_952 : decode code 952 = .ok (.iconst 3, 1) := by decide +kernel
theorem d_law_953 : decode code 953 = .ok (.iadd, 1) := by decide +kernel
theorem d_law_954 : decode code 954 = .ok (.iaload, 1) := by decide +kernel
theorem d_law_955 : decode code 955 = .ok (.invokevirtual 115, 3) := by decide +kernel
theorem d_law_958 : decode code 958 = .ok (.aload_n 2, 1) := by decide +kernel
theorem d_law_959 : decode code 959 = .ok (.aload_n 0, 1) := by decide +kernel
theorem d_law_960 : decode code 960 = .ok (.iload_n 3, 1) := by decide +kernel
theorem d_law_961 : decode code 961 = .ok (.iconst 1, 1) := by decide +kernel
theorem d_law_962 : decode code 962 = .ok (.iadd, 1) := by decide +kernel
theorem d_law_963 : decode code 963 = .ok (.iaload, 1) := by decide +kernel
theorem d_law_964 : decode code 964 = .ok (.aload_n 0, 1) := by decide +kernel
theorem d_law_965 : decode code 965 = .ok (.iload_n 3, 1) := by decide +kernel
theorem d_law_966 : decode code 966 = .ok (.iconst 2, 1) := by decide +kernel
theorem d_law_967 : decode code 967 = .ok (.iadd, 1) := by decide +kernel
theorem d_law_968 : decode code 968 = .ok (.iaload, 1) := by decide +kernel
theorem d_law_969 : decode code 969 = .ok (.aload_n 0, 1) := by decide +kernel
theorem d_law_970 : decode code 970 = .ok (.iload_n 3, 1) := by decide +kernel
theorem d_law_971 : decode code 971 = .ok (.iconst 3, 1) := by decide +kernel
theorem d_law_972 : decode code 972 = .ok (.iadd, 1) := by decide +kernel
theorem d_law_973 : decode code 973 = .ok (.iaload, 1) := by decide +kernel
theorem d_law_974 : decode code 974 = .ok (.invokevirtual 118, 3) := by decide +kernel
theorem d_law_977 : decode code 977 = .ok (.if_icmp .eq 170, 3) := by decide +kernel
theorem d_law_980 : decode code 980 = .ok (.iconst 0, 1) := by decide +kernel
theorem d_law_981 : decode code 981 = .ok (.ireturn, 1) := by decide +kernel
theorem d_law_982 : decode code 982 = .ok (.aload_n 1, 1) := by decide +kernel
theorem d_law_983 : decode code 983 = .ok (.aload_n 0, 1) := by decide +kernel
theorem d_law_984 : decode code 984 = .ok (.iload_n 3, 1) := by decide +kernel
theorem d_law_985 : decode code 985 = .ok (.iconst 1, 1) := by decide +kernel
theorem d_law_986 : decode code 986 = .ok (.iadd, 1) := by decide +kernel
theorem d_law_987 : decode code 987 = .ok (.iaload, 1) := by decide +kernel
theorem d_law_988 : decode code 988 = .ok (.aload_n 0, 1) := by decide +kernel
theorem d_law_989 : decode code 989 = .ok (.iload_n 3, 1) := by decide +kernel
theorem d_law_990 : decode code 990 = .ok (.iconst 2, 1) := by decide +kernel
theorem d_law_991 : decode code 991 = .ok (.iadd, 1) := by decide +kernel
theorem d_law_992 : decode code 992 = .ok (.iaload, 1) := by decide +kernel
theorem d_law_993 : decode code 993 = .ok (.aload_n 0, 1) := by decide +kernel
theorem d_law_994 : decode code 994 = .ok (.iload_n 3, 1) := by decide +kernel
theorem d_law_995 : decode code 995 = .ok (.iconst 3, 1) := by decide +kernel
theorem d_law_996 : decode code 996 = .ok (.iadd, 1) := by decide +kernel
theorem d_law_997 : decode code 997 = .ok (.iaload, 1) := by decide +kernel
theorem d_law_998 : decode code 998 = .ok (.invokevirtual 119, 3) := by decide +kernel
theorem d_law_1001 : decode code 1001 = .ok (.aload_n 2, 1) := by decide +kernel
theorem d_law_1002 : decode code 1002 = .ok (.aload_n 0, 1) := by decide +kernel
theorem d_law_1003 : decode code 1003 = .ok (.iload_n 3, 1) := by decide +kernel
theorem d_law_1004 : decode code 1004 = .ok (.iconst 1, 1) := by decide +kernel
theorem d_law_1005 : decode code 1005 = .ok (.iadd, 1) := by decide +kernel
theorem d_law_1006 : decode code 1006 = .ok (.iaload, 1) := by decide +kernel
theorem d_law_1007 : decode code 1007 = .ok (.aload_n 0, 1) := by decide +kernel
theorem d_law_1008 : decode code 1008 = .ok (.iload_n 3, 1) := by decide +kernel
theorem d_law_1009 : decode code 1009 = .ok (.iconst 2, 1) := by decide +kernel
theorem d_law_1010 : decode code 1010 = .ok (.iadd, 1) := by decide +kernel
theorem d_law_1011 : decode code 1011 = .ok (.iaload, 1) := by decide +kernel
theorem d_law_1012 : decode code 1012 = .ok (.aload_n 0, 1) := by decide +kernel
theorem d_law_1013 : decode code 1013 = .ok (.iload_n 3, 1) := by decide +kernel
theorem d_law_1014 : decode code 1014 = .ok (.iconst 3, 1) := by decide +kernel
theorem d_law_1015 : decode code 1015 = .ok (.iadd, 1) := by decide +kernel
theorem d_law_1016 : decode code 1016 = .ok (.iaload, 1) := by decide +kernel
theorem d_law_1017 : decode code 1017 = .ok (.invokevirtual 122, 3) := by decide +kernel
theorem d_law_1020 : decode code 1020 = .ok (.if_icmp .eq 127, 3) := by decide +kernel
theorem d_law_1023 : decode code 1023 = .ok (.iconst 0, 1) := by decide +kernel
theorem d_law_1024 : decode code 1024 = .ok (.ireturn, 1) := by decide +kernel
theorem d_law_1025 : decode code 1025 = .ok (.aload_n 1, 1) := by decide +kernel
theorem d_law_1026 : decode code 1026 = .ok (.aload_n 0, 1) := by decide +kernel
theorem d_law_1027 : decode code 1027 = .ok (.iload_n 3, 1) := by decide +kernel
theorem d_law_1028 : decode code 1028 = .ok (.iconst 1, 1) := by decide +kernel
theorem d_law_1029 : decode code 1029 = .ok (.iadd, 1) := by decide +kernel
theorem d_law_1030 : decode code 1030 = .ok (.iaload, 1) := by decide +kernel
theorem d_law_1031 : decode code 1031 = .ok (.aload_n 0, 1) := by decide +kernel
theorem d_law_1032 : decode code 1032 = .ok (.iload_n 3, 1) := by decide +kernel
theorem d_law_1033 : decode code 1033 = .ok (.iconst 2, 1) := by decide +kernel
theorem d_law_1034 : decode code 1034 = .ok (.iadd, 1) := by decide +kernel
theorem d_law_1035 : decode code 1035 = .ok (.iaload, 1) := by decide +kernel
theorem d_law_1036 : decode code 1036 = .ok (.aload_n 0, 1) := by decide +kernel
theorem d_law_1037 : decode code 1037 = .ok (.iload_n 3, 1) := by decide +kernel
theorem d_law_1038 : decode code 1038 = .ok (.iconst 3, 1) := by decide +kernel
theorem d_law_1039 : decode code 1039 = .ok (.iadd, 1) := by decide +kernel
theorem d_law_1040 : decode code 1040 = .ok (.iaload, 1) := by decide +kernel
theorem d_law_1041 : decode code 1041 = .ok (.invokevirtual 123, 3) := by decide +kernel
theorem d_law_1044 : decode code 1044 = .ok (.aload_n 2, 1) := by decide +kernel
theorem d_law_1045 : decode code 1045 = .ok (.aload_n 0, 1) := by decide +kernel
theorem d_law_1046 : decode code 1046 = .ok (.iload_n 3, 1) := by decide +kernel
theorem d_law_1047 : decode code 1047 = .ok (.iconst 1, 1) := by decide +kernel
theorem d_law_1048 : decode code 1048 = .ok (.iadd, 1) := by decide +kernel
theorem d_law_1049 : decode code 1049 = .ok (.iaload, 1) := by decide +kernel
theorem d_law_1050 : decode code 1050 = .ok (.aload_n 0, 1) := by decide +kernel
theorem d_law_1051 : decode code 1051 = .ok (.iload_n 3, 1) := by decide +kernel
theorem d_law_1052 : decode code 1052 = .ok (.iconst 2, 1) := by decide +kernel
theorem d_law_1053 : decode code 1053 = .ok (.iadd, 1) := by decide +kernel
theorem d_law_1054 : decode code 1054 = .ok (.iaload, 1) := by decide +kernel
theorem d_law_1055 : decode code 1055 = .ok (.aload_n 0, 1) := by decide +kernel
theorem d_law_1056 : decode code 1056 = .ok (.iload_n 3, 1) := by decide +kernel
theorem d_law_1057 : decode code 1057 = .ok (.iconst 3, 1) := by decide +kernel
theorem d_law_1058 : decode code 1058 = .ok (.iadd, 1) := by decide +kernel
theorem d_law_1059 : decode code 1059 = .ok (.iaload, 1) := by decide +kernel
theorem d_law_1060 : decode code 1060 = .ok (.invokevirtual 126, 3) := by decide +kernel
theorem d_law_1063 : decode code 1063 = .ok (.if_icmp .eq 84, 3) := by decide +kernel
theorem d_law_1066 : decode code 1066 = .ok (.iconst 0, 1) := by decide +kernel
theorem d_law_1067 : decode code 1067 = .ok (.ireturn, 1) := by decide +kernel
theorem d_law_1068 : decode code 1068 = .ok (.aload_n 1, 1) := by decide +kernel
theorem d_law_1069 : decode code 1069 = .ok (.aload_n 0, 1) := by decide +kernel
theorem d_law_1070 : decode code 1070 = .ok (.iload_n 3, 1) := by decide +kernel
theorem d_law_1071 : decode code 1071 = .ok (.iconst 1, 1) := by decide +kernel
theorem d_law_1072 : decode code 1072 = .ok (.iadd, 1) := by decide +kernel
theorem d_law_1073 : decode code 1073 = .ok (.iaload, 1) := by decide +kernel
theorem d_law_1074 : decode code 1074 = .ok (.aload_n 0, 1) := by decide +kernel
theorem d_law_1075 : decode code 1075 = .ok (.iload_n 3, 1) := by decide +kernel
theorem d_law_1076 : decode code 1076 = .ok (.iconst 2, 1) := by decide +kernel
theorem d_law_1077 : decode code 1077 = .ok (.iadd, 1) := by decide +kernel
theorem d_law_1078 : decode code 1078 = .ok (.iaload, 1) := by decide +kernel
theorem d_law_1079 : decode code 1079 = .ok (.invokevirtual 127, 3) := by decide +kernel
theorem d_law_1082 : decode code 1082 = .ok (.aload_n 2, 1) := by decide +kernel
theorem d_law_1083 : decode code 1083 = .ok (.aload_n 0, 1) := by decide +kernel
theorem d_law_1084 : decode code 1084 = .ok (.iload_n 3, 1) := by decide +kernel
theorem d_law_1085 : decode code 1085 = .ok (.iconst 1, 1) := by decide +kernel
theorem d_law_1086 : decode code 1086 = .ok (.iadd, 1) := by decide +kernel
theorem d_law_1087 : decode code 1087 = .ok (.iaload, 1) := by decide +kernel
theorem d_law_1088 : decode code 1088 = .ok (.aload_n 0, 1) := by decide +kernel
theorem d_law_1089 : decode code 1089 = .ok (.iload_n 3, 1) := by decide +kernel
theorem d_law_1090 : decode code 1090 = .ok (.iconst 2, 1) := by decide +kernel
theorem d_law_1091 : decode code 1091 = .ok (.iadd, 1) := by decide +kernel
theorem d_law_1092 : decode code 1092 = .ok (.iaload, 1) := by decide +kernel
theorem d_law_1093 : decode code 1093 = .ok (.invokevirtual 130, 3) := by decide +kernel
theorem d_law_1096 : decode code 1096 = .ok (.if_icmp .eq 51, 3) := by decide +kernel
theorem d_law_1099 : decode code 1099 = .ok (.iconst 0, 1) := by decide +kernel
theorem d_law_1100 : decode code 1100 = .ok (.ireturn, 1) := by decide +kernel
theorem d_law_1101 : decode code 1101 = .ok (.aload_n 1, 1) := by decide +kernel
theorem d_law_1102 : decode code 1102 = .ok (.aload_n 0, 1) := by decide +kernel
theorem d_law_1103 : decode code 1103 = .ok (.iload_n 3, 1) := by decide +kernel
theorem d_law_1104 : decode code 1104 = .ok (.iconst 1, 1) := by decide +kernel
theorem d_law_1105 : decode code 1105 = .ok (.iadd, 1) := by decide +kernel
theorem d_law_1106 : decode code 1106 = .ok (.iaload, 1) := by decide +kernel
theorem d_law_1107 : decode code 1107 = .ok (.invokevirtual 131, 3) := by decide +kernel
theorem d_law_1110 : decode code 1110 = .ok (.aload_n 2, 1) := by decide +kernel
theorem d_law_1111 : decode code 1111 = .ok (.aload_n 0, 1) := by decide +kernel
theorem d_law_1112 : decode code 1112 = .ok (.iload_n 3, 1) := by decide +kernel
theorem d_law_1113 : decode code 1113 = .ok (.iconst 1, 1) := by decide +kernel
theorem d_law_1114 : decode code 1114 = .ok (.iadd, 1) := by decide +kernel
theorem d_law_1115 : decode code 1115 = .ok (.iaload, 1) := by decide +kernel
theorem d_law_1116 : decode code 1116 = .ok (.invokevirtual 134, 3) := by decide +kernel
theorem d_law_1119 : decode code 1119 = .ok (.if_icmp .eq 28, 3) := by decide +kernel
theorem d_law_1122 : decode code 1122 = .ok (.iconst 0, 1) := by decide +kernel
theorem d_law_1123 : decode code 1123 = .ok (.ireturn, 1) := by decide +kernel
theorem d_law_1124 : decode code 1124 = .ok (.aload_n 1, 1) := by decide +kernel
theorem d_law_1125 : decode code 1125 = .ok (.aload_n 0, 1) := by decide +kernel
theorem d_law_1126 : decode code 1126 = .ok (.iload_n 3, 1) := by decide +kernel
theorem d_law_1127 : decode code 1127 = .ok (.iconst 1, 1) := by decide +kernel
theorem d_law_1128 : decode code 1128 = .ok (.iadd, 1) := by decide +kernel
theorem d_law_1129 : decode code 1129 = .ok (.iaload, 1) := by decide +kernel
theorem d_law_1130 : decode code 1130 = .ok (.invokevirtual 135, 3) := by decide +kernel
theorem d_law_1133 : decode code 1133 = .ok (.aload_n 2, 1) := by decide +kernel
theorem d_law_1134 : decode code 1134 = .ok (.aload_n 0, 1) := by decide +kernel
theorem d_law_1135 : decode code 1135 = .ok (.iload_n 3, 1) := by decide +kernel
theorem d_law_1136 : decode code 1136 = .ok (.iconst 1, 1) := by decide +kernel
theorem d_law_1137 : decode code 1137 = .ok (.iadd, 1) := by decide +kernel
theorem d_law_1138 : decode code 1138 = .ok (.iaload, 1) := by decide +kernel
theorem d_law_1139 : decode code 1139 = .ok (.invokevirtual 138, 3) := by decide +kernel
theorem d_law_1142 : decode code 1142 = .ok (.if_icmp .eq 5, 3) := by decide +kernel
theorem d_law_1145 : decode code 1145 = .ok (.iconst 0, 1) := by decide +kernel
theorem d_law_1146 : decode code 1146 = .ok (.ireturn, 1) := by decide +kernel
theorem d_law_1147 : decode code 1147 = .ok (.iinc 3 6, 3) := by decide +kernel
theorem d_law_1150 : decode code 1150 = .ok (.goto (-1132), 3) := by decide +kernel
theorem d_law_1153 : decode code 1153 = .ok (.iconst 1, 1) := by decide +kernel
theorem d_law_1154 : decode code 1154 = .ok (.ireturn, 1) := by decide +kernel
def Op_feed (Inv : GSt → Prop) : Prop := ∀ (a0 : Int32) (a1 : Int64) (σ : GSt), Inv σ → D_X10_feed a0 a1 σ (fun r1 σ1 => D_X11_feed a0 a1 σ1 (fun r2 σ2 => r1 = r2 ∧ Inv σ2))
def Op_game (Inv : GSt → Prop) : Prop := ∀ (σ : GSt), Inv σ → D_X10_game  σ (fun r1 σ1 => D_X11_game  σ1 (fun r2 σ2 => r1 = r2 ∧ Inv σ2))
def Op_of (Inv : GSt → Prop) : Prop := ∀ (a0 : Int32) (a1 : Int32) (σ : GSt), Inv σ → D_X10_of a0 a1 σ (fun r1 σ1 => D_X11_of a0 a1 σ1 (fun r2 σ2 => r1 = r2 ∧ Inv σ2))
def Op_letter (Inv : GSt → Prop) : Prop := ∀ (a0 : Int32) (a1 : Int32) (σ : GSt), Inv σ → D_X10_letter a0 a1 σ (fun r1 σ1 => D_X11_letter a0 a1 σ1 (fun r2 σ2 => r1 = r2 ∧ Inv σ2))
def Op_start (Inv : GSt → Prop) : Prop := ∀ (a0 : Int32) (σ : GSt), Inv σ → D_X10_start a0 σ (fun r1 σ1 => D_X11_start a0 σ1 (fun r2 σ2 => r1 = r2 ∧ Inv σ2))
def Op_move (Inv : GSt → Prop) : Prop := ∀ (a0 : Int32) (σ : GSt), Inv σ → D_X10_move a0 σ (fun r1 σ1 => D_X11_move a0 σ1 (fun r2 σ2 => r1 = r2 ∧ Inv σ2))
def Op_play (Inv : GSt → Prop) : Prop := ∀ (a0 : Int32) (σ : GSt), Inv σ → D_X10_play a0 σ (fun r1 σ1 => D_X11_play a0 σ1 (fun r2 σ2 => r1 = r2 ∧ Inv σ2))
def Op_back (Inv : GSt → Prop) : Prop := ∀ (σ : GSt), Inv σ → D_X10_back  σ (fun r1 σ1 => D_X11_back  σ1 (fun r2 σ2 => r1 = r2 ∧ Inv σ2))
def Op_state (Inv : GSt → Prop) : Prop := ∀ (a0 : Int32) (σ : GSt), Inv σ → D_X10_state a0 σ (fun r1 σ1 => D_X11_state a0 σ1 (fun r2 σ2 => r1 = r2 ∧ Inv σ2))
def Op_cell (Inv : GSt → Prop) : Prop := ∀ (a0 : Int32) (σ : GSt), Inv σ → D_X10_cell a0 σ (fun r1 σ1 => D_X11_cell a0 σ1 (fun r2 σ2 => r1 = r2 ∧ Inv σ2))
def Op_look (Inv : GSt → Prop) : Prop := ∀ (a0 : Int32) (σ : GSt), Inv σ → D_X10_look a0 σ (fun r1 σ1 => D_X11_look a0 σ1 (fun r2 σ2 => r1 = r2 ∧ Inv σ2))
def Op_best (Inv : GSt → Prop) : Prop := ∀ (a0 : Int32) (σ : GSt), Inv σ → D_X10_best a0 σ (fun r1 σ1 => D_X11_best a0 σ1 (fun r2 σ2 => r1 = r2 ∧ Inv σ2))
def Op_ways (Inv : GSt → Prop) : Prop := ∀ (a0 : Int32) (σ : GSt), Inv σ → D_X10_ways a0 σ (fun r1 σ1 => D_X11_ways a0 σ1 (fun r2 σ2 => r1 = r2 ∧ Inv σ2))
def Op_match (Inv : GSt → Prop) : Prop := ∀ (a0 : Int32) (a1 : Int32) (a2 : Int32) (a3 : Int32) (σ : GSt), Inv σ → D_X10_match a0 a1 a2 a3 σ (fun r1 σ1 => D_X11_match a0 a1 a2 a3 σ1 (fun r2 σ2 => r1 = r2 ∧ Inv σ2))
def Op_measure (Inv : GSt → Prop) : Prop := ∀ (a0 : Int32) (a1 : Int32) (a2 : Int32) (a3 : Int32) (a4 : Int32) (σ : GSt), Inv σ → D_X10_measure a0 a1 a2 a3 a4 σ (fun r1 σ1 => D_X11_measure a0 a1 a2 a3 a4 σ1 (fun r2 σ2 => r1 = r2 ∧ Inv σ2))
def Op_verdicts (Inv : GSt → Prop) : Prop := ∀ (a0 : Int32) (a1 : Int32) (σ : GSt), Inv σ → D_X10_verdicts a0 a1 σ (fun r1 σ1 => D_X11_verdicts a0 a1 σ1 (fun r2 σ2 => r1 = r2 ∧ Inv σ2))
def Op_distance (Inv : GSt → Prop) : Prop := ∀ (a0 : Int32) (a1 : Int32) (a2 : Int32) (σ : GSt), Inv σ → D_X10_distance a0 a1 a2 σ (fun r1 σ1 => D_X11_distance a0 a1 a2 σ1 (fun r2 σ2 => r1 = r2 ∧ Inv σ2))
def Op_whatFor (Inv : GSt → Prop) : Prop := ∀ (a0 : Int32) (a1 : Int32) (a2 : Int32) (σ : GSt), Inv σ → D_X10_whatFor a0 a1 a2 σ (fun r1 σ1 => D_X11_whatFor a0 a1 a2 σ1 (fun r2 σ2 => r1 = r2 ∧ Inv σ2))
def Op_graft (Inv : GSt → Prop) : Prop := ∀ (a0 : Int32) (a1 : Int32) (σ : GSt), Inv σ → D_X10_graft a0 a1 σ (fun r1 σ1 => D_X11_graft a0 a1 σ1 (fun r2 σ2 => r1 = r2 ∧ Inv σ2))
def Op_drop (Inv : GSt → Prop) : Prop := ∀ (a0 : Int32) (a1 : Int32) (a2 : Int32) (σ : GSt), (a2 = 0 ∨ a2 = 1) → Inv σ → D_X10_drop a0 a1 a2 σ (fun r1 σ1 => D_X11_drop a0 a1 a2 σ1 (fun r2 σ2 => r1 = r2 ∧ Inv σ2))
def Op_change (Inv : GSt → Prop) : Prop := ∀ (a0 : Int32) (a1 : Int32) (a2 : Int32) (σ : GSt), Inv σ → D_X10_change a0 a1 a2 σ (fun r1 σ1 => D_X11_change a0 a1 a2 σ1 (fun r2 σ2 => r1 = r2 ∧ Inv σ2))
def Op_mirror (Inv : GSt → Prop) : Prop := ∀ (a0 : Int32) (σ : GSt), Inv σ → D_X10_mirror a0 σ (fun r1 σ1 => D_X11_mirror a0 σ1 (fun r2 σ2 => r1 = r2 ∧ Inv σ2))
def Op_kin (Inv : GSt → Prop) : Prop := ∀ (a0 : Int32) (a1 : Int32) (a2 : Int32) (σ : GSt), Inv σ → D_X10_kin a0 a1 a2 σ (fun r1 σ1 => D_X11_kin a0 a1 a2 σ1 (fun r2 σ2 => r1 = r2 ∧ Inv σ2))
def Op_puzzle (Inv : GSt → Prop) : Prop := ∀ (a0 : Int32) (a1 : Int32) (a2 : Int32) (σ : GSt), Inv σ → D_X10_puzzle a0 a1 a2 σ (fun r1 σ1 => D_X11_puzzle a0 a1 a2 σ1 (fun r2 σ2 => r1 = r2 ∧ Inv σ2))
def Op_blunder (Inv : GSt → Prop) : Prop := ∀ (a0 : Int32) (a1 : Int32) (a2 : Int32) (σ : GSt), Inv σ → D_X10_blunder a0 a1 a2 σ (fun r1 σ1 => D_X11_blunder a0 a1 a2 σ1 (fun r2 σ2 => r1 = r2 ∧ Inv σ2))
def Op_pie (Inv : GSt → Prop) : Prop := ∀ (a0 : Int32) (a1 : Int32) (a2 : Int32) (σ : GSt), Inv σ → D_X10_pie a0 a1 a2 σ (fun r1 σ1 => D_X11_pie a0 a1 a2 σ1 (fun r2 σ2 => r1 = r2 ∧ Inv σ2))
def Op_keep (Inv : GSt → Prop) : Prop := ∀ (a0 : Int32) (a1 : Int32) (σ : GSt), Inv σ → D_X10_keep a0 a1 σ (fun r1 σ1 => D_X11_keep a0 a1 σ1 (fun r2 σ2 => r1 = r2 ∧ Inv σ2))
def Op_niche (Inv : GSt → Prop) : Prop := ∀ (a0 : Int32) (σ : GSt), Inv σ → D_X10_niche a0 σ (fun r1 σ1 => D_X11_niche a0 σ1 (fun r2 σ2 => r1 = r2 ∧ Inv σ2))
def Op_count (Inv : GSt → Prop) : Prop := ∀ (a0 : Int32) (σ : GSt), Inv σ → D_X10_count a0 σ (fun r1 σ1 => D_X11_count a0 σ1 (fun r2 σ2 => r1 = r2 ∧ Inv σ2))
def Ops (Inv : GSt → Prop) : Prop := Op_feed Inv ∧ Op_game Inv ∧ Op_of Inv ∧ Op_letter Inv ∧ Op_start Inv ∧ Op_move Inv ∧ Op_play Inv ∧ Op_back Inv ∧ Op_state Inv ∧ Op_cell Inv ∧ Op_look Inv ∧ Op_best Inv ∧ Op_ways Inv ∧ Op_match Inv ∧ Op_measure Inv ∧ Op_verdicts Inv ∧ Op_distance Inv ∧ Op_whatFor Inv ∧ Op_graft Inv ∧ Op_drop Inv ∧ Op_change Inv ∧ Op_mirror Inv ∧ Op_kin Inv ∧ Op_puzzle Inv ∧ Op_blunder Inv ∧ Op_pie Inv ∧ Op_keep Inv ∧ Op_niche Inv ∧ Op_count Inv
section GLW
variable {p : Program} {l : Launch} {e : Env} {R : Room} {s : State} {m : MethodId} {args : Array Value} {below : List Frame} {meth : Method} {c : Code} {H : Heap} {locs : List Loc} {cells slots : Nat} {Q : State → Prop} {cc : ByteArray} {pc nL : Nat} {ls : Array Slot} {rest : List Value} {G : GC} {σ : GSt} {own : String} {idx : Nat}
theorem gcL_i {y : MethodName} {b : ByteArray} {mL n : Nat} {rt : FieldType} {rm : Room} {Qf : Int32 → GSt → Prop} {o ci N : Nat} {C : String} {T : u_T} {fs : List Value} {As : List Value} {st : List Value} (X : CallFix p m c cc nL s args lw_us own) (hw : Wo G s H locs σ) (hM : MI l y b mL rt rm G σ (.ref (G.2.1 o) :: As) Qf) (ho : o < 279) (hce : ce G (σ o) o = .inr (ci, fs)) (hcl : clW[ci]? = some (C, T, N)) (h1 : Cond.methodLink own idx y ∈ lw_us) (h2 : Cond.instanceMethod y ∈ lw_us) (h3 : Cond.selects C y y ∈ lw_us) (h4 : Cond.initialized C ∈ lw_us) (h5 : Cond.code y b mL (some rt) ∈ lw_us) (hd : y.cls = C ∧ y.cls ≠ "java/lang/invoke/MethodHandle" ∧ y.cls ≠ "java/lang/invoke/VarHandle" ∧ (parseMethodDescriptor y.desc).map (fun d => d.parameters.length) = some n) (hrm : rm.cells = 0 ∧ rm.slots = 0) (hR : rm.frames + 1 ≤ R.frames ∧ 8 + (mL + 11) + rm.locals ≤ R.locals) (hn : As.length = n) (hsz : ls.size = nL) (hst : st = As.reverse ++ .ref (G.2.1 o) :: rest) (hW8 : (rest.map fun v => v.category).sum ≤ 8) (hcs : cells ≤ R.cells ∧ slots ≤ R.slots) (hdg : decode cc pc = .ok (.invokevirtual idx, 3)) (kk : ∀ (r : Int32) (σ' : GSt) (H1 : Heap) (locs1 : List Loc), Qf r σ' → Wo G s H1 locs1 σ' → W p l e R s m args below meth c H1 locs1 cells slots Q (F0 m (pc + 3) ls (.int r :: rest))) : W p l e R s m args below meth c H locs cells slots Q (F0 m pc ls st) :=
  va_calli (post := Qf) (B := fun σ' t => WoE G σ' t) (A1 := Aw G) (va_runV (As := As) (rest := rest) X hM (cwV n X.2.2.2.2 (good_V h1 h2 h3 h4 (good_code h5)) rfl hrm.1 hrm.2 hd hR) ⟨blind_Pc, va_recv hw.1 hw.2.1 hcl (wsW_get ho hce), fun U hU hW => ⟨rfl, hw.here hU hW⟩⟩ rfl hn hsz hst (lv_room hW8) hdg hcs) hw.2.2.2.1 (fun _ _ h => h) (fun _ h => h) (fun r u t H1 locs1 ht hvm hq hB hz hk hS => kk r u H1 locs1 hq ⟨hw.1, by rw [← ht]; exact hB.2.1, hB.2.2.1, hS, hw.2.2.2.2⟩)
end GLW
theorem law_no {L i : Nat} {x3 : Int32} (hL : L ≤ 3072) (h : i + 6 ≤ L) (ex3 : x3 = nI i) : ¬ (Int32.ofNat L - 6 : Int32) < x3 := by
  intro q
  have q2 := Int32.lt_iff_toInt_lt.mp q
  have e : (Int32.ofNat L - 6 : Int32).toInt = (L : Int) - 6 := pk_sub_toInt (a := L) (b := 6) (by omega) (by omega)
  rw [e, ex3, nI_toInt (by omega)] at q2
  omega
theorem law_yes {L i : Nat} {x3 : Int32} (hL : L ≤ 3072) (hi : i ≤ 4000) (h : L < i + 6) (ex3 : x3 = nI i) : (Int32.ofNat L - 6 : Int32) < x3 := by
  rw [Int32.lt_iff_toInt_lt]
  have e : (Int32.ofNat L - 6 : Int32).toInt = (L : Int) - 6 := pk_sub_toInt (a := L) (b := 6) (by omega) (by omega)
  rw [e, ex3, nI_toInt (by omega)]
  omega
def R_law : String := "GameLoomLaw"
def lw_P (b : Addr) (xs : List Int32) (args : Array Value) (s : State) : Prop := args = #[.ref b] ∧ s.IntsAt b xs ∧ xs.length ≤ 3072 ∧ (Jvm.Cond.and given_1 narrow_1).before args s = true
def lw_Q (_ : Array Value) (s : State) (o : Outcome) (t : State) : Prop := o = .returned (some (.int 1)) ∧ Framed s o t [] 600000 7302250
def lw_Z (below : List Frame) (a : Array Value) (s : State) : State → Prop := fun t => ∃ o, t.status = .running ∧ Ended t below o ∧ lw_Q a s o t
/-- the law's own end, with 1 on the stack, nothing written that was there before, its room as the claim has it -/
theorem lw_ret {p : Program} {l : Launch} {e : Env} {s : State} {m : MethodId} {below : List Frame} {meth : Method} {c : Code} {b : Nat} (hx : p.tables.exec = Jvm.exec) (hb : c.code = code) (hr : meth.sig.returnType = ret) (hlocks : meth.locks = false) {pc : Nat} {H : Heap} {ls : Array Slot} (hdg : decode code pc = .ok (.ireturn, 1)) : W p l e room_1 s m #[Value.ref b] below meth c H [] 600000 7302250 (lw_Z below #[Value.ref b] s) (F0 m pc ls [.int 1]) := by
  intro T hT X
  obtain ⟨fs, hret, hrun, hended, hW, hframe⟩ := X.leave (v := some (.int 1)) (hlocks := hlocks) (fun h => by rw [hr] at h; cases h)
  have hmeth' : T.vm.method? m = some meth := X.method'
  refine ⟨T.setFrames fs, ?_, .returned (some (.int 1)), hrun, hended, rfl, ⟨_, rfl⟩, hW, hframe⟩
  jvm_step X.here [X.here.top, hx, hb, hdg, hmeth', hr, ret, narrow_b1]
  (try refine ⟨rfl, ?_⟩); (try refine ⟨rfl, ?_⟩)
  first | (intro acts; rw [hret _ acts rfl rfl rfl]) | rw [hret _ _ rfl rfl rfl]
  exact Steps.refl _
/-- what holds at the law's entry: the machine, the code, the tables' words (any of lw_tbl by 'hts w (by decide +kernel)'), the script of L ints xs at the cell b, what the Statement gives of the start (any of its parts by flat_of_before) -/
def lw_At (p : Program) (s : State) (m : MethodId) (meth : Method) (c : Code) (b L : Nat) (xs : Nat → Int32) : Prop :=
  p.tables.exec = Jvm.exec ∧ c.code = code ∧ meth.sig.returnType = ret ∧ c.maxLocals = 4 ∧ s.vm.findClass R_law = some m.cls ∧ (∀ w ∈ lw_tbl, w.before #[Value.ref b] s = true) ∧ va_X b L xs s s.heap ∧ b < s.heap.size ∧ meth.locks = false ∧ (Jvm.Cond.and given_1 narrow_1).before #[Value.ref b] s = true

set_option maxRecDepth 20000 in
set_option maxHeartbeats 4000000 in
theorem law_end {p : Program} {l : Launch} {e : Env} {s : State} {m : MethodId} {below : List Frame} {meth : Method} {c : Code} {G : GC} {b L : Nat} {xs : Nat → Int32} {cells slots : Nat} (hcs : cells ≤ room_1.cells ∧ slots ≤ room_1.slots) (hx : p.tables.exec = Jvm.exec) (hb : c.code = code) (hml : c.maxLocals = 4) (hown : s.vm.findClass "GameLoomLaw" = some m.cls) (hts : ∀ w ∈ lw_us, w.before #[Value.ref b] s = true) (hX : va_X b L xs s s.heap) (hbl : b < s.heap.size) (hbA : ¬ Aw G b) (hr : meth.sig.returnType = ret) (hlocks : meth.locks = false) (hL : L ≤ 3072) (hAs : ∀ q, Aw G q → s.heap.size ≤ q) (i : Nat) (h : L < i + 6) (x3 : Int32) (ex3 : x3 = nI i) (σ : GSt) (H : Heap) (locs : List Loc) (ls : Array Slot) (hw : Wo G s H locs σ) (hl : lv_has ls 4 [(0, .ref b), (1, .ref (G.2.1 0)), (2, .ref (G.2.1 237)), (3, .int x3)]) (hi : i ≤ L + 6 := by omega) : W p l e room_1 s m #[Value.ref b] below meth c H locs cells slots (lw_Z below #[Value.ref b] s) (F0 m 18 ls []) := by
  refine lv_iload_n hx hb d_law_18 rfl (lv_at hl 3 rfl) ?_
  refine lv_aload_n hx hb d_law_19 rfl (lv_at hl 0 rfl) ?_
  refine va_slen hx hb hX hbl hbA hw.2.2.2.1 d_law_20 ?_
  refine lv_bipush (v := 6) hx hb d_law_21 (by decide) ?_
  refine lv_isub hx hb d_law_23 ?_
  refine lv_icmp_gt (tgt := 1153) hx hb d_law_24 (by decide) (fun _ => ?_) (fun q9 => absurd (law_yes hL (by omega) h ex3) q9)
  refine lv_iconst (v := 1) hx hb d_law_1153 (by decide) ?_
  refine va_forget (fun q hq => hAs _ (hw.2.2.2.1.2.2 q hq)) ?_
  refine W.widen (k := 600000) (n := 7302250) hcs.1 hcs.2 ?_
  exact lw_ret hx hb hr hlocks d_law_1154

set_option maxRecDepth 20000 in
set_option maxHeartbeats 4000000 in
theorem law_feed {p : Program} {l : Launch} {e : Env} {s : State} {m : MethodId} {below : List Frame} {meth : Method} {c : Code} {G : GC} {b L : Nat} {xs : Nat → Int32} {cells slots : Nat} (Inv : GSt → Prop) (hcs : cells ≤ room_1.cells ∧ slots ≤ room_1.slots) (hx : p.tables.exec = Jvm.exec) (hb : c.code = code) (hml : c.maxLocals = 4) (hown : s.vm.findClass "GameLoomLaw" = some m.cls) (hts : ∀ w ∈ lw_us, w.before #[Value.ref b] s = true) (hX : va_X b L xs s s.heap) (hbl : b < s.heap.size) (hbA : ¬ Aw G b) (x3 : Int32) (hin1 : vp_in (x3 + 1) L) (hin2 : vp_in (x3 + 2) L) (hin3 : vp_in (x3 + 3) L) (hin4 : vp_in (x3 + 4) L) (hin5 : vp_in (x3 + 5) L) (hop_feed : Op_feed Inv) (σ : GSt) (hI : Inv σ) {H : Heap} {locs : List Loc} {ls : Array Slot} (hnext : ∀ (σ : GSt) (H : Heap) (locs : List Loc) (ls : Array Slot), Inv σ → Wo G s H locs σ → lv_has ls 4 [(0, .ref b), (1, .ref (G.2.1 0)), (2, .ref (G.2.1 237)), (3, .int x3)] → W p l e room_1 s m #[Value.ref b] below meth c H locs cells slots (lw_Z below #[Value.ref b] s) (F0 m 1147 ls [])) (hw : Wo G s H locs σ) (hl : lv_has ls 4 [(0, .ref b), (1, .ref (G.2.1 0)), (2, .ref (G.2.1 237)), (3, .int x3)]) : W p l e room_1 s m #[Value.ref b] below meth c H locs cells slots (lw_Z below #[Value.ref b] s) (F0 m 164 ls []) := by
  refine lv_aload_n hx hb d_law_164 rfl (lv_at hl 1 rfl) ?_
  refine lv_aload_n hx hb d_law_165 rfl (lv_at hl 0 rfl) ?_
  refine lv_iload_n hx hb d_law_166 rfl (lv_at hl 3 rfl) ?_
  refine lv_iconst (v := 1) hx hb d_law_167 (by decide) ?_
  refine lv_iadd hx hb d_law_168 ?_
  refine va_sld hx hb hX hbl hbA hw.2.2.2.1 hin1 d_law_169 ?_
  refine lv_aload_n hx hb d_law_170 rfl (lv_at hl 0 rfl) ?_
  refine lv_iload_n hx hb d_law_171 rfl (lv_at hl 3 rfl) ?_
  refine lv_iconst (v := 2) hx hb d_law_172 (by decide) ?_
  refine lv_iadd hx hb d_law_173 ?_
  refine va_sld hx hb hX hbl hbA hw.2.2.2.1 hin2 d_law_174 ?_
  refine lv_i2l (v := (Int32.toInt64 (xs (Int32.toNatClampNeg (x3 + 2))))) hx hb d_law_175 rfl ?_
  refine lv_bipush (v := 32) hx hb d_law_176 (by decide) ?_
  refine lv_lshl (v := (jlshl (Int32.toInt64 (xs (Int32.toNatClampNeg (x3 + 2)))) 32)) hx hb d_law_178 rfl ?_
  refine lv_aload_n hx hb d_law_179 rfl (lv_at hl 0 rfl) ?_
  refine lv_iload_n hx hb d_law_180 rfl (lv_at hl 3 rfl) ?_
  refine lv_iconst (v := 3) hx hb d_law_181 (by decide) ?_
  refine lv_iadd hx hb d_law_182 ?_
  refine va_sld hx hb hX hbl hbA hw.2.2.2.1 hin3 d_law_183 ?_
  refine lv_i2l (v := (Int32.toInt64 (xs (Int32.toNatClampNeg (x3 + 3))))) hx hb d_law_184 rfl ?_
  refine lv_ldc2 (v := 4294967295) hx hb hown (hts _ tb_1403) d_law_185 ?_
  refine lv_land hx hb d_law_188 ?_
  refine lv_lor hx hb d_law_189 ?_
  have hD := hop_feed (xs (Int32.toNatClampNeg (x3 + 1))) ((jlshl (Int32.toInt64 (xs (Int32.toNatClampNeg (x3 + 2)))) 32) ||| ((Int32.toInt64 (xs (Int32.toNatClampNeg (x3 + 3)))) &&& 4294967295)) σ hI
  refine gcL_i (rest := []) (As := [.int (xs (Int32.toNatClampNeg (x3 + 1))), .long ((jlshl (Int32.toInt64 (xs (Int32.toNatClampNeg (x3 + 2)))) 32) ||| ((Int32.toInt64 (xs (Int32.toNatClampNeg (x3 + 3)))) &&& 4294967295))]) (o := 0) ⟨hx, hb, hml, hown, hts⟩ hw (c_X10_feed l G (xs (Int32.toNatClampNeg (x3 + 1))) ((jlshl (Int32.toInt64 (xs (Int32.toNatClampNeg (x3 + 2)))) 32) ||| ((Int32.toInt64 (xs (Int32.toNatClampNeg (x3 + 3)))) &&& 4294967295)) σ _ hD) (by decide) (ce_10 G _ (by decide +kernel)) rfl tb_416 tb_417 tb_418 tb_1 tb_419 hd_X10_feed ⟨rfl, rfl⟩ ⟨Nat.le_of_ble_eq_true rfl, Nat.le_of_ble_eq_true rfl⟩ rfl hl.1 rfl (Nat.le_of_ble_eq_true rfl) hcs d_law_190 (fun r_1 σ_2 H locs hD hw => ?_)
  refine lv_aload_n hx hb d_law_193 rfl (lv_at hl 2 rfl) ?_
  refine lv_aload_n hx hb d_law_194 rfl (lv_at hl 0 rfl) ?_
  refine lv_iload_n hx hb d_law_195 rfl (lv_at hl 3 rfl) ?_
  refine lv_iconst (v := 1) hx hb d_law_196 (by decide) ?_
  refine lv_iadd hx hb d_law_197 ?_
  refine va_sld hx hb hX hbl hbA hw.2.2.2.1 hin1 d_law_198 ?_
  refine lv_aload_n hx hb d_law_199 rfl (lv_at hl 0 rfl) ?_
  refine lv_iload_n hx hb d_law_200 rfl (lv_at hl 3 rfl) ?_
  refine lv_iconst (v := 2) hx hb d_law_201 (by decide) ?_
  refine lv_iadd hx hb d_law_202 ?_
  refine va_sld hx hb hX hbl hbA hw.2.2.2.1 hin2 d_law_203 ?_
  refine lv_i2l (v := (Int32.toInt64 (xs (Int32.toNatClampNeg (x3 + 2))))) hx hb d_law_204 rfl ?_
  refine lv_bipush (v := 32) hx hb d_law_205 (by decide) ?_
  refine lv_lshl (v := (jlshl (Int32.toInt64 (xs (Int32.toNatClampNeg (x3 + 2)))) 32)) hx hb d_law_207 rfl ?_
  refine lv_aload_n hx hb d_law_208 rfl (lv_at hl 0 rfl) ?_
  refine lv_iload_n hx hb d_law_209 rfl (lv_at hl 3 rfl) ?_
  refine lv_iconst (v := 3) hx hb d_law_210 (by decide) ?_
  refine lv_iadd hx hb d_law_211 ?_
  refine va_sld hx hb hX hbl hbA hw.2.2.2.1 hin3 d_law_212 ?_
  refine lv_i2l (v := (Int32.toInt64 (xs (Int32.toNatClampNeg (x3 + 3))))) hx hb d_law_213 rfl ?_
  refine lv_ldc2 (v := 4294967295) hx hb hown (hts _ tb_1403) d_law_214 ?_
  refine lv_land hx hb d_law_217 ?_
  refine lv_lor hx hb d_law_218 ?_
  refine gcL_i (rest := [.int r_1]) (As := [.int (xs (Int32.toNatClampNeg (x3 + 1))), .long ((jlshl (Int32.toInt64 (xs (Int32.toNatClampNeg (x3 + 2)))) 32) ||| ((Int32.toInt64 (xs (Int32.toNatClampNeg (x3 + 3)))) &&& 4294967295))]) (o := 237) ⟨hx, hb, hml, hown, hts⟩ hw (c_X11_feed l G (xs (Int32.toNatClampNeg (x3 + 1))) ((jlshl (Int32.toInt64 (xs (Int32.toNatClampNeg (x3 + 2)))) 32) ||| ((Int32.toInt64 (xs (Int32.toNatClampNeg (x3 + 3)))) &&& 4294967295)) σ_2 _ hD) (by decide) (ce_11 G _ (by decide +kernel)) rfl tb_1076 tb_1077 tb_1078 tb_12 tb_1079 hd_X11_feed ⟨rfl, rfl⟩ ⟨Nat.le_of_ble_eq_true rfl, Nat.le_of_ble_eq_true rfl⟩ rfl hl.1 rfl (Nat.le_of_ble_eq_true rfl) hcs d_law_219 (fun r_3 σ_4 H locs hD hw => ?_)
  refine lv_icmp_eq (tgt := 1147) hx hb d_law_222 (by decide) (fun q9 => ?_) (fun q9 => absurd hD.1 q9)
  exact hnext σ_4 _ _ _ hD.2 hw hl
set_option maxRecDepth 20000 in
set_option maxHeartbeats 4000000 in
theorem law_game {p : Program} {l : Launch} {e : Env} {s : State} {m : MethodId} {below : List Frame} {meth : Method} {c : Code} {G : GC} {b L : Nat} {xs : Nat → Int32} {cells slots : Nat} (Inv : GSt → Prop) (hcs : cells ≤ room_1.cells ∧ slots ≤ room_1.slots) (hx : p.tables.exec = Jvm.exec) (hb : c.code = code) (hml : c.maxLocals = 4) (hown : s.vm.findClass "GameLoomLaw" = some m.cls) (hts : ∀ w ∈ lw_us, w.before #[Value.ref b] s = true) (hX : va_X b L xs s s.heap) (hbl : b < s.heap.size) (hbA : ¬ Aw G b) (x3 : Int32) (hin1 : vp_in (x3 + 1) L) (hin2 : vp_in (x3 + 2) L) (hin3 : vp_in (x3 + 3) L) (hin4 : vp_in (x3 + 4) L) (hin5 : vp_in (x3 + 5) L) (hop_game : Op_game Inv) (σ : GSt) (hI : Inv σ) {H : Heap} {locs : List Loc} {ls : Array Slot} (hnext : ∀ (σ : GSt) (H : Heap) (locs : List Loc) (ls : Array Slot), Inv σ → Wo G s H locs σ → lv_has ls 4 [(0, .ref b), (1, .ref (G.2.1 0)), (2, .ref (G.2.1 237)), (3, .int x3)] → W p l e room_1 s m #[Value.ref b] below meth c H locs cells slots (lw_Z below #[Value.ref b] s) (F0 m 1147 ls [])) (hw : Wo G s H locs σ) (hl : lv_has ls 4 [(0, .ref b), (1, .ref (G.2.1 0)), (2, .ref (G.2.1 237)), (3, .int x3)]) : W p l e room_1 s m #[Value.ref b] below meth c H locs cells slots (lw_Z below #[Value.ref b] s) (F0 m 227 ls []) := by
  refine lv_aload_n hx hb d_law_227 rfl (lv_at hl 1 rfl) ?_
  have hD := hop_game  σ hI
  refine gcL_i (rest := []) (As := []) (o := 0) ⟨hx, hb, hml, hown, hts⟩ hw (c_X10_game l G  σ _ hD) (by decide) (ce_10 G _ (by decide +kernel)) rfl tb_428 tb_429 tb_430 tb_1 tb_431 hd_X10_game ⟨rfl, rfl⟩ ⟨Nat.le_of_ble_eq_true rfl, Nat.le_of_ble_eq_true rfl⟩ rfl hl.1 rfl (Nat.le_of_ble_eq_true rfl) hcs d_law_228 (fun r_1 σ_2 H locs hD hw => ?_)
  refine lv_aload_n hx hb d_law_231 rfl (lv_at hl 2 rfl) ?_
  refine gcL_i (rest := [.int r_1]) (As := []) (o := 237) ⟨hx, hb, hml, hown, hts⟩ hw (c_X11_game l G  σ_2 _ hD) (by decide) (ce_11 G _ (by decide +kernel)) rfl tb_1089 tb_1090 tb_1091 tb_12 tb_1092 hd_X11_game ⟨rfl, rfl⟩ ⟨Nat.le_of_ble_eq_true rfl, Nat.le_of_ble_eq_true rfl⟩ rfl hl.1 rfl (Nat.le_of_ble_eq_true rfl) hcs d_law_232 (fun r_3 σ_4 H locs hD hw => ?_)
  refine lv_icmp_eq (tgt := 1147) hx hb d_law_235 (by decide) (fun q9 => ?_) (fun q9 => absurd hD.1 q9)
  exact hnext σ_4 _ _ _ hD.2 hw hl
set_option maxRecDepth 20000 in
set_option maxHeartbeats 4000000 in
theorem law_of {p : Program} {l : Launch} {e : Env} {s : State} {m : MethodId} {below : List Frame} {meth : Method} {c : Code} {G : GC} {b L : Nat} {xs : Nat → Int32} {cells slots : Nat} (Inv : GSt → Prop) (hcs : cells ≤ room_1.cells ∧ slots ≤ room_1.slots) (hx : p.tables.exec = Jvm.exec) (hb : c.code = code) (hml : c.maxLocals = 4) (hown : s.vm.findClass "GameLoomLaw" = some m.cls) (hts : ∀ w ∈ lw_us, w.before #[Value.ref b] s = true) (hX : va_X b L xs s s.heap) (hbl : b < s.heap.size) (hbA : ¬ Aw G b) (x3 : Int32) (hin1 : vp_in (x3 + 1) L) (hin2 : vp_in (x3 + 2) L) (hin3 : vp_in (x3 + 3) L) (hin4 : vp_in (x3 + 4) L) (hin5 : vp_in (x3 + 5) L) (hop_of : Op_of Inv) (σ : GSt) (hI : Inv σ) {H : Heap} {locs : List Loc} {ls : Array Slot} (hnext : ∀ (σ : GSt) (H : Heap) (locs : List Loc) (ls : Array Slot), Inv σ → Wo G s H locs σ → lv_has ls 4 [(0, .ref b), (1, .ref (G.2.1 0)), (2, .ref (G.2.1 237)), (3, .int x3)] → W p l e room_1 s m #[Value.ref b] below meth c H locs cells slots (lw_Z below #[Value.ref b] s) (F0 m 1147 ls [])) (hw : Wo G s H locs σ) (hl : lv_has ls 4 [(0, .ref b), (1, .ref (G.2.1 0)), (2, .ref (G.2.1 237)), (3, .int x3)]) : W p l e room_1 s m #[Value.ref b] below meth c H locs cells slots (lw_Z below #[Value.ref b] s) (F0 m 240 ls []) := by
  refine lv_aload_n hx hb d_law_240 rfl (lv_at hl 1 rfl) ?_
  refine lv_aload_n hx hb d_law_241 rfl (lv_at hl 0 rfl) ?_
  refine lv_iload_n hx hb d_law_242 rfl (lv_at hl 3 rfl) ?_
  refine lv_iconst (v := 1) hx hb d_law_243 (by decide) ?_
  refine lv_iadd hx hb d_law_244 ?_
  refine va_sld hx hb hX hbl hbA hw.2.2.2.1 hin1 d_law_245 ?_
  refine lv_aload_n hx hb d_law_246 rfl (lv_at hl 0 rfl) ?_
  refine lv_iload_n hx hb d_law_247 rfl (lv_at hl 3 rfl) ?_
  refine lv_iconst (v := 2) hx hb d_law_248 (by decide) ?_
  refine lv_iadd hx hb d_law_249 ?_
  refine va_sld hx hb hX hbl hbA hw.2.2.2.1 hin2 d_law_250 ?_
  have hD := hop_of (xs (Int32.toNatClampNeg (x3 + 1))) (xs (Int32.toNatClampNeg (x3 + 2))) σ hI
  refine gcL_i (rest := []) (As := [.int (xs (Int32.toNatClampNeg (x3 + 1))), .int (xs (Int32.toNatClampNeg (x3 + 2)))]) (o := 0) ⟨hx, hb, hml, hown, hts⟩ hw (c_X10_of l G (xs (Int32.toNatClampNeg (x3 + 1))) (xs (Int32.toNatClampNeg (x3 + 2))) σ _ hD) (by decide) (ce_10 G _ (by decide +kernel)) rfl tb_522 tb_523 tb_524 tb_1 tb_525 hd_X10_of ⟨rfl, rfl⟩ ⟨Nat.le_of_ble_eq_true rfl, Nat.le_of_ble_eq_true rfl⟩ rfl hl.1 rfl (Nat.le_of_ble_eq_true rfl) hcs d_law_251 (fun r_1 σ_2 H locs hD hw => ?_)
  refine lv_aload_n hx hb d_law_254 rfl (lv_at hl 2 rfl) ?_
  refine lv_aload_n hx hb d_law_255 rfl (lv_at hl 0 rfl) ?_
  refine lv_iload_n hx hb d_law_256 rfl (lv_at hl 3 rfl) ?_
  refine lv_iconst (v := 1) hx hb d_law_257 (by decide) ?_
  refine lv_iadd hx hb d_law_258 ?_
  refine va_sld hx hb hX hbl hbA hw.2.2.2.1 hin1 d_law_259 ?_
  refine lv_aload_n hx hb d_law_260 rfl (lv_at hl 0 rfl) ?_
  refine lv_iload_n hx hb d_law_261 rfl (lv_at hl 3 rfl) ?_
  refine lv_iconst (v := 2) hx hb d_law_262 (by decide) ?_
  refine lv_iadd hx hb d_law_263 ?_
  refine va_sld hx hb hX hbl hbA hw.2.2.2.1 hin2 d_law_264 ?_
  refine gcL_i (rest := [.int r_1]) (As := [.int (xs (Int32.toNatClampNeg (x3 + 1))), .int (xs (Int32.toNatClampNeg (x3 + 2)))]) (o := 237) ⟨hx, hb, hml, hown, hts⟩ hw (c_X11_of l G (xs (Int32.toNatClampNeg (x3 + 1))) (xs (Int32.toNatClampNeg (x3 + 2))) σ_2 _ hD) (by decide) (ce_11 G _ (by decide +kernel)) rfl tb_1140 tb_1141 tb_1142 tb_12 tb_1143 hd_X11_of ⟨rfl, rfl⟩ ⟨Nat.le_of_ble_eq_true rfl, Nat.le_of_ble_eq_true rfl⟩ rfl hl.1 rfl (Nat.le_of_ble_eq_true rfl) hcs d_law_265 (fun r_3 σ_4 H locs hD hw => ?_)
  refine lv_icmp_eq (tgt := 1147) hx hb d_law_268 (by decide) (fun q9 => ?_) (fun q9 => absurd hD.1 q9)
  exact hnext σ_4 _ _ _ hD.2 hw hl
set_option maxRecDepth 20000 in
set_option maxHeartbeats 4000000 in
theorem law_letter {p : Program} {l : Launch} {e : Env} {s : State} {m : MethodId} {below : List Frame} {meth : Method} {c : Code} {G : GC} {b L : Nat} {xs : Nat → Int32} {cells slots : Nat} (Inv : GSt → Prop) (hcs : cells ≤ room_1.cells ∧ slots ≤ room_1.slots) (hx : p.tables.exec = Jvm.exec) (hb : c.code = code) (hml : c.maxLocals = 4) (hown : s.vm.findClass "GameLoomLaw" = some m.cls) (hts : ∀ w ∈ lw_us, w.before #[Value.ref b] s = true) (hX : va_X b L xs s s.heap) (hbl : b < s.heap.size) (hbA : ¬ Aw G b) (x3 : Int32) (hin1 : vp_in (x3 + 1) L) (hin2 : vp_in (x3 + 2) L) (hin3 : vp_in (x3 + 3) L) (hin4 : vp_in (x3 + 4) L) (hin5 : vp_in (x3 + 5) L) (hop_letter : Op_letter Inv) (σ : GSt) (hI : Inv σ) {H : Heap} {locs : List Loc} {ls : Array Slot} (hnext : ∀ (σ : GSt) (H : Heap) (locs : List Loc) (ls : Array Slot), Inv σ → Wo G s H locs σ → lv_has ls 4 [(0, .ref b), (1, .ref (G.2.1 0)), (2, .ref (G.2.1 237)), (3, .int x3)] → W p l e room_1 s m #[Value.ref b] below meth c H locs cells slots (lw_Z below #[Value.ref b] s) (F0 m 1147 ls [])) (hw : Wo G s H locs σ) (hl : lv_has ls 4 [(0, .ref b), (1, .ref (G.2.1 0)), (2, .ref (G.2.1 237)), (3, .int x3)]) : W p l e room_1 s m #[Value.ref b] below meth c H locs cells slots (lw_Z below #[Value.ref b] s) (F0 m 273 ls []) := by
  refine lv_aload_n hx hb d_law_273 rfl (lv_at hl 1 rfl) ?_
  refine lv_aload_n hx hb d_law_274 rfl (lv_at hl 0 rfl) ?_
  refine lv_iload_n hx hb d_law_275 rfl (lv_at hl 3 rfl) ?_
  refine lv_iconst (v := 1) hx hb d_law_276 (by decide) ?_
  refine lv_iadd hx hb d_law_277 ?_
  refine va_sld hx hb hX hbl hbA hw.2.2.2.1 hin1 d_law_278 ?_
  refine lv_aload_n hx hb d_law_279 rfl (lv_at hl 0 rfl) ?_
  refine lv_iload_n hx hb d_law_280 rfl (lv_at hl 3 rfl) ?_
  refine lv_iconst (v := 2) hx hb d_law_281 (by decide) ?_
  refine lv_iadd hx hb d_law_282 ?_
  refine va_sld hx hb hX hbl hbA hw.2.2.2.1 hin2 d_law_283 ?_
  have hD := hop_letter (xs (Int32.toNatClampNeg (x3 + 1))) (xs (Int32.toNatClampNeg (x3 + 2))) σ hI
  refine gcL_i (rest := []) (As := [.int (xs (Int32.toNatClampNeg (x3 + 1))), .int (xs (Int32.toNatClampNeg (x3 + 2)))]) (o := 0) ⟨hx, hb, hml, hown, hts⟩ hw (c_X10_letter l G (xs (Int32.toNatClampNeg (x3 + 1))) (xs (Int32.toNatClampNeg (x3 + 2))) σ _ hD) (by decide) (ce_10 G _ (by decide +kernel)) rfl tb_534 tb_535 tb_536 tb_1 tb_537 hd_X10_letter ⟨rfl, rfl⟩ ⟨Nat.le_of_ble_eq_true rfl, Nat.le_of_ble_eq_true rfl⟩ rfl hl.1 rfl (Nat.le_of_ble_eq_true rfl) hcs d_law_284 (fun r_1 σ_2 H locs hD hw => ?_)
  refine lv_aload_n hx hb d_law_287 rfl (lv_at hl 2 rfl) ?_
  refine lv_aload_n hx hb d_law_288 rfl (lv_at hl 0 rfl) ?_
  refine lv_iload_n hx hb d_law_289 rfl (lv_at hl 3 rfl) ?_
  refine lv_iconst (v := 1) hx hb d_law_290 (by decide) ?_
  refine lv_iadd hx hb d_law_291 ?_
  refine va_sld hx hb hX hbl hbA hw.2.2.2.1 hin1 d_law_292 ?_
  refine lv_aload_n hx hb d_law_293 rfl (lv_at hl 0 rfl) ?_
  refine lv_iload_n hx hb d_law_294 rfl (lv_at hl 3 rfl) ?_
  refine lv_iconst (v := 2) hx hb d_law_295 (by decide) ?_
  refine lv_iadd hx hb d_law_296 ?_
  refine va_sld hx hb hX hbl hbA hw.2.2.2.1 hin2 d_law_297 ?_
  refine gcL_i (rest := [.int r_1]) (As := [.int (xs (Int32.toNatClampNeg (x3 + 1))), .int (xs (Int32.toNatClampNeg (x3 + 2)))]) (o := 237) ⟨hx, hb, hml, hown, hts⟩ hw (c_X11_letter l G (xs (Int32.toNatClampNeg (x3 + 1))) (xs (Int32.toNatClampNeg (x3 + 2))) σ_2 _ hD) (by decide) (ce_11 G _ (by decide +kernel)) rfl tb_1152 tb_1153 tb_1154 tb_12 tb_1155 hd_X11_letter ⟨rfl, rfl⟩ ⟨Nat.le_of_ble_eq_true rfl, Nat.le_of_ble_eq_true rfl⟩ rfl hl.1 rfl (Nat.le_of_ble_eq_true rfl) hcs d_law_298 (fun r_3 σ_4 H locs hD hw => ?_)
  refine lv_icmp_eq (tgt := 1147) hx hb d_law_301 (by decide) (fun q9 => ?_) (fun q9 => absurd hD.1 q9)
  exact hnext σ_4 _ _ _ hD.2 hw hl
set_option maxRecDepth 20000 in
set_option maxHeartbeats 4000000 in
theorem law_start {p : Program} {l : Launch} {e : Env} {s : State} {m : MethodId} {below : List Frame} {meth : Method} {c : Code} {G : GC} {b L : Nat} {xs : Nat → Int32} {cells slots : Nat} (Inv : GSt → Prop) (hcs : cells ≤ room_1.cells ∧ slots ≤ room_1.slots) (hx : p.tables.exec = Jvm.exec) (hb : c.code = code) (hml : c.maxLocals = 4) (hown : s.vm.findClass "GameLoomLaw" = some m.cls) (hts : ∀ w ∈ lw_us, w.before #[Value.ref b] s = true) (hX : va_X b L xs s s.heap) (hbl : b < s.heap.size) (hbA : ¬ Aw G b) (x3 : Int32) (hin1 : vp_in (x3 + 1) L) (hin2 : vp_in (x3 + 2) L) (hin3 : vp_in (x3 + 3) L) (hin4 : vp_in (x3 + 4) L) (hin5 : vp_in (x3 + 5) L) (hop_start : Op_start Inv) (σ : GSt) (hI : Inv σ) {H : Heap} {locs : List Loc} {ls : Array Slot} (hnext : ∀ (σ : GSt) (H : Heap) (locs : List Loc) (ls : Array Slot), Inv σ → Wo G s H locs σ → lv_has ls 4 [(0, .ref b), (1, .ref (G.2.1 0)), (2, .ref (G.2.1 237)), (3, .int x3)] → W p l e room_1 s m #[Value.ref b] below meth c H locs cells slots (lw_Z below #[Value.ref b] s) (F0 m 1147 ls [])) (hw : Wo G s H locs σ) (hl : lv_has ls 4 [(0, .ref b), (1, .ref (G.2.1 0)), (2, .ref (G.2.1 237)), (3, .int x3)]) : W p l e room_1 s m #[Value.ref b] below meth c H locs cells slots (lw_Z below #[Value.ref b] s) (F0 m 306 ls []) := by
  refine lv_aload_n hx hb d_law_306 rfl (lv_at hl 1 rfl) ?_
  refine lv_aload_n hx hb d_law_307 rfl (lv_at hl 0 rfl) ?_
  refine lv_iload_n hx hb d_law_308 rfl (lv_at hl 3 rfl) ?_
  refine lv_iconst (v := 1) hx hb d_law_309 (by decide) ?_
  refine lv_iadd hx hb d_law_310 ?_
  refine va_sld hx hb hX hbl hbA hw.2.2.2.1 hin1 d_law_311 ?_
  have hD := hop_start (xs (Int32.toNatClampNeg (x3 + 1))) σ hI
  refine gcL_i (rest := []) (As := [.int (xs (Int32.toNatClampNeg (x3 + 1)))]) (o := 0) ⟨hx, hb, hml, hown, hts⟩ hw (c_X10_start l G (xs (Int32.toNatClampNeg (x3 + 1))) σ _ hD) (by decide) (ce_10 G _ (by decide +kernel)) rfl tb_539 tb_540 tb_541 tb_1 tb_542 hd_X10_start ⟨rfl, rfl⟩ ⟨Nat.le_of_ble_eq_true rfl, Nat.le_of_ble_eq_true rfl⟩ rfl hl.1 rfl (Nat.le_of_ble_eq_true rfl) hcs d_law_312 (fun r_1 σ_2 H locs hD hw => ?_)
  refine lv_aload_n hx hb d_law_315 rfl (lv_at hl 2 rfl) ?_
  refine lv_aload_n hx hb d_law_316 rfl (lv_at hl 0 rfl) ?_
  refine lv_iload_n hx hb d_law_317 rfl (lv_at hl 3 rfl) ?_
  refine lv_iconst (v := 1) hx hb d_law_318 (by decide) ?_
  refine lv_iadd hx hb d_law_319 ?_
  refine va_sld hx hb hX hbl hbA hw.2.2.2.1 hin1 d_law_320 ?_
  refine gcL_i (rest := [.int r_1]) (As := [.int (xs (Int32.toNatClampNeg (x3 + 1)))]) (o := 237) ⟨hx, hb, hml, hown, hts⟩ hw (c_X11_start l G (xs (Int32.toNatClampNeg (x3 + 1))) σ_2 _ hD) (by decide) (ce_11 G _ (by decide +kernel)) rfl tb_1156 tb_1157 tb_1158 tb_12 tb_1159 hd_X11_start ⟨rfl, rfl⟩ ⟨Nat.le_of_ble_eq_true rfl, Nat.le_of_ble_eq_true rfl⟩ rfl hl.1 rfl (Nat.le_of_ble_eq_true rfl) hcs d_law_321 (fun r_3 σ_4 H locs hD hw => ?_)
  refine lv_icmp_eq (tgt := 1147) hx hb d_law_324 (by decide) (fun q9 => ?_) (fun q9 => absurd hD.1 q9)
  exact hnext σ_4 _ _ _ hD.2 hw hl
set_option maxRecDepth 20000 in
set_option maxHeartbeats 4000000 in
theorem law_move {p : Program} {l : Launch} {e : Env} {s : State} {m : MethodId} {below : List Frame} {meth : Method} {c : Code} {G : GC} {b L : Nat} {xs : Nat → Int32} {cells slots : Nat} (Inv : GSt → Prop) (hcs : cells ≤ room_1.cells ∧ slots ≤ room_1.slots) (hx : p.tables.exec = Jvm.exec) (hb : c.code = code) (hml : c.maxLocals = 4) (hown : s.vm.findClass "GameLoomLaw" = some m.cls) (hts : ∀ w ∈ lw_us, w.before #[Value.ref b] s = true) (hX : va_X b L xs s s.heap) (hbl : b < s.heap.size) (hbA : ¬ Aw G b) (x3 : Int32) (hin1 : vp_in (x3 + 1) L) (hin2 : vp_in (x3 + 2) L) (hin3 : vp_in (x3 + 3) L) (hin4 : vp_in (x3 + 4) L) (hin5 : vp_in (x3 + 5) L) (hop_move : Op_move Inv) (σ : GSt) (hI : Inv σ) {H : Heap} {locs : List Loc} {ls : Array Slot} (hnext : ∀ (σ : GSt) (H : Heap) (locs : List Loc) (ls : Array Slot), Inv σ → Wo G s H locs σ → lv_has ls 4 [(0, .ref b), (1, .ref (G.2.1 0)), (2, .ref (G.2.1 237)), (3, .int x3)] → W p l e room_1 s m #[Value.ref b] below meth c H locs cells slots (lw_Z below #[Value.ref b] s) (F0 m 1147 ls [])) (hw : Wo G s H locs σ) (hl : lv_has ls 4 [(0, .ref b), (1, .ref (G.2.1 0)), (2, .ref (G.2.1 237)), (3, .int x3)]) : W p l e room_1 s m #[Value.ref b] below meth c H locs cells slots (lw_Z below #[Value.ref b] s) (F0 m 329 ls []) := by
  refine lv_aload_n hx hb d_law_329 rfl (lv_at hl 1 rfl) ?_
  refine lv_aload_n hx hb d_law_330 rfl (lv_at hl 0 rfl) ?_
  refine lv_iload_n hx hb d_law_331 rfl (lv_at hl 3 rfl) ?_
  refine lv_iconst (v := 1) hx hb d_law_332 (by decide) ?_
  refine lv_iadd hx hb d_law_333 ?_
  refine va_sld hx hb hX hbl hbA hw.2.2.2.1 hin1 d_law_334 ?_
  have hD := hop_move (xs (Int32.toNatClampNeg (x3 + 1))) σ hI
  refine gcL_i (rest := []) (As := [.int (xs (Int32.toNatClampNeg (x3 + 1)))]) (o := 0) ⟨hx, hb, hml, hown, hts⟩ hw (c_X10_move l G (xs (Int32.toNatClampNeg (x3 + 1))) σ _ hD) (by decide) (ce_10 G _ (by decide +kernel)) rfl tb_584 tb_585 tb_586 tb_1 tb_587 hd_X10_move ⟨rfl, rfl⟩ ⟨Nat.le_of_ble_eq_true rfl, Nat.le_of_ble_eq_true rfl⟩ rfl hl.1 rfl (Nat.le_of_ble_eq_true rfl) hcs d_law_335 (fun r_1 σ_2 H locs hD hw => ?_)
  refine lv_aload_n hx hb d_law_338 rfl (lv_at hl 2 rfl) ?_
  refine lv_aload_n hx hb d_law_339 rfl (lv_at hl 0 rfl) ?_
  refine lv_iload_n hx hb d_law_340 rfl (lv_at hl 3 rfl) ?_
  refine lv_iconst (v := 1) hx hb d_law_341 (by decide) ?_
  refine lv_iadd hx hb d_law_342 ?_
  refine va_sld hx hb hX hbl hbA hw.2.2.2.1 hin1 d_law_343 ?_
  refine gcL_i (rest := [.int r_1]) (As := [.int (xs (Int32.toNatClampNeg (x3 + 1)))]) (o := 237) ⟨hx, hb, hml, hown, hts⟩ hw (c_X11_move l G (xs (Int32.toNatClampNeg (x3 + 1))) σ_2 _ hD) (by decide) (ce_11 G _ (by decide +kernel)) rfl tb_1196 tb_1197 tb_1198 tb_12 tb_1199 hd_X11_move ⟨rfl, rfl⟩ ⟨Nat.le_of_ble_eq_true rfl, Nat.le_of_ble_eq_true rfl⟩ rfl hl.1 rfl (Nat.le_of_ble_eq_true rfl) hcs d_law_344 (fun r_3 σ_4 H locs hD hw => ?_)
  refine lv_icmp_eq (tgt := 1147) hx hb d_law_347 (by decide) (fun q9 => ?_) (fun q9 => absurd hD.1 q9)
  exact hnext σ_4 _ _ _ hD.2 hw hl
set_option maxRecDepth 20000 in
set_option maxHeartbeats 4000000 in
theorem law_play {p : Program} {l : Launch} {e : Env} {s : State} {m : MethodId} {below : List Frame} {meth : Method} {c : Code} {G : GC} {b L : Nat} {xs : Nat → Int32} {cells slots : Nat} (Inv : GSt → Prop) (hcs : cells ≤ room_1.cells ∧ slots ≤ room_1.slots) (hx : p.tables.exec = Jvm.exec) (hb : c.code = code) (hml : c.maxLocals = 4) (hown : s.vm.findClass "GameLoomLaw" = some m.cls) (hts : ∀ w ∈ lw_us, w.before #[Value.ref b] s = true) (hX : va_X b L xs s s.heap) (hbl : b < s.heap.size) (hbA : ¬ Aw G b) (x3 : Int32) (hin1 : vp_in (x3 + 1) L) (hin2 : vp_in (x3 + 2) L) (hin3 : vp_in (x3 + 3) L) (hin4 : vp_in (x3 + 4) L) (hin5 : vp_in (x3 + 5) L) (hop_play : Op_play Inv) (σ : GSt) (hI : Inv σ) {H : Heap} {locs : List Loc} {ls : Array Slot} (hnext : ∀ (σ : GSt) (H : Heap) (locs : List Loc) (ls : Array Slot), Inv σ → Wo G s H locs σ → lv_has ls 4 [(0, .ref b), (1, .ref (G.2.1 0)), (2, .ref (G.2.1 237)), (3, .int x3)] → W p l e room_1 s m #[Value.ref b] below meth c H locs cells slots (lw_Z below #[Value.ref b] s) (F0 m 1147 ls [])) (hw : Wo G s H locs σ) (hl : lv_has ls 4 [(0, .ref b), (1, .ref (G.2.1 0)), (2, .ref (G.2.1 237)), (3, .int x3)]) : W p l e room_1 s m #[Value.ref b] below meth c H locs cells slots (lw_Z below #[Value.ref b] s) (F0 m 352 ls []) := by
  refine lv_aload_n hx hb d_law_352 rfl (lv_at hl 1 rfl) ?_
  refine lv_aload_n hx hb d_law_353 rfl (lv_at hl 0 rfl) ?_
  refine lv_iload_n hx hb d_law_354 rfl (lv_at hl 3 rfl) ?_
  refine lv_iconst (v := 1) hx hb d_law_355 (by decide) ?_
  refine lv_iadd hx hb d_law_356 ?_
  refine va_sld hx hb hX hbl hbA hw.2.2.2.1 hin1 d_law_357 ?_
  have hD := hop_play (xs (Int32.toNatClampNeg (x3 + 1))) σ hI
  refine gcL_i (rest := []) (As := [.int (xs (Int32.toNatClampNeg (x3 + 1)))]) (o := 0) ⟨hx, hb, hml, hown, hts⟩ hw (c_X10_play l G (xs (Int32.toNatClampNeg (x3 + 1))) σ _ hD) (by decide) (ce_10 G _ (by decide +kernel)) rfl tb_591 tb_592 tb_593 tb_1 tb_594 hd_X10_play ⟨rfl, rfl⟩ ⟨Nat.le_of_ble_eq_true rfl, Nat.le_of_ble_eq_true rfl⟩ rfl hl.1 rfl (Nat.le_of_ble_eq_true rfl) hcs d_law_358 (fun r_1 σ_2 H locs hD hw => ?_)
  refine lv_aload_n hx hb d_law_361 rfl (lv_at hl 2 rfl) ?_
  refine lv_aload_n hx hb d_law_362 rfl (lv_at hl 0 rfl) ?_
  refine lv_iload_n hx hb d_law_363 rfl (lv_at hl 3 rfl) ?_
  refine lv_iconst (v := 1) hx hb d_law_364 (by decide) ?_
  refine lv_iadd hx hb d_law_365 ?_
  refine va_sld hx hb hX hbl hbA hw.2.2.2.1 hin1 d_law_366 ?_
  refine gcL_i (rest := [.int r_1]) (As := [.int (xs (Int32.toNatClampNeg (x3 + 1)))]) (o := 237) ⟨hx, hb, hml, hown, hts⟩ hw (c_X11_play l G (xs (Int32.toNatClampNeg (x3 + 1))) σ_2 _ hD) (by decide) (ce_11 G _ (by decide +kernel)) rfl tb_1232 tb_1233 tb_1234 tb_12 tb_1235 hd_X11_play ⟨rfl, rfl⟩ ⟨Nat.le_of_ble_eq_true rfl, Nat.le_of_ble_eq_true rfl⟩ rfl hl.1 rfl (Nat.le_of_ble_eq_true rfl) hcs d_law_367 (fun r_3 σ_4 H locs hD hw => ?_)
  refine lv_icmp_eq (tgt := 1147) hx hb d_law_370 (by decide) (fun q9 => ?_) (fun q9 => absurd hD.1 q9)
  exact hnext σ_4 _ _ _ hD.2 hw hl
set_option maxRecDepth 20000 in
set_option maxHeartbeats 4000000 in
theorem law_back {p : Program} {l : Launch} {e : Env} {s : State} {m : MethodId} {below : List Frame} {meth : Method} {c : Code} {G : GC} {b L : Nat} {xs : Nat → Int32} {cells slots : Nat} (Inv : GSt → Prop) (hcs : cells ≤ room_1.cells ∧ slots ≤ room_1.slots) (hx : p.tables.exec = Jvm.exec) (hb : c.code = code) (hml : c.maxLocals = 4) (hown : s.vm.findClass "GameLoomLaw" = some m.cls) (hts : ∀ w ∈ lw_us, w.before #[Value.ref b] s = true) (hX : va_X b L xs s s.heap) (hbl : b < s.heap.size) (hbA : ¬ Aw G b) (x3 : Int32) (hin1 : vp_in (x3 + 1) L) (hin2 : vp_in (x3 + 2) L) (hin3 : vp_in (x3 + 3) L) (hin4 : vp_in (x3 + 4) L) (hin5 : vp_in (x3 + 5) L) (hop_back : Op_back Inv) (σ : GSt) (hI : Inv σ) {H : Heap} {locs : List Loc} {ls : Array Slot} (hnext : ∀ (σ : GSt) (H : Heap) (locs : List Loc) (ls : Array Slot), Inv σ → Wo G s H locs σ → lv_has ls 4 [(0, .ref b), (1, .ref (G.2.1 0)), (2, .ref (G.2.1 237)), (3, .int x3)] → W p l e room_1 s m #[Value.ref b] below meth c H locs cells slots (lw_Z below #[Value.ref b] s) (F0 m 1147 ls [])) (hw : Wo G s H locs σ) (hl : lv_has ls 4 [(0, .ref b), (1, .ref (G.2.1 0)), (2, .ref (G.2.1 237)), (3, .int x3)]) : W p l e room_1 s m #[Value.ref b] below meth c H locs cells slots (lw_Z below #[Value.ref b] s) (F0 m 375 ls []) := by
  refine lv_aload_n hx hb d_law_375 rfl (lv_at hl 1 rfl) ?_
  have hD := hop_back  σ hI
  refine gcL_i (rest := []) (As := []) (o := 0) ⟨hx, hb, hml, hown, hts⟩ hw (c_X10_back l G  σ _ hD) (by decide) (ce_10 G _ (by decide +kernel)) rfl tb_631 tb_632 tb_633 tb_1 tb_634 hd_X10_back ⟨rfl, rfl⟩ ⟨Nat.le_of_ble_eq_true rfl, Nat.le_of_ble_eq_true rfl⟩ rfl hl.1 rfl (Nat.le_of_ble_eq_true rfl) hcs d_law_376 (fun r_1 σ_2 H locs hD hw => ?_)
  refine lv_aload_n hx hb d_law_379 rfl (lv_at hl 2 rfl) ?_
  refine gcL_i (rest := [.int r_1]) (As := []) (o := 237) ⟨hx, hb, hml, hown, hts⟩ hw (c_X11_back l G  σ_2 _ hD) (by decide) (ce_11 G _ (by decide +kernel)) rfl tb_1236 tb_1237 tb_1238 tb_12 tb_1239 hd_X11_back ⟨rfl, rfl⟩ ⟨Nat.le_of_ble_eq_true rfl, Nat.le_of_ble_eq_true rfl⟩ rfl hl.1 rfl (Nat.le_of_ble_eq_true rfl) hcs d_law_380 (fun r_3 σ_4 H locs hD hw => ?_)
  refine lv_icmp_eq (tgt := 1147) hx hb d_law_383 (by decide) (fun q9 => ?_) (fun q9 => absurd hD.1 q9)
  exact hnext σ_4 _ _ _ hD.2 hw hl
set_option maxRecDepth 20000 in
set_option maxHeartbeats 4000000 in
theorem law_state {p : Program} {l : Launch} {e : Env} {s : State} {m : MethodId} {below : List Frame} {meth : Method} {c : Code} {G : GC} {b L : Nat} {xs : Nat → Int32} {cells slots : Nat} (Inv : GSt → Prop) (hcs : cells ≤ room_1.cells ∧ slots ≤ room_1.slots) (hx : p.tables.exec = Jvm.exec) (hb : c.code = code) (hml : c.maxLocals = 4) (hown : s.vm.findClass "GameLoomLaw" = some m.cls) (hts : ∀ w ∈ lw_us, w.before #[Value.ref b] s = true) (hX : va_X b L xs s s.heap) (hbl : b < s.heap.size) (hbA : ¬ Aw G b) (x3 : Int32) (hin1 : vp_in (x3 + 1) L) (hin2 : vp_in (x3 + 2) L) (hin3 : vp_in (x3 + 3) L) (hin4 : vp_in (x3 + 4) L) (hin5 : vp_in (x3 + 5) L) (hop_state : Op_state Inv) (σ : GSt) (hI : Inv σ) {H : Heap} {locs : List Loc} {ls : Array Slot} (hnext : ∀ (σ : GSt) (H : Heap) (locs : List Loc) (ls : Array Slot), Inv σ → Wo G s H locs σ → lv_has ls 4 [(0, .ref b), (1, .ref (G.2.1 0)), (2, .ref (G.2.1 237)), (3, .int x3)] → W p l e room_1 s m #[Value.ref b] below meth c H locs cells slots (lw_Z below #[Value.ref b] s) (F0 m 1147 ls [])) (hw : Wo G s H locs σ) (hl : lv_has ls 4 [(0, .ref b), (1, .ref (G.2.1 0)), (2, .ref (G.2.1 237)), (3, .int x3)]) : W p l e room_1 s m #[Value.ref b] below meth c H locs cells slots (lw_Z below #[Value.ref b] s) (F0 m 388 ls []) := by
  refine lv_aload_n hx hb d_law_388 rfl (lv_at hl 1 rfl) ?_
  refine lv_aload_n hx hb d_law_389 rfl (lv_at hl 0 rfl) ?_
  refine lv_iload_n hx hb d_law_390 rfl (lv_at hl 3 rfl) ?_
  refine lv_iconst (v := 1) hx hb d_law_391 (by decide) ?_
  refine lv_iadd hx hb d_law_392 ?_
  refine va_sld hx hb hX hbl hbA hw.2.2.2.1 hin1 d_law_393 ?_
  have hD := hop_state (xs (Int32.toNatClampNeg (x3 + 1))) σ hI
  refine gcL_i (rest := []) (As := [.int (xs (Int32.toNatClampNeg (x3 + 1)))]) (o := 0) ⟨hx, hb, hml, hown, hts⟩ hw (c_X10_state l G (xs (Int32.toNatClampNeg (x3 + 1))) σ _ hD) (by decide) (ce_10 G _ (by decide +kernel)) rfl tb_643 tb_644 tb_645 tb_1 tb_646 hd_X10_state ⟨rfl, rfl⟩ ⟨Nat.le_of_ble_eq_true rfl, Nat.le_of_ble_eq_true rfl⟩ rfl hl.1 rfl (Nat.le_of_ble_eq_true rfl) hcs d_law_394 (fun r_1 σ_2 H locs hD hw => ?_)
  refine lv_aload_n hx hb d_law_397 rfl (lv_at hl 2 rfl) ?_
  refine lv_aload_n hx hb d_law_398 rfl (lv_at hl 0 rfl) ?_
  refine lv_iload_n hx hb d_law_399 rfl (lv_at hl 3 rfl) ?_
  refine lv_iconst (v := 1) hx hb d_law_400 (by decide) ?_
  refine lv_iadd hx hb d_law_401 ?_
  refine va_sld hx hb hX hbl hbA hw.2.2.2.1 hin1 d_law_402 ?_
  refine gcL_i (rest := [.int r_1]) (As := [.int (xs (Int32.toNatClampNeg (x3 + 1)))]) (o := 237) ⟨hx, hb, hml, hown, hts⟩ hw (c_X11_state l G (xs (Int32.toNatClampNeg (x3 + 1))) σ_2 _ hD) (by decide) (ce_11 G _ (by decide +kernel)) rfl tb_1240 tb_1241 tb_1242 tb_12 tb_1243 hd_X11_state ⟨rfl, rfl⟩ ⟨Nat.le_of_ble_eq_true rfl, Nat.le_of_ble_eq_true rfl⟩ rfl hl.1 rfl (Nat.le_of_ble_eq_true rfl) hcs d_law_403 (fun r_3 σ_4 H locs hD hw => ?_)
  refine lv_icmp_eq (tgt := 1147) hx hb d_law_406 (by decide) (fun q9 => ?_) (fun q9 => absurd hD.1 q9)
  exact hnext σ_4 _ _ _ hD.2 hw hl
set_option maxRecDepth 20000 in
set_option maxHeartbeats 4000000 in
theorem law_cell {p : Program} {l : Launch} {e : Env} {s : State} {m : MethodId} {below : List Frame} {meth : Method} {c : Code} {G : GC} {b L : Nat} {xs : Nat → Int32} {cells slots : Nat} (Inv : GSt → Prop) (hcs : cells ≤ room_1.cells ∧ slots ≤ room_1.slots) (hx : p.tables.exec = Jvm.exec) (hb : c.code = code) (hml : c.maxLocals = 4) (hown : s.vm.findClass "GameLoomLaw" = some m.cls) (hts : ∀ w ∈ lw_us, w.before #[Value.ref b] s = true) (hX : va_X b L xs s s.heap) (hbl : b < s.heap.size) (hbA : ¬ Aw G b) (x3 : Int32) (hin1 : vp_in (x3 + 1) L) (hin2 : vp_in (x3 + 2) L) (hin3 : vp_in (x3 + 3) L) (hin4 : vp_in (x3 + 4) L) (hin5 : vp_in (x3 + 5) L) (hop_cell : Op_cell Inv) (σ : GSt) (hI : Inv σ) {H : Heap} {locs : List Loc} {ls : Array Slot} (hnext : ∀ (σ : GSt) (H : Heap) (locs : List Loc) (ls : Array Slot), Inv σ → Wo G s H locs σ → lv_has ls 4 [(0, .ref b), (1, .ref (G.2.1 0)), (2, .ref (G.2.1 237)), (3, .int x3)] → W p l e room_1 s m #[Value.ref b] below meth c H locs cells slots (lw_Z below #[Value.ref b] s) (F0 m 1147 ls [])) (hw : Wo G s H locs σ) (hl : lv_has ls 4 [(0, .ref b), (1, .ref (G.2.1 0)), (2, .ref (G.2.1 237)), (3, .int x3)]) : W p l e room_1 s m #[Value.ref b] below meth c H locs cells slots (lw_Z below #[Value.ref b] s) (F0 m 411 ls []) := by
  refine lv_aload_n hx hb d_law_411 rfl (lv_at hl 1 rfl) ?_
  refine lv_aload_n hx hb d_law_412 rfl (lv_at hl 0 rfl) ?_
  refine lv_iload_n hx hb d_law_413 rfl (lv_at hl 3 rfl) ?_
  refine lv_iconst (v := 1) hx hb d_law_414 (by decide) ?_
  refine lv_iadd hx hb d_law_415 ?_
  refine va_sld hx hb hX hbl hbA hw.2.2.2.1 hin1 d_law_416 ?_
  have hD := hop_cell (xs (Int32.toNatClampNeg (x3 + 1))) σ hI
  refine gcL_i (rest := []) (As := [.int (xs (Int32.toNatClampNeg (x3 + 1)))]) (o := 0) ⟨hx, hb, hml, hown, hts⟩ hw (c_X10_cell l G (xs (Int32.toNatClampNeg (x3 + 1))) σ _ hD) (by decide) (ce_10 G _ (by decide +kernel)) rfl tb_665 tb_666 tb_667 tb_1 tb_668 hd_X10_cell ⟨rfl, rfl⟩ ⟨Nat.le_of_ble_eq_true rfl, Nat.le_of_ble_eq_true rfl⟩ rfl hl.1 rfl (Nat.le_of_ble_eq_true rfl) hcs d_law_417 (fun r_1 σ_2 H locs hD hw => ?_)
  refine lv_aload_n hx hb d_law_420 rfl (lv_at hl 2 rfl) ?_
  refine lv_aload_n hx hb d_law_421 rfl (lv_at hl 0 rfl) ?_
  refine lv_iload_n hx hb d_law_422 rfl (lv_at hl 3 rfl) ?_
  refine lv_iconst (v := 1) hx hb d_law_423 (by decide) ?_
  refine lv_iadd hx hb d_law_424 ?_
  refine va_sld hx hb hX hbl hbA hw.2.2.2.1 hin1 d_law_425 ?_
  refine gcL_i (rest := [.int r_1]) (As := [.int (xs (Int32.toNatClampNeg (x3 + 1)))]) (o := 237) ⟨hx, hb, hml, hown, hts⟩ hw (c_X11_cell l G (xs (Int32.toNatClampNeg (x3 + 1))) σ_2 _ hD) (by decide) (ce_11 G _ (by decide +kernel)) rfl tb_1252 tb_1253 tb_1254 tb_12 tb_1255 hd_X11_cell ⟨rfl, rfl⟩ ⟨Nat.le_of_ble_eq_true rfl, Nat.le_of_ble_eq_true rfl⟩ rfl hl.1 rfl (Nat.le_of_ble_eq_true rfl) hcs d_law_426 (fun r_3 σ_4 H locs hD hw => ?_)
  refine lv_icmp_eq (tgt := 1147) hx hb d_law_429 (by decide) (fun q9 => ?_) (fun q9 => absurd hD.1 q9)
  exact hnext σ_4 _ _ _ hD.2 hw hl
set_option maxRecDepth 20000 in
set_option maxHeartbeats 4000000 in
theorem law_look {p : Program} {l : Launch} {e : Env} {s : State} {m : MethodId} {below : List Frame} {meth : Method} {c : Code} {G : GC} {b L : Nat} {xs : Nat → Int32} {cells slots : Nat} (Inv : GSt → Prop) (hcs : cells ≤ room_1.cells ∧ slots ≤ room_1.slots) (hx : p.tables.exec = Jvm.exec) (hb : c.code = code) (hml : c.maxLocals = 4) (hown : s.vm.findClass "GameLoomLaw" = some m.cls) (hts : ∀ w ∈ lw_us, w.before #[Value.ref b] s = true) (hX : va_X b L xs s s.heap) (hbl : b < s.heap.size) (hbA : ¬ Aw G b) (x3 : Int32) (hin1 : vp_in (x3 + 1) L) (hin2 : vp_in (x3 + 2) L) (hin3 : vp_in (x3 + 3) L) (hin4 : vp_in (x3 + 4) L) (hin5 : vp_in (x3 + 5) L) (hop_look : Op_look Inv) (σ : GSt) (hI : Inv σ) {H : Heap} {locs : List Loc} {ls : Array Slot} (hnext : ∀ (σ : GSt) (H : Heap) (locs : List Loc) (ls : Array Slot), Inv σ → Wo G s H locs σ → lv_has ls 4 [(0, .ref b), (1, .ref (G.2.1 0)), (2, .ref (G.2.1 237)), (3, .int x3)] → W p l e room_1 s m #[Value.ref b] below meth c H locs cells slots (lw_Z below #[Value.ref b] s) (F0 m 1147 ls [])) (hw : Wo G s H locs σ) (hl : lv_has ls 4 [(0, .ref b), (1, .ref (G.2.1 0)), (2, .ref (G.2.1 237)), (3, .int x3)]) : W p l e room_1 s m #[Value.ref b] below meth c H locs cells slots (lw_Z below #[Value.ref b] s) (F0 m 434 ls []) := by
  refine lv_aload_n hx hb d_law_434 rfl (lv_at hl 1 rfl) ?_
  refine lv_aload_n hx hb d_law_435 rfl (lv_at hl 0 rfl) ?_
  refine lv_iload_n hx hb d_law_436 rfl (lv_at hl 3 rfl) ?_
  refine lv_iconst (v := 1) hx hb d_law_437 (by decide) ?_
  refine lv_iadd hx hb d_law_438 ?_
  refine va_sld hx hb hX hbl hbA hw.2.2.2.1 hin1 d_law_439 ?_
  have hD := hop_look (xs (Int32.toNatClampNeg (x3 + 1))) σ hI
  refine gcL_i (rest := []) (As := [.int (xs (Int32.toNatClampNeg (x3 + 1)))]) (o := 0) ⟨hx, hb, hml, hown, hts⟩ hw (c_X10_look l G (xs (Int32.toNatClampNeg (x3 + 1))) σ _ hD) (by decide) (ce_10 G _ (by decide +kernel)) rfl tb_670 tb_671 tb_672 tb_1 tb_673 hd_X10_look ⟨rfl, rfl⟩ ⟨Nat.le_of_ble_eq_true rfl, Nat.le_of_ble_eq_true rfl⟩ rfl hl.1 rfl (Nat.le_of_ble_eq_true rfl) hcs d_law_440 (fun r_1 σ_2 H locs hD hw => ?_)
  refine lv_aload_n hx hb d_law_443 rfl (lv_at hl 2 rfl) ?_
  refine lv_aload_n hx hb d_law_444 rfl (lv_at hl 0 rfl) ?_
  refine lv_iload_n hx hb d_law_445 rfl (lv_at hl 3 rfl) ?_
  refine lv_iconst (v := 1) hx hb d_law_446 (by decide) ?_
  refine lv_iadd hx hb d_law_447 ?_
  refine va_sld hx hb hX hbl hbA hw.2.2.2.1 hin1 d_law_448 ?_
  refine gcL_i (rest := [.int r_1]) (As := [.int (xs (Int32.toNatClampNeg (x3 + 1)))]) (o := 237) ⟨hx, hb, hml, hown, hts⟩ hw (c_X11_look l G (xs (Int32.toNatClampNeg (x3 + 1))) σ_2 _ hD) (by decide) (ce_11 G _ (by decide +kernel)) rfl tb_1256 tb_1257 tb_1258 tb_12 tb_1259 hd_X11_look ⟨rfl, rfl⟩ ⟨Nat.le_of_ble_eq_true rfl, Nat.le_of_ble_eq_true rfl⟩ rfl hl.1 rfl (Nat.le_of_ble_eq_true rfl) hcs d_law_449 (fun r_3 σ_4 H locs hD hw => ?_)
  refine lv_icmp_eq (tgt := 1147) hx hb d_law_452 (by decide) (fun q9 => ?_) (fun q9 => absurd hD.1 q9)
  exact hnext σ_4 _ _ _ hD.2 hw hl
set_option maxRecDepth 20000 in
set_option maxHeartbeats 4000000 in
theorem law_best {p : Program} {l : Launch} {e : Env} {s : State} {m : MethodId} {below : List Frame} {meth : Method} {c : Code} {G : GC} {b L : Nat} {xs : Nat → Int32} {cells slots : Nat} (Inv : GSt → Prop) (hcs : cells ≤ room_1.cells ∧ slots ≤ room_1.slots) (hx : p.tables.exec = Jvm.exec) (hb : c.code = code) (hml : c.maxLocals = 4) (hown : s.vm.findClass "GameLoomLaw" = some m.cls) (hts : ∀ w ∈ lw_us, w.before #[Value.ref b] s = true) (hX : va_X b L xs s s.heap) (hbl : b < s.heap.size) (hbA : ¬ Aw G b) (x3 : Int32) (hin1 : vp_in (x3 + 1) L) (hin2 : vp_in (x3 + 2) L) (hin3 : vp_in (x3 + 3) L) (hin4 : vp_in (x3 + 4) L) (hin5 : vp_in (x3 + 5) L) (hop_best : Op_best Inv) (σ : GSt) (hI : Inv σ) {H : Heap} {locs : List Loc} {ls : Array Slot} (hnext : ∀ (σ : GSt) (H : Heap) (locs : List Loc) (ls : Array Slot), Inv σ → Wo G s H locs σ → lv_has ls 4 [(0, .ref b), (1, .ref (G.2.1 0)), (2, .ref (G.2.1 237)), (3, .int x3)] → W p l e room_1 s m #[Value.ref b] below meth c H locs cells slots (lw_Z below #[Value.ref b] s) (F0 m 1147 ls [])) (hw : Wo G s H locs σ) (hl : lv_has ls 4 [(0, .ref b), (1, .ref (G.2.1 0)), (2, .ref (G.2.1 237)), (3, .int x3)]) : W p l e room_1 s m #[Value.ref b] below meth c H locs cells slots (lw_Z below #[Value.ref b] s) (F0 m 457 ls []) := by
  refine lv_aload_n hx hb d_law_457 rfl (lv_at hl 1 rfl) ?_
  refine lv_aload_n hx hb d_law_458 rfl (lv_at hl 0 rfl) ?_
  refine lv_iload_n hx hb d_law_459 rfl (lv_at hl 3 rfl) ?_
  refine lv_iconst (v := 1) hx hb d_law_460 (by decide) ?_
  refine lv_iadd hx hb d_law_461 ?_
  refine va_sld hx hb hX hbl hbA hw.2.2.2.1 hin1 d_law_462 ?_
  have hD := hop_best (xs (Int32.toNatClampNeg (x3 + 1))) σ hI
  refine gcL_i (rest := []) (As := [.int (xs (Int32.toNatClampNeg (x3 + 1)))]) (o := 0) ⟨hx, hb, hml, hown, hts⟩ hw (c_X10_best l G (xs (Int32.toNatClampNeg (x3 + 1))) σ _ hD) (by decide) (ce_10 G _ (by decide +kernel)) rfl tb_701 tb_702 tb_703 tb_1 tb_704 hd_X10_best ⟨rfl, rfl⟩ ⟨Nat.le_of_ble_eq_true rfl, Nat.le_of_ble_eq_true rfl⟩ rfl hl.1 rfl (Nat.le_of_ble_eq_true rfl) hcs d_law_463 (fun r_1 σ_2 H locs hD hw => ?_)
  refine lv_aload_n hx hb d_law_466 rfl (lv_at hl 2 rfl) ?_
  refine lv_aload_n hx hb d_law_467 rfl (lv_at hl 0 rfl) ?_
  refine lv_iload_n hx hb d_law_468 rfl (lv_at hl 3 rfl) ?_
  refine lv_iconst (v := 1) hx hb d_law_469 (by decide) ?_
  refine lv_iadd hx hb d_law_470 ?_
  refine va_sld hx hb hX hbl hbA hw.2.2.2.1 hin1 d_law_471 ?_
  refine gcL_i (rest := [.int r_1]) (As := [.int (xs (Int32.toNatClampNeg (x3 + 1)))]) (o := 237) ⟨hx, hb, hml, hown, hts⟩ hw (c_X11_best l G (xs (Int32.toNatClampNeg (x3 + 1))) σ_2 _ hD) (by decide) (ce_11 G _ (by decide +kernel)) rfl tb_1273 tb_1274 tb_1275 tb_12 tb_1276 hd_X11_best ⟨rfl, rfl⟩ ⟨Nat.le_of_ble_eq_true rfl, Nat.le_of_ble_eq_true rfl⟩ rfl hl.1 rfl (Nat.le_of_ble_eq_true rfl) hcs d_law_472 (fun r_3 σ_4 H locs hD hw => ?_)
  refine lv_icmp_eq (tgt := 1147) hx hb d_law_475 (by decide) (fun q9 => ?_) (fun q9 => absurd hD.1 q9)
  exact hnext σ_4 _ _ _ hD.2 hw hl
set_option maxRecDepth 20000 in
set_option maxHeartbeats 4000000 in
theorem law_ways {p : Program} {l : Launch} {e : Env} {s : State} {m : MethodId} {below : List Frame} {meth : Method} {c : Code} {G : GC} {b L : Nat} {xs : Nat → Int32} {cells slots : Nat} (Inv : GSt → Prop) (hcs : cells ≤ room_1.cells ∧ slots ≤ room_1.slots) (hx : p.tables.exec = Jvm.exec) (hb : c.code = code) (hml : c.maxLocals = 4) (hown : s.vm.findClass "GameLoomLaw" = some m.cls) (hts : ∀ w ∈ lw_us, w.before #[Value.ref b] s = true) (hX : va_X b L xs s s.heap) (hbl : b < s.heap.size) (hbA : ¬ Aw G b) (x3 : Int32) (hin1 : vp_in (x3 + 1) L) (hin2 : vp_in (x3 + 2) L) (hin3 : vp_in (x3 + 3) L) (hin4 : vp_in (x3 + 4) L) (hin5 : vp_in (x3 + 5) L) (hop_ways : Op_ways Inv) (σ : GSt) (hI : Inv σ) {H : Heap} {locs : List Loc} {ls : Array Slot} (hnext : ∀ (σ : GSt) (H : Heap) (locs : List Loc) (ls : Array Slot), Inv σ → Wo G s H locs σ → lv_has ls 4 [(0, .ref b), (1, .ref (G.2.1 0)), (2, .ref (G.2.1 237)), (3, .int x3)] → W p l e room_1 s m #[Value.ref b] below meth c H locs cells slots (lw_Z below #[Value.ref b] s) (F0 m 1147 ls [])) (hw : Wo G s H locs σ) (hl : lv_has ls 4 [(0, .ref b), (1, .ref (G.2.1 0)), (2, .ref (G.2.1 237)), (3, .int x3)]) : W p l e room_1 s m #[Value.ref b] below meth c H locs cells slots (lw_Z below #[Value.ref b] s) (F0 m 480 ls []) := by
  refine lv_aload_n hx hb d_law_480 rfl (lv_at hl 1 rfl) ?_
  refine lv_aload_n hx hb d_law_481 rfl (lv_at hl 0 rfl) ?_
  refine lv_iload_n hx hb d_law_482 rfl (lv_at hl 3 rfl) ?_
  refine lv_iconst (v := 1) hx hb d_law_483 (by decide) ?_
  refine lv_iadd hx hb d_law_484 ?_
  refine va_sld hx hb hX hbl hbA hw.2.2.2.1 hin1 d_law_485 ?_
  have hD := hop_ways (xs (Int32.toNatClampNeg (x3 + 1))) σ hI
  refine gcL_i (rest := []) (As := [.int (xs (Int32.toNatClampNeg (x3 + 1)))]) (o := 0) ⟨hx, hb, hml, hown, hts⟩ hw (c_X10_ways l G (xs (Int32.toNatClampNeg (x3 + 1))) σ _ hD) (by decide) (ce_10 G _ (by decide +kernel)) rfl tb_709 tb_710 tb_711 tb_1 tb_712 hd_X10_ways ⟨rfl, rfl⟩ ⟨Nat.le_of_ble_eq_true rfl, Nat.le_of_ble_eq_true rfl⟩ rfl hl.1 rfl (Nat.le_of_ble_eq_true rfl) hcs d_law_486 (fun r_1 σ_2 H locs hD hw => ?_)
  refine lv_aload_n hx hb d_law_489 rfl (lv_at hl 2 rfl) ?_
  refine lv_aload_n hx hb d_law_490 rfl (lv_at hl 0 rfl) ?_
  refine lv_iload_n hx hb d_law_491 rfl (lv_at hl 3 rfl) ?_
  refine lv_iconst (v := 1) hx hb d_law_492 (by decide) ?_
  refine lv_iadd hx hb d_law_493 ?_
  refine va_sld hx hb hX hbl hbA hw.2.2.2.1 hin1 d_law_494 ?_
  refine gcL_i (rest := [.int r_1]) (As := [.int (xs (Int32.toNatClampNeg (x3 + 1)))]) (o := 237) ⟨hx, hb, hml, hown, hts⟩ hw (c_X11_ways l G (xs (Int32.toNatClampNeg (x3 + 1))) σ_2 _ hD) (by decide) (ce_11 G _ (by decide +kernel)) rfl tb_1281 tb_1282 tb_1283 tb_12 tb_1284 hd_X11_ways ⟨rfl, rfl⟩ ⟨Nat.le_of_ble_eq_true rfl, Nat.le_of_ble_eq_true rfl⟩ rfl hl.1 rfl (Nat.le_of_ble_eq_true rfl) hcs d_law_495 (fun r_3 σ_4 H locs hD hw => ?_)
  refine lv_icmp_eq (tgt := 1147) hx hb d_law_498 (by decide) (fun q9 => ?_) (fun q9 => absurd hD.1 q9)
  exact hnext σ_4 _ _ _ hD.2 hw hl
set_option maxRecDepth 20000 in
set_option maxHeartbeats 4000000 in
theorem law_match {p : Program} {l : Launch} {e : Env} {s : State} {m : MethodId} {below : List Frame} {meth : Method} {c : Code} {G : GC} {b L : Nat} {xs : Nat → Int32} {cells slots : Nat} (Inv : GSt → Prop) (hcs : cells ≤ room_1.cells ∧ slots ≤ room_1.slots) (hx : p.tables.exec = Jvm.exec) (hb : c.code = code) (hml : c.maxLocals = 4) (hown : s.vm.findClass "GameLoomLaw" = some m.cls) (hts : ∀ w ∈ lw_us, w.before #[Value.ref b] s = true) (hX : va_X b L xs s s.heap) (hbl : b < s.heap.size) (hbA : ¬ Aw G b) (x3 : Int32) (hin1 : vp_in (x3 + 1) L) (hin2 : vp_in (x3 + 2) L) (hin3 : vp_in (x3 + 3) L) (hin4 : vp_in (x3 + 4) L) (hin5 : vp_in (x3 + 5) L) (hop_match : Op_match Inv) (σ : GSt) (hI : Inv σ) {H : Heap} {locs : List Loc} {ls : Array Slot} (hnext : ∀ (σ : GSt) (H : Heap) (locs : List Loc) (ls : Array Slot), Inv σ → Wo G s H locs σ → lv_has ls 4 [(0, .ref b), (1, .ref (G.2.1 0)), (2, .ref (G.2.1 237)), (3, .int x3)] → W p l e room_1 s m #[Value.ref b] below meth c H locs cells slots (lw_Z below #[Value.ref b] s) (F0 m 1147 ls [])) (hw : Wo G s H locs σ) (hl : lv_has ls 4 [(0, .ref b), (1, .ref (G.2.1 0)), (2, .ref (G.2.1 237)), (3, .int x3)]) : W p l e room_1 s m #[Value.ref b] below meth c H locs cells slots (lw_Z below #[Value.ref b] s) (F0 m 503 ls []) := by
  refine lv_aload_n hx hb d_law_503 rfl (lv_at hl 1 rfl) ?_
  refine lv_aload_n hx hb d_law_504 rfl (lv_at hl 0 rfl) ?_
  refine lv_iload_n hx hb d_law_505 rfl (lv_at hl 3 rfl) ?_
  refine lv_iconst (v := 1) hx hb d_law_506 (by decide) ?_
  refine lv_iadd hx hb d_law_507 ?_
  refine va_sld hx hb hX hbl hbA hw.2.2.2.1 hin1 d_law_508 ?_
  refine lv_aload_n hx hb d_law_509 rfl (lv_at hl 0 rfl) ?_
  refine lv_iload_n hx hb d_law_510 rfl (lv_at hl 3 rfl) ?_
  refine lv_iconst (v := 2) hx hb d_law_511 (by decide) ?_
  refine lv_iadd hx hb d_law_512 ?_
  refine va_sld hx hb hX hbl hbA hw.2.2.2.1 hin2 d_law_513 ?_
  refine lv_aload_n hx hb d_law_514 rfl (lv_at hl 0 rfl) ?_
  refine lv_iload_n hx hb d_law_515 rfl (lv_at hl 3 rfl) ?_
  refine lv_iconst (v := 3) hx hb d_law_516 (by decide) ?_
  refine lv_iadd hx hb d_law_517 ?_
  refine va_sld hx hb hX hbl hbA hw.2.2.2.1 hin3 d_law_518 ?_
  refine lv_aload_n hx hb d_law_519 rfl (lv_at hl 0 rfl) ?_
  refine lv_iload_n hx hb d_law_520 rfl (lv_at hl 3 rfl) ?_
  refine lv_iconst (v := 4) hx hb d_law_521 (by decide) ?_
  refine lv_iadd hx hb d_law_522 ?_
  refine va_sld hx hb hX hbl hbA hw.2.2.2.1 hin4 d_law_523 ?_
  have hD := hop_match (xs (Int32.toNatClampNeg (x3 + 1))) (xs (Int32.toNatClampNeg (x3 + 2))) (xs (Int32.toNatClampNeg (x3 + 3))) (xs (Int32.toNatClampNeg (x3 + 4))) σ hI
  refine gcL_i (rest := []) (As := [.int (xs (Int32.toNatClampNeg (x3 + 1))), .int (xs (Int32.toNatClampNeg (x3 + 2))), .int (xs (Int32.toNatClampNeg (x3 + 3))), .int (xs (Int32.toNatClampNeg (x3 + 4)))]) (o := 0) ⟨hx, hb, hml, hown, hts⟩ hw (c_X10_match l G (xs (Int32.toNatClampNeg (x3 + 1))) (xs (Int32.toNatClampNeg (x3 + 2))) (xs (Int32.toNatClampNeg (x3 + 3))) (xs (Int32.toNatClampNeg (x3 + 4))) σ _ hD) (by decide) (ce_10 G _ (by decide +kernel)) rfl tb_713 tb_714 tb_715 tb_1 tb_716 hd_X10_match ⟨rfl, rfl⟩ ⟨Nat.le_of_ble_eq_true rfl, Nat.le_of_ble_eq_true rfl⟩ rfl hl.1 rfl (Nat.le_of_ble_eq_true rfl) hcs d_law_524 (fun r_1 σ_2 H locs hD hw => ?_)
  refine lv_aload_n hx hb d_law_527 rfl (lv_at hl 2 rfl) ?_
  refine lv_aload_n hx hb d_law_528 rfl (lv_at hl 0 rfl) ?_
  refine lv_iload_n hx hb d_law_529 rfl (lv_at hl 3 rfl) ?_
  refine lv_iconst (v := 1) hx hb d_law_530 (by decide) ?_
  refine lv_iadd hx hb d_law_531 ?_
  refine va_sld hx hb hX hbl hbA hw.2.2.2.1 hin1 d_law_532 ?_
  refine lv_aload_n hx hb d_law_533 rfl (lv_at hl 0 rfl) ?_
  refine lv_iload_n hx hb d_law_534 rfl (lv_at hl 3 rfl) ?_
  refine lv_iconst (v := 2) hx hb d_law_535 (by decide) ?_
  refine lv_iadd hx hb d_law_536 ?_
  refine va_sld hx hb hX hbl hbA hw.2.2.2.1 hin2 d_law_537 ?_
  refine lv_aload_n hx hb d_law_538 rfl (lv_at hl 0 rfl) ?_
  refine lv_iload_n hx hb d_law_539 rfl (lv_at hl 3 rfl) ?_
  refine lv_iconst (v := 3) hx hb d_law_540 (by decide) ?_
  refine lv_iadd hx hb d_law_541 ?_
  refine va_sld hx hb hX hbl hbA hw.2.2.2.1 hin3 d_law_542 ?_
  refine lv_aload_n hx hb d_law_543 rfl (lv_at hl 0 rfl) ?_
  refine lv_iload_n hx hb d_law_544 rfl (lv_at hl 3 rfl) ?_
  refine lv_iconst (v := 4) hx hb d_law_545 (by decide) ?_
  refine lv_iadd hx hb d_law_546 ?_
  refine va_sld hx hb hX hbl hbA hw.2.2.2.1 hin4 d_law_547 ?_
  refine gcL_i (rest := [.int r_1]) (As := [.int (xs (Int32.toNatClampNeg (x3 + 1))), .int (xs (Int32.toNatClampNeg (x3 + 2))), .int (xs (Int32.toNatClampNeg (x3 + 3))), .int (xs (Int32.toNatClampNeg (x3 + 4)))]) (o := 237) ⟨hx, hb, hml, hown, hts⟩ hw (c_X11_match l G (xs (Int32.toNatClampNeg (x3 + 1))) (xs (Int32.toNatClampNeg (x3 + 2))) (xs (Int32.toNatClampNeg (x3 + 3))) (xs (Int32.toNatClampNeg (x3 + 4))) σ_2 _ hD) (by decide) (ce_11 G _ (by decide +kernel)) rfl tb_1285 tb_1286 tb_1287 tb_12 tb_1288 hd_X11_match ⟨rfl, rfl⟩ ⟨Nat.le_of_ble_eq_true rfl, Nat.le_of_ble_eq_true rfl⟩ rfl hl.1 rfl (Nat.le_of_ble_eq_true rfl) hcs d_law_548 (fun r_3 σ_4 H locs hD hw => ?_)
  refine lv_icmp_eq (tgt := 1147) hx hb d_law_551 (by decide) (fun q9 => ?_) (fun q9 => absurd hD.1 q9)
  exact hnext σ_4 _ _ _ hD.2 hw hl
set_option maxRecDepth 20000 in
set_option maxHeartbeats 4000000 in
theorem law_measure {p : Program} {l : Launch} {e : Env} {s : State} {m : MethodId} {below : List Frame} {meth : Method} {c : Code} {G : GC} {b L : Nat} {xs : Nat → Int32} {cells slots : Nat} (Inv : GSt → Prop) (hcs : cells ≤ room_1.cells ∧ slots ≤ room_1.slots) (hx : p.tables.exec = Jvm.exec) (hb : c.code = code) (hml : c.maxLocals = 4) (hown : s.vm.findClass "GameLoomLaw" = some m.cls) (hts : ∀ w ∈ lw_us, w.before #[Value.ref b] s = true) (hX : va_X b L xs s s.heap) (hbl : b < s.heap.size) (hbA : ¬ Aw G b) (x3 : Int32) (hin1 : vp_in (x3 + 1) L) (hin2 : vp_in (x3 + 2) L) (hin3 : vp_in (x3 + 3) L) (hin4 : vp_in (x3 + 4) L) (hin5 : vp_in (x3 + 5) L) (hop_measure : Op_measure Inv) (σ : GSt) (hI : Inv σ) {H : Heap} {locs : List Loc} {ls : Array Slot} (hnext : ∀ (σ : GSt) (H : Heap) (locs : List Loc) (ls : Array Slot), Inv σ → Wo G s H locs σ → lv_has ls 4 [(0, .ref b), (1, .ref (G.2.1 0)), (2, .ref (G.2.1 237)), (3, .int x3)] → W p l e room_1 s m #[Value.ref b] below meth c H locs cells slots (lw_Z below #[Value.ref b] s) (F0 m 1147 ls [])) (hw : Wo G s H locs σ) (hl : lv_has ls 4 [(0, .ref b), (1, .ref (G.2.1 0)), (2, .ref (G.2.1 237)), (3, .int x3)]) : W p l e room_1 s m #[Value.ref b] below meth c H locs cells slots (lw_Z below #[Value.ref b] s) (F0 m 556 ls []) := by
  refine lv_aload_n hx hb d_law_556 rfl (lv_at hl 1 rfl) ?_
  refine lv_aload_n hx hb d_law_557 rfl (lv_at hl 0 rfl) ?_
  refine lv_iload_n hx hb d_law_558 rfl (lv_at hl 3 rfl) ?_
  refine lv_iconst (v := 1) hx hb d_law_559 (by decide) ?_
  refine lv_iadd hx hb d_law_560 ?_
  refine va_sld hx hb hX hbl hbA hw.2.2.2.1 hin1 d_law_561 ?_
  refine lv_aload_n hx hb d_law_562 rfl (lv_at hl 0 rfl) ?_
  refine lv_iload_n hx hb d_law_563 rfl (lv_at hl 3 rfl) ?_
  refine lv_iconst (v := 2) hx hb d_law_564 (by decide) ?_
  refine lv_iadd hx hb d_law_565 ?_
  refine va_sld hx hb hX hbl hbA hw.2.2.2.1 hin2 d_law_566 ?_
  refine lv_aload_n hx hb d_law_567 rfl (lv_at hl 0 rfl) ?_
  refine lv_iload_n hx hb d_law_568 rfl (lv_at hl 3 rfl) ?_
  refine lv_iconst (v := 3) hx hb d_law_569 (by decide) ?_
  refine lv_iadd hx hb d_law_570 ?_
  refine va_sld hx hb hX hbl hbA hw.2.2.2.1 hin3 d_law_571 ?_
  refine lv_aload_n hx hb d_law_572 rfl (lv_at hl 0 rfl) ?_
  refine lv_iload_n hx hb d_law_573 rfl (lv_at hl 3 rfl) ?_
  refine lv_iconst (v := 4) hx hb d_law_574 (by decide) ?_
  refine lv_iadd hx hb d_law_575 ?_
  refine va_sld hx hb hX hbl hbA hw.2.2.2.1 hin4 d_law_576 ?_
  refine lv_aload_n hx hb d_law_577 rfl (lv_at hl 0 rfl) ?_
  refine lv_iload_n hx hb d_law_578 rfl (lv_at hl 3 rfl) ?_
  refine lv_iconst (v := 5) hx hb d_law_579 (by decide) ?_
  refine lv_iadd hx hb d_law_580 ?_
  refine va_sld hx hb hX hbl hbA hw.2.2.2.1 hin5 d_law_581 ?_
  have hD := hop_measure (xs (Int32.toNatClampNeg (x3 + 1))) (xs (Int32.toNatClampNeg (x3 + 2))) (xs (Int32.toNatClampNeg (x3 + 3))) (xs (Int32.toNatClampNeg (x3 + 4))) (xs (Int32.toNatClampNeg (x3 + 5))) σ hI
  refine gcL_i (rest := []) (As := [.int (xs (Int32.toNatClampNeg (x3 + 1))), .int (xs (Int32.toNatClampNeg (x3 + 2))), .int (xs (Int32.toNatClampNeg (x3 + 3))), .int (xs (Int32.toNatClampNeg (x3 + 4))), .int (xs (Int32.toNatClampNeg (x3 + 5)))]) (o := 0) ⟨hx, hb, hml, hown, hts⟩ hw (c_X10_measure l G (xs (Int32.toNatClampNeg (x3 + 1))) (xs (Int32.toNatClampNeg (x3 + 2))) (xs (Int32.toNatClampNeg (x3 + 3))) (xs (Int32.toNatClampNeg (x3 + 4))) (xs (Int32.toNatClampNeg (x3 + 5))) σ _ hD) (by decide) (ce_10 G _ (by decide +kernel)) rfl tb_750 tb_751 tb_752 tb_1 tb_753 hd_X10_measure ⟨rfl, rfl⟩ ⟨Nat.le_of_ble_eq_true rfl, Nat.le_of_ble_eq_true rfl⟩ rfl hl.1 rfl (Nat.le_of_ble_eq_true rfl) hcs d_law_582 (fun r_1 σ_2 H locs hD hw => ?_)
  refine lv_aload_n hx hb d_law_585 rfl (lv_at hl 2 rfl) ?_
  refine lv_aload_n hx hb d_law_586 rfl (lv_at hl 0 rfl) ?_
  refine lv_iload_n hx hb d_law_587 rfl (lv_at hl 3 rfl) ?_
  refine lv_iconst (v := 1) hx hb d_law_588 (by decide) ?_
  refine lv_iadd hx hb d_law_589 ?_
  refine va_sld hx hb hX hbl hbA hw.2.2.2.1 hin1 d_law_590 ?_
  refine lv_aload_n hx hb d_law_591 rfl (lv_at hl 0 rfl) ?_
  refine lv_iload_n hx hb d_law_592 rfl (lv_at hl 3 rfl) ?_
  refine lv_iconst (v := 2) hx hb d_law_593 (by decide) ?_
  refine lv_iadd hx hb d_law_594 ?_
  refine va_sld hx hb hX hbl hbA hw.2.2.2.1 hin2 d_law_595 ?_
  refine lv_aload_n hx hb d_law_596 rfl (lv_at hl 0 rfl) ?_
  refine lv_iload_n hx hb d_law_597 rfl (lv_at hl 3 rfl) ?_
  refine lv_iconst (v := 3) hx hb d_law_598 (by decide) ?_
  refine lv_iadd hx hb d_law_599 ?_
  refine va_sld hx hb hX hbl hbA hw.2.2.2.1 hin3 d_law_600 ?_
  refine lv_aload_n hx hb d_law_601 rfl (lv_at hl 0 rfl) ?_
  refine lv_iload_n hx hb d_law_602 rfl (lv_at hl 3 rfl) ?_
  refine lv_iconst (v := 4) hx hb d_law_603 (by decide) ?_
  refine lv_iadd hx hb d_law_604 ?_
  refine va_sld hx hb hX hbl hbA hw.2.2.2.1 hin4 d_law_605 ?_
  refine lv_aload_n hx hb d_law_606 rfl (lv_at hl 0 rfl) ?_
  refine lv_iload_n hx hb d_law_607 rfl (lv_at hl 3 rfl) ?_
  refine lv_iconst (v := 5) hx hb d_law_608 (by decide) ?_
  refine lv_iadd hx hb d_law_609 ?_
  refine va_sld hx hb hX hbl hbA hw.2.2.2.1 hin5 d_law_610 ?_
  refine gcL_i (rest := [.int r_1]) (As := [.int (xs (Int32.toNatClampNeg (x3 + 1))), .int (xs (Int32.toNatClampNeg (x3 + 2))), .int (xs (Int32.toNatClampNeg (x3 + 3))), .int (xs (Int32.toNatClampNeg (x3 + 4))), .int (xs (Int32.toNatClampNeg (x3 + 5)))]) (o := 237) ⟨hx, hb, hml, hown, hts⟩ hw (c_X11_measure l G (xs (Int32.toNatClampNeg (x3 + 1))) (xs (Int32.toNatClampNeg (x3 + 2))) (xs (Int32.toNatClampNeg (x3 + 3))) (xs (Int32.toNatClampNeg (x3 + 4))) (xs (Int32.toNatClampNeg (x3 + 5))) σ_2 _ hD) (by decide) (ce_11 G _ (by decide +kernel)) rfl tb_1303 tb_1304 tb_1305 tb_12 tb_1306 hd_X11_measure ⟨rfl, rfl⟩ ⟨Nat.le_of_ble_eq_true rfl, Nat.le_of_ble_eq_true rfl⟩ rfl hl.1 rfl (Nat.le_of_ble_eq_true rfl) hcs d_law_611 (fun r_3 σ_4 H locs hD hw => ?_)
  refine lv_icmp_eq (tgt := 1147) hx hb d_law_614 (by decide) (fun q9 => ?_) (fun q9 => absurd hD.1 q9)
  exact hnext σ_4 _ _ _ hD.2 hw hl
set_option maxRecDepth 20000 in
set_option maxHeartbeats 4000000 in
theorem law_verdicts {p : Program} {l : Launch} {e : Env} {s : State} {m : MethodId} {below : List Frame} {meth : Method} {c : Code} {G : GC} {b L : Nat} {xs : Nat → Int32} {cells slots : Nat} (Inv : GSt → Prop) (hcs : cells ≤ room_1.cells ∧ slots ≤ room_1.slots) (hx : p.tables.exec = Jvm.exec) (hb : c.code = code) (hml : c.maxLocals = 4) (hown : s.vm.findClass "GameLoomLaw" = some m.cls) (hts : ∀ w ∈ lw_us, w.before #[Value.ref b] s = true) (hX : va_X b L xs s s.heap) (hbl : b < s.heap.size) (hbA : ¬ Aw G b) (x3 : Int32) (hin1 : vp_in (x3 + 1) L) (hin2 : vp_in (x3 + 2) L) (hin3 : vp_in (x3 + 3) L) (hin4 : vp_in (x3 + 4) L) (hin5 : vp_in (x3 + 5) L) (hop_verdicts : Op_verdicts Inv) (σ : GSt) (hI : Inv σ) {H : Heap} {locs : List Loc} {ls : Array Slot} (hnext : ∀ (σ : GSt) (H : Heap) (locs : List Loc) (ls : Array Slot), Inv σ → Wo G s H locs σ → lv_has ls 4 [(0, .ref b), (1, .ref (G.2.1 0)), (2, .ref (G.2.1 237)), (3, .int x3)] → W p l e room_1 s m #[Value.ref b] below meth c H locs cells slots (lw_Z below #[Value.ref b] s) (F0 m 1147 ls [])) (hw : Wo G s H locs σ) (hl : lv_has ls 4 [(0, .ref b), (1, .ref (G.2.1 0)), (2, .ref (G.2.1 237)), (3, .int x3)]) : W p l e room_1 s m #[Value.ref b] below meth c H locs cells slots (lw_Z below #[Value.ref b] s) (F0 m 619 ls []) := by
  refine lv_aload_n hx hb d_law_619 rfl (lv_at hl 1 rfl) ?_
  refine lv_aload_n hx hb d_law_620 rfl (lv_at hl 0 rfl) ?_
  refine lv_iload_n hx hb d_law_621 rfl (lv_at hl 3 rfl) ?_
  refine lv_iconst (v := 1) hx hb d_law_622 (by decide) ?_
  refine lv_iadd hx hb d_law_623 ?_
  refine va_sld hx hb hX hbl hbA hw.2.2.2.1 hin1 d_law_624 ?_
  refine lv_aload_n hx hb d_law_625 rfl (lv_at hl 0 rfl) ?_
  refine lv_iload_n hx hb d_law_626 rfl (lv_at hl 3 rfl) ?_
  refine lv_iconst (v := 2) hx hb d_law_627 (by decide) ?_
  refine lv_iadd hx hb d_law_628 ?_
  refine va_sld hx hb hX hbl hbA hw.2.2.2.1 hin2 d_law_629 ?_
  have hD := hop_verdicts (xs (Int32.toNatClampNeg (x3 + 1))) (xs (Int32.toNatClampNeg (x3 + 2))) σ hI
  refine gcL_i (rest := []) (As := [.int (xs (Int32.toNatClampNeg (x3 + 1))), .int (xs (Int32.toNatClampNeg (x3 + 2)))]) (o := 0) ⟨hx, hb, hml, hown, hts⟩ hw (c_X10_verdicts l G (xs (Int32.toNatClampNeg (x3 + 1))) (xs (Int32.toNatClampNeg (x3 + 2))) σ _ hD) (by decide) (ce_10 G _ (by decide +kernel)) rfl tb_762 tb_763 tb_764 tb_1 tb_765 hd_X10_verdicts ⟨rfl, rfl⟩ ⟨Nat.le_of_ble_eq_true rfl, Nat.le_of_ble_eq_true rfl⟩ rfl hl.1 rfl (Nat.le_of_ble_eq_true rfl) hcs d_law_630 (fun r_1 σ_2 H locs hD hw => ?_)
  refine lv_aload_n hx hb d_law_633 rfl (lv_at hl 2 rfl) ?_
  refine lv_aload_n hx hb d_law_634 rfl (lv_at hl 0 rfl) ?_
  refine lv_iload_n hx hb d_law_635 rfl (lv_at hl 3 rfl) ?_
  refine lv_iconst (v := 1) hx hb d_law_636 (by decide) ?_
  refine lv_iadd hx hb d_law_637 ?_
  refine va_sld hx hb hX hbl hbA hw.2.2.2.1 hin1 d_law_638 ?_
  refine lv_aload_n hx hb d_law_639 rfl (lv_at hl 0 rfl) ?_
  refine lv_iload_n hx hb d_law_640 rfl (lv_at hl 3 rfl) ?_
  refine lv_iconst (v := 2) hx hb d_law_641 (by decide) ?_
  refine lv_iadd hx hb d_law_642 ?_
  refine va_sld hx hb hX hbl hbA hw.2.2.2.1 hin2 d_law_643 ?_
  refine gcL_i (rest := [.int r_1]) (As := [.int (xs (Int32.toNatClampNeg (x3 + 1))), .int (xs (Int32.toNatClampNeg (x3 + 2)))]) (o := 237) ⟨hx, hb, hml, hown, hts⟩ hw (c_X11_verdicts l G (xs (Int32.toNatClampNeg (x3 + 1))) (xs (Int32.toNatClampNeg (x3 + 2))) σ_2 _ hD) (by decide) (ce_11 G _ (by decide +kernel)) rfl tb_1309 tb_1310 tb_1311 tb_12 tb_1312 hd_X11_verdicts ⟨rfl, rfl⟩ ⟨Nat.le_of_ble_eq_true rfl, Nat.le_of_ble_eq_true rfl⟩ rfl hl.1 rfl (Nat.le_of_ble_eq_true rfl) hcs d_law_644 (fun r_3 σ_4 H locs hD hw => ?_)
  refine lv_icmp_eq (tgt := 1147) hx hb d_law_647 (by decide) (fun q9 => ?_) (fun q9 => absurd hD.1 q9)
  exact hnext σ_4 _ _ _ hD.2 hw hl
set_option maxRecDepth 20000 in
set_option maxHeartbeats 4000000 in
theorem law_distance {p : Program} {l : Launch} {e : Env} {s : State} {m : MethodId} {below : List Frame} {meth : Method} {c : Code} {G : GC} {b L : Nat} {xs : Nat → Int32} {cells slots : Nat} (Inv : GSt → Prop) (hcs : cells ≤ room_1.cells ∧ slots ≤ room_1.slots) (hx : p.tables.exec = Jvm.exec) (hb : c.code = code) (hml : c.maxLocals = 4) (hown : s.vm.findClass "GameLoomLaw" = some m.cls) (hts : ∀ w ∈ lw_us, w.before #[Value.ref b] s = true) (hX : va_X b L xs s s.heap) (hbl : b < s.heap.size) (hbA : ¬ Aw G b) (x3 : Int32) (hin1 : vp_in (x3 + 1) L) (hin2 : vp_in (x3 + 2) L) (hin3 : vp_in (x3 + 3) L) (hin4 : vp_in (x3 + 4) L) (hin5 : vp_in (x3 + 5) L) (hop_distance : Op_distance Inv) (σ : GSt) (hI : Inv σ) {H : Heap} {locs : List Loc} {ls : Array Slot} (hnext : ∀ (σ : GSt) (H : Heap) (locs : List Loc) (ls : Array Slot), Inv σ → Wo G s H locs σ → lv_has ls 4 [(0, .ref b), (1, .ref (G.2.1 0)), (2, .ref (G.2.1 237)), (3, .int x3)] → W p l e room_1 s m #[Value.ref b] below meth c H locs cells slots (lw_Z below #[Value.ref b] s) (F0 m 1147 ls [])) (hw : Wo G s H locs σ) (hl : lv_has ls 4 [(0, .ref b), (1, .ref (G.2.1 0)), (2, .ref (G.2.1 237)), (3, .int x3)]) : W p l e room_1 s m #[Value.ref b] below meth c H locs cells slots (lw_Z below #[Value.ref b] s) (F0 m 652 ls []) := by
  refine lv_aload_n hx hb d_law_652 rfl (lv_at hl 1 rfl) ?_
  refine lv_aload_n hx hb d_law_653 rfl (lv_at hl 0 rfl) ?_
  refine lv_iload_n hx hb d_law_654 rfl (lv_at hl 3 rfl) ?_
  refine lv_iconst (v := 1) hx hb d_law_655 (by decide) ?_
  refine lv_iadd hx hb d_law_656 ?_
  refine va_sld hx hb hX hbl hbA hw.2.2.2.1 hin1 d_law_657 ?_
  refine lv_aload_n hx hb d_law_658 rfl (lv_at hl 0 rfl) ?_
  refine lv_iload_n hx hb d_law_659 rfl (lv_at hl 3 rfl) ?_
  refine lv_iconst (v := 2) hx hb d_law_660 (by decide) ?_
  refine lv_iadd hx hb d_law_661 ?_
  refine va_sld hx hb hX hbl hbA hw.2.2.2.1 hin2 d_law_662 ?_
  refine lv_aload_n hx hb d_law_663 rfl (lv_at hl 0 rfl) ?_
  refine lv_iload_n hx hb d_law_664 rfl (lv_at hl 3 rfl) ?_
  refine lv_iconst (v := 3) hx hb d_law_665 (by decide) ?_
  refine lv_iadd hx hb d_law_666 ?_
  refine va_sld hx hb hX hbl hbA hw.2.2.2.1 hin3 d_law_667 ?_
  have hD := hop_distance (xs (Int32.toNatClampNeg (x3 + 1))) (xs (Int32.toNatClampNeg (x3 + 2))) (xs (Int32.toNatClampNeg (x3 + 3))) σ hI
  refine gcL_i (rest := []) (As := [.int (xs (Int32.toNatClampNeg (x3 + 1))), .int (xs (Int32.toNatClampNeg (x3 + 2))), .int (xs (Int32.toNatClampNeg (x3 + 3)))]) (o := 0) ⟨hx, hb, hml, hown, hts⟩ hw (c_X10_distance l G (xs (Int32.toNatClampNeg (x3 + 1))) (xs (Int32.toNatClampNeg (x3 + 2))) (xs (Int32.toNatClampNeg (x3 + 3))) σ _ hD) (by decide) (ce_10 G _ (by decide +kernel)) rfl tb_773 tb_774 tb_775 tb_1 tb_776 hd_X10_distance ⟨rfl, rfl⟩ ⟨Nat.le_of_ble_eq_true rfl, Nat.le_of_ble_eq_true rfl⟩ rfl hl.1 rfl (Nat.le_of_ble_eq_true rfl) hcs d_law_668 (fun r_1 σ_2 H locs hD hw => ?_)
  refine lv_aload_n hx hb d_law_671 rfl (lv_at hl 2 rfl) ?_
  refine lv_aload_n hx hb d_law_672 rfl (lv_at hl 0 rfl) ?_
  refine lv_iload_n hx hb d_law_673 rfl (lv_at hl 3 rfl) ?_
  refine lv_iconst (v := 1) hx hb d_law_674 (by decide) ?_
  refine lv_iadd hx hb d_law_675 ?_
  refine va_sld hx hb hX hbl hbA hw.2.2.2.1 hin1 d_law_676 ?_
  refine lv_aload_n hx hb d_law_677 rfl (lv_at hl 0 rfl) ?_
  refine lv_iload_n hx hb d_law_678 rfl (lv_at hl 3 rfl) ?_
  refine lv_iconst (v := 2) hx hb d_law_679 (by decide) ?_
  refine lv_iadd hx hb d_law_680 ?_
  refine va_sld hx hb hX hbl hbA hw.2.2.2.1 hin2 d_law_681 ?_
  refine lv_aload_n hx hb d_law_682 rfl (lv_at hl 0 rfl) ?_
  refine lv_iload_n hx hb d_law_683 rfl (lv_at hl 3 rfl) ?_
  refine lv_iconst (v := 3) hx hb d_law_684 (by decide) ?_
  refine lv_iadd hx hb d_law_685 ?_
  refine va_sld hx hb hX hbl hbA hw.2.2.2.1 hin3 d_law_686 ?_
  refine gcL_i (rest := [.int r_1]) (As := [.int (xs (Int32.toNatClampNeg (x3 + 1))), .int (xs (Int32.toNatClampNeg (x3 + 2))), .int (xs (Int32.toNatClampNeg (x3 + 3)))]) (o := 237) ⟨hx, hb, hml, hown, hts⟩ hw (c_X11_distance l G (xs (Int32.toNatClampNeg (x3 + 1))) (xs (Int32.toNatClampNeg (x3 + 2))) (xs (Int32.toNatClampNeg (x3 + 3))) σ_2 _ hD) (by decide) (ce_11 G _ (by decide +kernel)) rfl tb_1313 tb_1314 tb_1315 tb_12 tb_1316 hd_X11_distance ⟨rfl, rfl⟩ ⟨Nat.le_of_ble_eq_true rfl, Nat.le_of_ble_eq_true rfl⟩ rfl hl.1 rfl (Nat.le_of_ble_eq_true rfl) hcs d_law_687 (fun r_3 σ_4 H locs hD hw => ?_)
  refine lv_icmp_eq (tgt := 1147) hx hb d_law_690 (by decide) (fun q9 => ?_) (fun q9 => absurd hD.1 q9)
  exact hnext σ_4 _ _ _ hD.2 hw hl
set_option maxRecDepth 20000 in
set_option maxHeartbeats 4000000 in
theorem law_whatFor {p : Program} {l : Launch} {e : Env} {s : State} {m : MethodId} {below : List Frame} {meth : Method} {c : Code} {G : GC} {b L : Nat} {xs : Nat → Int32} {cells slots : Nat} (Inv : GSt → Prop) (hcs : cells ≤ room_1.cells ∧ slots ≤ room_1.slots) (hx : p.tables.exec = Jvm.exec) (hb : c.code = code) (hml : c.maxLocals = 4) (hown : s.vm.findClass "GameLoomLaw" = some m.cls) (hts : ∀ w ∈ lw_us, w.before #[Value.ref b] s = true) (hX : va_X b L xs s s.heap) (hbl : b < s.heap.size) (hbA : ¬ Aw G b) (x3 : Int32) (hin1 : vp_in (x3 + 1) L) (hin2 : vp_in (x3 + 2) L) (hin3 : vp_in (x3 + 3) L) (hin4 : vp_in (x3 + 4) L) (hin5 : vp_in (x3 + 5) L) (hop_whatFor : Op_whatFor Inv) (σ : GSt) (hI : Inv σ) {H : Heap} {locs : List Loc} {ls : Array Slot} (hnext : ∀ (σ : GSt) (H : Heap) (locs : List Loc) (ls : Array Slot), Inv σ → Wo G s H locs σ → lv_has ls 4 [(0, .ref b), (1, .ref (G.2.1 0)), (2, .ref (G.2.1 237)), (3, .int x3)] → W p l e room_1 s m #[Value.ref b] below meth c H locs cells slots (lw_Z below #[Value.ref b] s) (F0 m 1147 ls [])) (hw : Wo G s H locs σ) (hl : lv_has ls 4 [(0, .ref b), (1, .ref (G.2.1 0)), (2, .ref (G.2.1 237)), (3, .int x3)]) : W p l e room_1 s m #[Value.ref b] below meth c H locs cells slots (lw_Z below #[Value.ref b] s) (F0 m 695 ls []) := by
  refine lv_aload_n hx hb d_law_695 rfl (lv_at hl 1 rfl) ?_
  refine lv_aload_n hx hb d_law_696 rfl (lv_at hl 0 rfl) ?_
  refine lv_iload_n hx hb d_law_697 rfl (lv_at hl 3 rfl) ?_
  refine lv_iconst (v := 1) hx hb d_law_698 (by decide) ?_
  refine lv_iadd hx hb d_law_699 ?_
  refine va_sld hx hb hX hbl hbA hw.2.2.2.1 hin1 d_law_700 ?_
  refine lv_aload_n hx hb d_law_701 rfl (lv_at hl 0 rfl) ?_
  refine lv_iload_n hx hb d_law_702 rfl (lv_at hl 3 rfl) ?_
  refine lv_iconst (v := 2) hx hb d_law_703 (by decide) ?_
  refine lv_iadd hx hb d_law_704 ?_
  refine va_sld hx hb hX hbl hbA hw.2.2.2.1 hin2 d_law_705 ?_
  refine lv_aload_n hx hb d_law_706 rfl (lv_at hl 0 rfl) ?_
  refine lv_iload_n hx hb d_law_707 rfl (lv_at hl 3 rfl) ?_
  refine lv_iconst (v := 3) hx hb d_law_708 (by decide) ?_
  refine lv_iadd hx hb d_law_709 ?_
  refine va_sld hx hb hX hbl hbA hw.2.2.2.1 hin3 d_law_710 ?_
  have hD := hop_whatFor (xs (Int32.toNatClampNeg (x3 + 1))) (xs (Int32.toNatClampNeg (x3 + 2))) (xs (Int32.toNatClampNeg (x3 + 3))) σ hI
  refine gcL_i (rest := []) (As := [.int (xs (Int32.toNatClampNeg (x3 + 1))), .int (xs (Int32.toNatClampNeg (x3 + 2))), .int (xs (Int32.toNatClampNeg (x3 + 3)))]) (o := 0) ⟨hx, hb, hml, hown, hts⟩ hw (c_X10_whatFor l G (xs (Int32.toNatClampNeg (x3 + 1))) (xs (Int32.toNatClampNeg (x3 + 2))) (xs (Int32.toNatClampNeg (x3 + 3))) σ _ hD) (by decide) (ce_10 G _ (by decide +kernel)) rfl tb_784 tb_785 tb_786 tb_1 tb_787 hd_X10_whatFor ⟨rfl, rfl⟩ ⟨Nat.le_of_ble_eq_true rfl, Nat.le_of_ble_eq_true rfl⟩ rfl hl.1 rfl (Nat.le_of_ble_eq_true rfl) hcs d_law_711 (fun r_1 σ_2 H locs hD hw => ?_)
  refine lv_aload_n hx hb d_law_714 rfl (lv_at hl 2 rfl) ?_
  refine lv_aload_n hx hb d_law_715 rfl (lv_at hl 0 rfl) ?_
  refine lv_iload_n hx hb d_law_716 rfl (lv_at hl 3 rfl) ?_
  refine lv_iconst (v := 1) hx hb d_law_717 (by decide) ?_
  refine lv_iadd hx hb d_law_718 ?_
  refine va_sld hx hb hX hbl hbA hw.2.2.2.1 hin1 d_law_719 ?_
  refine lv_aload_n hx hb d_law_720 rfl (lv_at hl 0 rfl) ?_
  refine lv_iload_n hx hb d_law_721 rfl (lv_at hl 3 rfl) ?_
  refine lv_iconst (v := 2) hx hb d_law_722 (by decide) ?_
  refine lv_iadd hx hb d_law_723 ?_
  refine va_sld hx hb hX hbl hbA hw.2.2.2.1 hin2 d_law_724 ?_
  refine lv_aload_n hx hb d_law_725 rfl (lv_at hl 0 rfl) ?_
  refine lv_iload_n hx hb d_law_726 rfl (lv_at hl 3 rfl) ?_
  refine lv_iconst (v := 3) hx hb d_law_727 (by decide) ?_
  refine lv_iadd hx hb d_law_728 ?_
  refine va_sld hx hb hX hbl hbA hw.2.2.2.1 hin3 d_law_729 ?_
  refine gcL_i (rest := [.int r_1]) (As := [.int (xs (Int32.toNatClampNeg (x3 + 1))), .int (xs (Int32.toNatClampNeg (x3 + 2))), .int (xs (Int32.toNatClampNeg (x3 + 3)))]) (o := 237) ⟨hx, hb, hml, hown, hts⟩ hw (c_X11_whatFor l G (xs (Int32.toNatClampNeg (x3 + 1))) (xs (Int32.toNatClampNeg (x3 + 2))) (xs (Int32.toNatClampNeg (x3 + 3))) σ_2 _ hD) (by decide) (ce_11 G _ (by decide +kernel)) rfl tb_1324 tb_1325 tb_1326 tb_12 tb_1327 hd_X11_whatFor ⟨rfl, rfl⟩ ⟨Nat.le_of_ble_eq_true rfl, Nat.le_of_ble_eq_true rfl⟩ rfl hl.1 rfl (Nat.le_of_ble_eq_true rfl) hcs d_law_730 (fun r_3 σ_4 H locs hD hw => ?_)
  refine lv_icmp_eq (tgt := 1147) hx hb d_law_733 (by decide) (fun q9 => ?_) (fun q9 => absurd hD.1 q9)
  exact hnext σ_4 _ _ _ hD.2 hw hl
set_option maxRecDepth 20000 in
set_option maxHeartbeats 4000000 in
theorem law_graft {p : Program} {l : Launch} {e : Env} {s : State} {m : MethodId} {below : List Frame} {meth : Method} {c : Code} {G : GC} {b L : Nat} {xs : Nat → Int32} {cells slots : Nat} (Inv : GSt → Prop) (hcs : cells ≤ room_1.cells ∧ slots ≤ room_1.slots) (hx : p.tables.exec = Jvm.exec) (hb : c.code = code) (hml : c.maxLocals = 4) (hown : s.vm.findClass "GameLoomLaw" = some m.cls) (hts : ∀ w ∈ lw_us, w.before #[Value.ref b] s = true) (hX : va_X b L xs s s.heap) (hbl : b < s.heap.size) (hbA : ¬ Aw G b) (x3 : Int32) (hin1 : vp_in (x3 + 1) L) (hin2 : vp_in (x3 + 2) L) (hin3 : vp_in (x3 + 3) L) (hin4 : vp_in (x3 + 4) L) (hin5 : vp_in (x3 + 5) L) (hop_graft : Op_graft Inv) (σ : GSt) (hI : Inv σ) {H : Heap} {locs : List Loc} {ls : Array Slot} (hnext : ∀ (σ : GSt) (H : Heap) (locs : List Loc) (ls : Array Slot), Inv σ → Wo G s H locs σ → lv_has ls 4 [(0, .ref b), (1, .ref (G.2.1 0)), (2, .ref (G.2.1 237)), (3, .int x3)] → W p l e room_1 s m #[Value.ref b] below meth c H locs cells slots (lw_Z below #[Value.ref b] s) (F0 m 1147 ls [])) (hw : Wo G s H locs σ) (hl : lv_has ls 4 [(0, .ref b), (1, .ref (G.2.1 0)), (2, .ref (G.2.1 237)), (3, .int x3)]) : W p l e room_1 s m #[Value.ref b] below meth c H locs cells slots (lw_Z below #[Value.ref b] s) (F0 m 738 ls []) := by
  refine lv_aload_n hx hb d_law_738 rfl (lv_at hl 1 rfl) ?_
  refine lv_aload_n hx hb d_law_739 rfl (lv_at hl 0 rfl) ?_
  refine lv_iload_n hx hb d_law_740 rfl (lv_at hl 3 rfl) ?_
  refine lv_iconst (v := 1) hx hb d_law_741 (by decide) ?_
  refine lv_iadd hx hb d_law_742 ?_
  refine va_sld hx hb hX hbl hbA hw.2.2.2.1 hin1 d_law_743 ?_
  refine lv_aload_n hx hb d_law_744 rfl (lv_at hl 0 rfl) ?_
  refine lv_iload_n hx hb d_law_745 rfl (lv_at hl 3 rfl) ?_
  refine lv_iconst (v := 2) hx hb d_law_746 (by decide) ?_
  refine lv_iadd hx hb d_law_747 ?_
  refine va_sld hx hb hX hbl hbA hw.2.2.2.1 hin2 d_law_748 ?_
  have hD := hop_graft (xs (Int32.toNatClampNeg (x3 + 1))) (xs (Int32.toNatClampNeg (x3 + 2))) σ hI
  refine gcL_i (rest := []) (As := [.int (xs (Int32.toNatClampNeg (x3 + 1))), .int (xs (Int32.toNatClampNeg (x3 + 2)))]) (o := 0) ⟨hx, hb, hml, hown, hts⟩ hw (c_X10_graft l G (xs (Int32.toNatClampNeg (x3 + 1))) (xs (Int32.toNatClampNeg (x3 + 2))) σ _ hD) (by decide) (ce_10 G _ (by decide +kernel)) rfl tb_798 tb_799 tb_800 tb_1 tb_801 hd_X10_graft ⟨rfl, rfl⟩ ⟨Nat.le_of_ble_eq_true rfl, Nat.le_of_ble_eq_true rfl⟩ rfl hl.1 rfl (Nat.le_of_ble_eq_true rfl) hcs d_law_749 (fun r_1 σ_2 H locs hD hw => ?_)
  refine lv_aload_n hx hb d_law_752 rfl (lv_at hl 2 rfl) ?_
  refine lv_aload_n hx hb d_law_753 rfl (lv_at hl 0 rfl) ?_
  refine lv_iload_n hx hb d_law_754 rfl (lv_at hl 3 rfl) ?_
  refine lv_iconst (v := 1) hx hb d_law_755 (by decide) ?_
  refine lv_iadd hx hb d_law_756 ?_
  refine va_sld hx hb hX hbl hbA hw.2.2.2.1 hin1 d_law_757 ?_
  refine lv_aload_n hx hb d_law_758 rfl (lv_at hl 0 rfl) ?_
  refine lv_iload_n hx hb d_law_759 rfl (lv_at hl 3 rfl) ?_
  refine lv_iconst (v := 2) hx hb d_law_760 (by decide) ?_
  refine lv_iadd hx hb d_law_761 ?_
  refine va_sld hx hb hX hbl hbA hw.2.2.2.1 hin2 d_law_762 ?_
  refine gcL_i (rest := [.int r_1]) (As := [.int (xs (Int32.toNatClampNeg (x3 + 1))), .int (xs (Int32.toNatClampNeg (x3 + 2)))]) (o := 237) ⟨hx, hb, hml, hown, hts⟩ hw (c_X11_graft l G (xs (Int32.toNatClampNeg (x3 + 1))) (xs (Int32.toNatClampNeg (x3 + 2))) σ_2 _ hD) (by decide) (ce_11 G _ (by decide +kernel)) rfl tb_1344 tb_1345 tb_1346 tb_12 tb_1347 hd_X11_graft ⟨rfl, rfl⟩ ⟨Nat.le_of_ble_eq_true rfl, Nat.le_of_ble_eq_true rfl⟩ rfl hl.1 rfl (Nat.le_of_ble_eq_true rfl) hcs d_law_763 (fun r_3 σ_4 H locs hD hw => ?_)
  refine lv_icmp_eq (tgt := 1147) hx hb d_law_766 (by decide) (fun q9 => ?_) (fun q9 => absurd hD.1 q9)
  exact hnext σ_4 _ _ _ hD.2 hw hl
set_option maxRecDepth 20000 in
set_option maxHeartbeats 4000000 in
theorem law_drop {p : Program} {l : Launch} {e : Env} {s : State} {m : MethodId} {below : List Frame} {meth : Method} {c : Code} {G : GC} {b L : Nat} {xs : Nat → Int32} {cells slots : Nat} (Inv : GSt → Prop) (hcs : cells ≤ room_1.cells ∧ slots ≤ room_1.slots) (hx : p.tables.exec = Jvm.exec) (hb : c.code = code) (hml : c.maxLocals = 4) (hown : s.vm.findClass "GameLoomLaw" = some m.cls) (hts : ∀ w ∈ lw_us, w.before #[Value.ref b] s = true) (hX : va_X b L xs s s.heap) (hbl : b < s.heap.size) (hbA : ¬ Aw G b) (x3 : Int32) (hin1 : vp_in (x3 + 1) L) (hin2 : vp_in (x3 + 2) L) (hin3 : vp_in (x3 + 3) L) (hin4 : vp_in (x3 + 4) L) (hin5 : vp_in (x3 + 5) L) (hop_drop : Op_drop Inv) (σ : GSt) (hI : Inv σ) {H : Heap} {locs : List Loc} {ls : Array Slot} (hnext : ∀ (σ : GSt) (H : Heap) (locs : List Loc) (ls : Array Slot), Inv σ → Wo G s H locs σ → lv_has ls 4 [(0, .ref b), (1, .ref (G.2.1 0)), (2, .ref (G.2.1 237)), (3, .int x3)] → W p l e room_1 s m #[Value.ref b] below meth c H locs cells slots (lw_Z below #[Value.ref b] s) (F0 m 1147 ls [])) (hw : Wo G s H locs σ) (hl : lv_has ls 4 [(0, .ref b), (1, .ref (G.2.1 0)), (2, .ref (G.2.1 237)), (3, .int x3)]) : W p l e room_1 s m #[Value.ref b] below meth c H locs cells slots (lw_Z below #[Value.ref b] s) (F0 m 771 ls []) := by
  refine lv_aload_n hx hb d_law_771 rfl (lv_at hl 1 rfl) ?_
  refine lv_aload_n hx hb d_law_772 rfl (lv_at hl 0 rfl) ?_
  refine lv_iload_n hx hb d_law_773 rfl (lv_at hl 3 rfl) ?_
  refine lv_iconst (v := 1) hx hb d_law_774 (by decide) ?_
  refine lv_iadd hx hb d_law_775 ?_
  refine va_sld hx hb hX hbl hbA hw.2.2.2.1 hin1 d_law_776 ?_
  refine lv_aload_n hx hb d_law_777 rfl (lv_at hl 0 rfl) ?_
  refine lv_iload_n hx hb d_law_778 rfl (lv_at hl 3 rfl) ?_
  refine lv_iconst (v := 2) hx hb d_law_779 (by decide) ?_
  refine lv_iadd hx hb d_law_780 ?_
  refine va_sld hx hb hX hbl hbA hw.2.2.2.1 hin2 d_law_781 ?_
  refine lv_aload_n hx hb d_law_782 rfl (lv_at hl 0 rfl) ?_
  refine lv_iload_n hx hb d_law_783 rfl (lv_at hl 3 rfl) ?_
  refine lv_iconst (v := 3) hx hb d_law_784 (by decide) ?_
  refine lv_iadd hx hb d_law_785 ?_
  refine va_sld hx hb hX hbl hbA hw.2.2.2.1 hin3 d_law_786 ?_
  refine lv_if_eq (tgt := 794) hx hb d_law_787 (by decide) (fun q_787 => ?_) (fun q_787 => ?_)
  · refine lv_iconst (v := 0) hx hb d_law_794 (by decide) ?_
    have hD := hop_drop (xs (Int32.toNatClampNeg (x3 + 1))) (xs (Int32.toNatClampNeg (x3 + 2))) 0 σ (by decide) hI
    refine gcL_i (rest := []) (As := [.int (xs (Int32.toNatClampNeg (x3 + 1))), .int (xs (Int32.toNatClampNeg (x3 + 2))), .int 0]) (o := 0) ⟨hx, hb, hml, hown, hts⟩ hw (c_X10_drop l G (xs (Int32.toNatClampNeg (x3 + 1))) (xs (Int32.toNatClampNeg (x3 + 2))) 0 σ _ hD) (by decide) (ce_10 G _ (by decide +kernel)) rfl tb_803 tb_804 tb_805 tb_1 tb_806 hd_X10_drop ⟨rfl, rfl⟩ ⟨Nat.le_of_ble_eq_true rfl, Nat.le_of_ble_eq_true rfl⟩ rfl hl.1 rfl (Nat.le_of_ble_eq_true rfl) hcs d_law_795 (fun r_1 σ_2 H locs hD hw => ?_)
    refine lv_aload_n hx hb d_law_798 rfl (lv_at hl 2 rfl) ?_
    refine lv_aload_n hx hb d_law_799 rfl (lv_at hl 0 rfl) ?_
    refine lv_iload_n hx hb d_law_800 rfl (lv_at hl 3 rfl) ?_
    refine lv_iconst (v := 1) hx hb d_law_801 (by decide) ?_
    refine lv_iadd hx hb d_law_802 ?_
    refine va_sld hx hb hX hbl hbA hw.2.2.2.1 hin1 d_law_803 ?_
    refine lv_aload_n hx hb d_law_804 rfl (lv_at hl 0 rfl) ?_
    refine lv_iload_n hx hb d_law_805 rfl (lv_at hl 3 rfl) ?_
    refine lv_iconst (v := 2) hx hb d_law_806 (by decide) ?_
    refine lv_iadd hx hb d_law_807 ?_
    refine va_sld hx hb hX hbl hbA hw.2.2.2.1 hin2 d_law_808 ?_
    refine lv_aload_n hx hb d_law_809 rfl (lv_at hl 0 rfl) ?_
    refine lv_iload_n hx hb d_law_810 rfl (lv_at hl 3 rfl) ?_
    refine lv_iconst (v := 3) hx hb d_law_811 (by decide) ?_
    refine lv_iadd hx hb d_law_812 ?_
    refine va_sld hx hb hX hbl hbA hw.2.2.2.1 hin3 d_law_813 ?_
    refine lv_if_eq (tgt := 821) hx hb d_law_814 (by decide) (fun q9 => ?_) (fun q9 => absurd q_787 q9)
    refine lv_iconst (v := 0) hx hb d_law_821 (by decide) ?_
    refine gcL_i (rest := [.int r_1]) (As := [.int (xs (Int32.toNatClampNeg (x3 + 1))), .int (xs (Int32.toNatClampNeg (x3 + 2))), .int 0]) (o := 237) ⟨hx, hb, hml, hown, hts⟩ hw (c_X11_drop l G (xs (Int32.toNatClampNeg (x3 + 1))) (xs (Int32.toNatClampNeg (x3 + 2))) 0 σ_2 _ hD) (by decide) (ce_11 G _ (by decide +kernel)) rfl tb_1348 tb_1349 tb_1350 tb_12 tb_1351 hd_X11_drop ⟨rfl, rfl⟩ ⟨Nat.le_of_ble_eq_true rfl, Nat.le_of_ble_eq_true rfl⟩ rfl hl.1 rfl (Nat.le_of_ble_eq_true rfl) hcs d_law_822 (fun r_3 σ_4 H locs hD hw => ?_)
    refine lv_icmp_eq (tgt := 1147) hx hb d_law_825 (by decide) (fun q9 => ?_) (fun q9 => absurd hD.1 q9)
    exact hnext σ_4 _ _ _ hD.2 hw hl
  · refine lv_iconst (v := 1) hx hb d_law_790 (by decide) ?_
    refine lv_goto (tgt := 795) hx hb d_law_791 (by decide) ?_
    have hD := hop_drop (xs (Int32.toNatClampNeg (x3 + 1))) (xs (Int32.toNatClampNeg (x3 + 2))) 1 σ (by decide) hI
    refine gcL_i (rest := []) (As := [.int (xs (Int32.toNatClampNeg (x3 + 1))), .int (xs (Int32.toNatClampNeg (x3 + 2))), .int 1]) (o := 0) ⟨hx, hb, hml, hown, hts⟩ hw (c_X10_drop l G (xs (Int32.toNatClampNeg (x3 + 1))) (xs (Int32.toNatClampNeg (x3 + 2))) 1 σ _ hD) (by decide) (ce_10 G _ (by decide +kernel)) rfl tb_803 tb_804 tb_805 tb_1 tb_806 hd_X10_drop ⟨rfl, rfl⟩ ⟨Nat.le_of_ble_eq_true rfl, Nat.le_of_ble_eq_true rfl⟩ rfl hl.1 rfl (Nat.le_of_ble_eq_true rfl) hcs d_law_795 (fun r_5 σ_6 H locs hD hw => ?_)
    refine lv_aload_n hx hb d_law_798 rfl (lv_at hl 2 rfl) ?_
    refine lv_aload_n hx hb d_law_799 rfl (lv_at hl 0 rfl) ?_
    refine lv_iload_n hx hb d_law_800 rfl (lv_at hl 3 rfl) ?_
    refine lv_iconst (v := 1) hx hb d_law_801 (by decide) ?_
    refine lv_iadd hx hb d_law_802 ?_
    refine va_sld hx hb hX hbl hbA hw.2.2.2.1 hin1 d_law_803 ?_
    refine lv_aload_n hx hb d_law_804 rfl (lv_at hl 0 rfl) ?_
    refine lv_iload_n hx hb d_law_805 rfl (lv_at hl 3 rfl) ?_
    refine lv_iconst (v := 2) hx hb d_law_806 (by decide) ?_
    refine lv_iadd hx hb d_law_807 ?_
    refine va_sld hx hb hX hbl hbA hw.2.2.2.1 hin2 d_law_808 ?_
    refine lv_aload_n hx hb d_law_809 rfl (lv_at hl 0 rfl) ?_
    refine lv_iload_n hx hb d_law_810 rfl (lv_at hl 3 rfl) ?_
    refine lv_iconst (v := 3) hx hb d_law_811 (by decide) ?_
    refine lv_iadd hx hb d_law_812 ?_
    refine va_sld hx hb hX hbl hbA hw.2.2.2.1 hin3 d_law_813 ?_
    refine lv_if_eq (tgt := 821) hx hb d_law_814 (by decide) (fun q9 => absurd q9 q_787) (fun q9 => ?_)
    refine lv_iconst (v := 1) hx hb d_law_817 (by decide) ?_
    refine lv_goto (tgt := 822) hx hb d_law_818 (by decide) ?_
    refine gcL_i (rest := [.int r_5]) (As := [.int (xs (Int32.toNatClampNeg (x3 + 1))), .int (xs (Int32.toNatClampNeg (x3 + 2))), .int 1]) (o := 237) ⟨hx, hb, hml, hown, hts⟩ hw (c_X11_drop l G (xs (Int32.toNatClampNeg (x3 + 1))) (xs (Int32.toNatClampNeg (x3 + 2))) 1 σ_6 _ hD) (by decide) (ce_11 G _ (by decide +kernel)) rfl tb_1348 tb_1349 tb_1350 tb_12 tb_1351 hd_X11_drop ⟨rfl, rfl⟩ ⟨Nat.le_of_ble_eq_true rfl, Nat.le_of_ble_eq_true rfl⟩ rfl hl.1 rfl (Nat.le_of_ble_eq_true rfl) hcs d_law_822 (fun r_7 σ_8 H locs hD hw => ?_)
    refine lv_icmp_eq (tgt := 1147) hx hb d_law_825 (by decide) (fun q9 => ?_) (fun q9 => absurd hD.1 q9)
    exact hnext σ_8 _ _ _ hD.2 hw hl
set_option maxRecDepth 20000 in
set_option maxHeartbeats 4000000 in
theorem law_change {p : Program} {l : Launch} {e : Env} {s : State} {m : MethodId} {below : List Frame} {meth : Method} {c : Code} {G : GC} {b L : Nat} {xs : Nat → Int32} {cells slots : Nat} (Inv : GSt → Prop) (hcs : cells ≤ room_1.cells ∧ slots ≤ room_1.slots) (hx : p.tables.exec = Jvm.exec) (hb : c.code = code) (hml : c.maxLocals = 4) (hown : s.vm.findClass "GameLoomLaw" = some m.cls) (hts : ∀ w ∈ lw_us, w.before #[Value.ref b] s = true) (hX : va_X b L xs s s.heap) (hbl : b < s.heap.size) (hbA : ¬ Aw G b) (x3 : Int32) (hin1 : vp_in (x3 + 1) L) (hin2 : vp_in (x3 + 2) L) (hin3 : vp_in (x3 + 3) L) (hin4 : vp_in (x3 + 4) L) (hin5 : vp_in (x3 + 5) L) (hop_change : Op_change Inv) (σ : GSt) (hI : Inv σ) {H : Heap} {locs : List Loc} {ls : Array Slot} (hnext : ∀ (σ : GSt) (H : Heap) (locs : List Loc) (ls : Array Slot), Inv σ → Wo G s H locs σ → lv_has ls 4 [(0, .ref b), (1, .ref (G.2.1 0)), (2, .ref (G.2.1 237)), (3, .int x3)] → W p l e room_1 s m #[Value.ref b] below meth c H locs cells slots (lw_Z below #[Value.ref b] s) (F0 m 1147 ls [])) (hw : Wo G s H locs σ) (hl : lv_has ls 4 [(0, .ref b), (1, .ref (G.2.1 0)), (2, .ref (G.2.1 237)), (3, .int x3)]) : W p l e room_1 s m #[Value.ref b] below meth c H locs cells slots (lw_Z below #[Value.ref b] s) (F0 m 830 ls []) := by
  refine lv_aload_n hx hb d_law_830 rfl (lv_at hl 1 rfl) ?_
  refine lv_aload_n hx hb d_law_831 rfl (lv_at hl 0 rfl) ?_
  refine lv_iload_n hx hb d_law_832 rfl (lv_at hl 3 rfl) ?_
  refine lv_iconst (v := 1) hx hb d_law_833 (by decide) ?_
  refine lv_iadd hx hb d_law_834 ?_
  refine va_sld hx hb hX hbl hbA hw.2.2.2.1 hin1 d_law_835 ?_
  refine lv_aload_n hx hb d_law_836 rfl (lv_at hl 0 rfl) ?_
  refine lv_iload_n hx hb d_law_837 rfl (lv_at hl 3 rfl) ?_
  refine lv_iconst (v := 2) hx hb d_law_838 (by decide) ?_
  refine lv_iadd hx hb d_law_839 ?_
  refine va_sld hx hb hX hbl hbA hw.2.2.2.1 hin2 d_law_840 ?_
  refine lv_aload_n hx hb d_law_841 rfl (lv_at hl 0 rfl) ?_
  refine lv_iload_n hx hb d_law_842 rfl (lv_at hl 3 rfl) ?_
  refine lv_iconst (v := 3) hx hb d_law_843 (by decide) ?_
  refine lv_iadd hx hb d_law_844 ?_
  refine va_sld hx hb hX hbl hbA hw.2.2.2.1 hin3 d_law_845 ?_
  have hD := hop_change (xs (Int32.toNatClampNeg (x3 + 1))) (xs (Int32.toNatClampNeg (x3 + 2))) (xs (Int32.toNatClampNeg (x3 + 3))) σ hI
  refine gcL_i (rest := []) (As := [.int (xs (Int32.toNatClampNeg (x3 + 1))), .int (xs (Int32.toNatClampNeg (x3 + 2))), .int (xs (Int32.toNatClampNeg (x3 + 3)))]) (o := 0) ⟨hx, hb, hml, hown, hts⟩ hw (c_X10_change l G (xs (Int32.toNatClampNeg (x3 + 1))) (xs (Int32.toNatClampNeg (x3 + 2))) (xs (Int32.toNatClampNeg (x3 + 3))) σ _ hD) (by decide) (ce_10 G _ (by decide +kernel)) rfl tb_811 tb_812 tb_813 tb_1 tb_814 hd_X10_change ⟨rfl, rfl⟩ ⟨Nat.le_of_ble_eq_true rfl, Nat.le_of_ble_eq_true rfl⟩ rfl hl.1 rfl (Nat.le_of_ble_eq_true rfl) hcs d_law_846 (fun r_1 σ_2 H locs hD hw => ?_)
  refine lv_aload_n hx hb d_law_849 rfl (lv_at hl 2 rfl) ?_
  refine lv_aload_n hx hb d_law_850 rfl (lv_at hl 0 rfl) ?_
  refine lv_iload_n hx hb d_law_851 rfl (lv_at hl 3 rfl) ?_
  refine lv_iconst (v := 1) hx hb d_law_852 (by decide) ?_
  refine lv_iadd hx hb d_law_853 ?_
  refine va_sld hx hb hX hbl hbA hw.2.2.2.1 hin1 d_law_854 ?_
  refine lv_aload_n hx hb d_law_855 rfl (lv_at hl 0 rfl) ?_
  refine lv_iload_n hx hb d_law_856 rfl (lv_at hl 3 rfl) ?_
  refine lv_iconst (v := 2) hx hb d_law_857 (by decide) ?_
  refine lv_iadd hx hb d_law_858 ?_
  refine va_sld hx hb hX hbl hbA hw.2.2.2.1 hin2 d_law_859 ?_
  refine lv_aload_n hx hb d_law_860 rfl (lv_at hl 0 rfl) ?_
  refine lv_iload_n hx hb d_law_861 rfl (lv_at hl 3 rfl) ?_
  refine lv_iconst (v := 3) hx hb d_law_862 (by decide) ?_
  refine lv_iadd hx hb d_law_863 ?_
  refine va_sld hx hb hX hbl hbA hw.2.2.2.1 hin3 d_law_864 ?_
  refine gcL_i (rest := [.int r_1]) (As := [.int (xs (Int32.toNatClampNeg (x3 + 1))), .int (xs (Int32.toNatClampNeg (x3 + 2))), .int (xs (Int32.toNatClampNeg (x3 + 3)))]) (o := 237) ⟨hx, hb, hml, hown, hts⟩ hw (c_X11_change l G (xs (Int32.toNatClampNeg (x3 + 1))) (xs (Int32.toNatClampNeg (x3 + 2))) (xs (Int32.toNatClampNeg (x3 + 3))) σ_2 _ hD) (by decide) (ce_11 G _ (by decide +kernel)) rfl tb_1352 tb_1353 tb_1354 tb_12 tb_1355 hd_X11_change ⟨rfl, rfl⟩ ⟨Nat.le_of_ble_eq_true rfl, Nat.le_of_ble_eq_true rfl⟩ rfl hl.1 rfl (Nat.le_of_ble_eq_true rfl) hcs d_law_865 (fun r_3 σ_4 H locs hD hw => ?_)
  refine lv_icmp_eq (tgt := 1147) hx hb d_law_868 (by decide) (fun q9 => ?_) (fun q9 => absurd hD.1 q9)
  exact hnext σ_4 _ _ _ hD.2 hw hl
set_option maxRecDepth 20000 in
set_option maxHeartbeats 4000000 in
theorem law_mirror {p : Program} {l : Launch} {e : Env} {s : State} {m : MethodId} {below : List Frame} {meth : Method} {c : Code} {G : GC} {b L : Nat} {xs : Nat → Int32} {cells slots : Nat} (Inv : GSt → Prop) (hcs : cells ≤ room_1.cells ∧ slots ≤ room_1.slots) (hx : p.tables.exec = Jvm.exec) (hb : c.code = code) (hml : c.maxLocals = 4) (hown : s.vm.findClass "GameLoomLaw" = some m.cls) (hts : ∀ w ∈ lw_us, w.before #[Value.ref b] s = true) (hX : va_X b L xs s s.heap) (hbl : b < s.heap.size) (hbA : ¬ Aw G b) (x3 : Int32) (hin1 : vp_in (x3 + 1) L) (hin2 : vp_in (x3 + 2) L) (hin3 : vp_in (x3 + 3) L) (hin4 : vp_in (x3 + 4) L) (hin5 : vp_in (x3 + 5) L) (hop_mirror : Op_mirror Inv) (σ : GSt) (hI : Inv σ) {H : Heap} {locs : List Loc} {ls : Array Slot} (hnext : ∀ (σ : GSt) (H : Heap) (locs : List Loc) (ls : Array Slot), Inv σ → Wo G s H locs σ → lv_has ls 4 [(0, .ref b), (1, .ref (G.2.1 0)), (2, .ref (G.2.1 237)), (3, .int x3)] → W p l e room_1 s m #[Value.ref b] below meth c H locs cells slots (lw_Z below #[Value.ref b] s) (F0 m 1147 ls [])) (hw : Wo G s H locs σ) (hl : lv_has ls 4 [(0, .ref b), (1, .ref (G.2.1 0)), (2, .ref (G.2.1 237)), (3, .int x3)]) : W p l e room_1 s m #[Value.ref b] below meth c H locs cells slots (lw_Z below #[Value.ref b] s) (F0 m 873 ls []) := by
  refine lv_aload_n hx hb d_law_873 rfl (lv_at hl 1 rfl) ?_
  refine lv_aload_n hx hb d_law_874 rfl (lv_at hl 0 rfl) ?_
  refine lv_iload_n hx hb d_law_875 rfl (lv_at hl 3 rfl) ?_
  refine lv_iconst (v := 1) hx hb d_law_876 (by decide) ?_
  refine lv_iadd hx hb d_law_877 ?_
  refine va_sld hx hb hX hbl hbA hw.2.2.2.1 hin1 d_law_878 ?_
  have hD := hop_mirror (xs (Int32.toNatClampNeg (x3 + 1))) σ hI
  refine gcL_i (rest := []) (As := [.int (xs (Int32.toNatClampNeg (x3 + 1)))]) (o := 0) ⟨hx, hb, hml, hown, hts⟩ hw (c_X10_mirror l G (xs (Int32.toNatClampNeg (x3 + 1))) σ _ hD) (by decide) (ce_10 G _ (by decide +kernel)) rfl tb_820 tb_821 tb_822 tb_1 tb_823 hd_X10_mirror ⟨rfl, rfl⟩ ⟨Nat.le_of_ble_eq_true rfl, Nat.le_of_ble_eq_true rfl⟩ rfl hl.1 rfl (Nat.le_of_ble_eq_true rfl) hcs d_law_879 (fun r_1 σ_2 H locs hD hw => ?_)
  refine lv_aload_n hx hb d_law_882 rfl (lv_at hl 2 rfl) ?_
  refine lv_aload_n hx hb d_law_883 rfl (lv_at hl 0 rfl) ?_
  refine lv_iload_n hx hb d_law_884 rfl (lv_at hl 3 rfl) ?_
  refine lv_iconst (v := 1) hx hb d_law_885 (by decide) ?_
  refine lv_iadd hx hb d_law_886 ?_
  refine va_sld hx hb hX hbl hbA hw.2.2.2.1 hin1 d_law_887 ?_
  refine gcL_i (rest := [.int r_1]) (As := [.int (xs (Int32.toNatClampNeg (x3 + 1)))]) (o := 237) ⟨hx, hb, hml, hown, hts⟩ hw (c_X11_mirror l G (xs (Int32.toNatClampNeg (x3 + 1))) σ_2 _ hD) (by decide) (ce_11 G _ (by decide +kernel)) rfl tb_1359 tb_1360 tb_1361 tb_12 tb_1362 hd_X11_mirror ⟨rfl, rfl⟩ ⟨Nat.le_of_ble_eq_true rfl, Nat.le_of_ble_eq_true rfl⟩ rfl hl.1 rfl (Nat.le_of_ble_eq_true rfl) hcs d_law_888 (fun r_3 σ_4 H locs hD hw => ?_)
  refine lv_icmp_eq (tgt := 1147) hx hb d_law_891 (by decide) (fun q9 => ?_) (fun q9 => absurd hD.1 q9)
  exact hnext σ_4 _ _ _ hD.2 hw hl
set_option maxRecDepth 20000 in
set_option maxHeartbeats 4000000 in
theorem law_kin {p : Program} {l : Launch} {e : Env} {s : State} {m : MethodId} {below : List Frame} {meth : Method} {c : Code} {G : GC} {b L : Nat} {xs : Nat → Int32} {cells slots : Nat} (Inv : GSt → Prop) (hcs : cells ≤ room_1.cells ∧ slots ≤ room_1.slots) (hx : p.tables.exec = Jvm.exec) (hb : c.code = code) (hml : c.maxLocals = 4) (hown : s.vm.findClass "GameLoomLaw" = some m.cls) (hts : ∀ w ∈ lw_us, w.before #[Value.ref b] s = true) (hX : va_X b L xs s s.heap) (hbl : b < s.heap.size) (hbA : ¬ Aw G b) (x3 : Int32) (hin1 : vp_in (x3 + 1) L) (hin2 : vp_in (x3 + 2) L) (hin3 : vp_in (x3 + 3) L) (hin4 : vp_in (x3 + 4) L) (hin5 : vp_in (x3 + 5) L) (hop_kin : Op_kin Inv) (σ : GSt) (hI : Inv σ) {H : Heap} {locs : List Loc} {ls : Array Slot} (hnext : ∀ (σ : GSt) (H : Heap) (locs : List Loc) (ls : Array Slot), Inv σ → Wo G s H locs σ → lv_has ls 4 [(0, .ref b), (1, .ref (G.2.1 0)), (2, .ref (G.2.1 237)), (3, .int x3)] → W p l e room_1 s m #[Value.ref b] below meth c H locs cells slots (lw_Z below #[Value.ref b] s) (F0 m 1147 ls [])) (hw : Wo G s H locs σ) (hl : lv_has ls 4 [(0, .ref b), (1, .ref (G.2.1 0)), (2, .ref (G.2.1 237)), (3, .int x3)]) : W p l e room_1 s m #[Value.ref b] below meth c H locs cells slots (lw_Z below #[Value.ref b] s) (F0 m 896 ls []) := by
  refine lv_aload_n hx hb d_law_896 rfl (lv_at hl 1 rfl) ?_
  refine lv_aload_n hx hb d_law_897 rfl (lv_at hl 0 rfl) ?_
  refine lv_iload_n hx hb d_law_898 rfl (lv_at hl 3 rfl) ?_
  refine lv_iconst (v := 1) hx hb d_law_899 (by decide) ?_
  refine lv_iadd hx hb d_law_900 ?_
  refine va_sld hx hb hX hbl hbA hw.2.2.2.1 hin1 d_law_901 ?_
  refine lv_aload_n hx hb d_law_902 rfl (lv_at hl 0 rfl) ?_
  refine lv_iload_n hx hb d_law_903 rfl (lv_at hl 3 rfl) ?_
  refine lv_iconst (v := 2) hx hb d_law_904 (by decide) ?_
  refine lv_iadd hx hb d_law_905 ?_
  refine va_sld hx hb hX hbl hbA hw.2.2.2.1 hin2 d_law_906 ?_
  refine lv_aload_n hx hb d_law_907 rfl (lv_at hl 0 rfl) ?_
  refine lv_iload_n hx hb d_law_908 rfl (lv_at hl 3 rfl) ?_
  refine lv_iconst (v := 3) hx hb d_law_909 (by decide) ?_
  refine lv_iadd hx hb d_law_910 ?_
  refine va_sld hx hb hX hbl hbA hw.2.2.2.1 hin3 d_law_911 ?_
  have hD := hop_kin (xs (Int32.toNatClampNeg (x3 + 1))) (xs (Int32.toNatClampNeg (x3 + 2))) (xs (Int32.toNatClampNeg (x3 + 3))) σ hI
  refine gcL_i (rest := []) (As := [.int (xs (Int32.toNatClampNeg (x3 + 1))), .int (xs (Int32.toNatClampNeg (x3 + 2))), .int (xs (Int32.toNatClampNeg (x3 + 3)))]) (o := 0) ⟨hx, hb, hml, hown, hts⟩ hw (c_X10_kin l G (xs (Int32.toNatClampNeg (x3 + 1))) (xs (Int32.toNatClampNeg (x3 + 2))) (xs (Int32.toNatClampNeg (x3 + 3))) σ _ hD) (by decide) (ce_10 G _ (by decide +kernel)) rfl tb_828 tb_829 tb_830 tb_1 tb_831 hd_X10_kin ⟨rfl, rfl⟩ ⟨Nat.le_of_ble_eq_true rfl, Nat.le_of_ble_eq_true rfl⟩ rfl hl.1 rfl (Nat.le_of_ble_eq_true rfl) hcs d_law_912 (fun r_1 σ_2 H locs hD hw => ?_)
  refine lv_aload_n hx hb d_law_915 rfl (lv_at hl 2 rfl) ?_
  refine lv_aload_n hx hb d_law_916 rfl (lv_at hl 0 rfl) ?_
  refine lv_iload_n hx hb d_law_917 rfl (lv_at hl 3 rfl) ?_
  refine lv_iconst (v := 1) hx hb d_law_918 (by decide) ?_
  refine lv_iadd hx hb d_law_919 ?_
  refine va_sld hx hb hX hbl hbA hw.2.2.2.1 hin1 d_law_920 ?_
  refine lv_aload_n hx hb d_law_921 rfl (lv_at hl 0 rfl) ?_
  refine lv_iload_n hx hb d_law_922 rfl (lv_at hl 3 rfl) ?_
  refine lv_iconst (v := 2) hx hb d_law_923 (by decide) ?_
  refine lv_iadd hx hb d_law_924 ?_
  refine va_sld hx hb hX hbl hbA hw.2.2.2.1 hin2 d_law_925 ?_
  refine lv_aload_n hx hb d_law_926 rfl (lv_at hl 0 rfl) ?_
  refine lv_iload_n hx hb d_law_927 rfl (lv_at hl 3 rfl) ?_
  refine lv_iconst (v := 3) hx hb d_law_928 (by decide) ?_
  refine lv_iadd hx hb d_law_929 ?_
  refine va_sld hx hb hX hbl hbA hw.2.2.2.1 hin3 d_law_930 ?_
  refine gcL_i (rest := [.int r_1]) (As := [.int (xs (Int32.toNatClampNeg (x3 + 1))), .int (xs (Int32.toNatClampNeg (x3 + 2))), .int (xs (Int32.toNatClampNeg (x3 + 3)))]) (o := 237) ⟨hx, hb, hml, hown, hts⟩ hw (c_X11_kin l G (xs (Int32.toNatClampNeg (x3 + 1))) (xs (Int32.toNatClampNeg (x3 + 2))) (xs (Int32.toNatClampNeg (x3 + 3))) σ_2 _ hD) (by decide) (ce_11 G _ (by decide +kernel)) rfl tb_1363 tb_1364 tb_1365 tb_12 tb_1366 hd_X11_kin ⟨rfl, rfl⟩ ⟨Nat.le_of_ble_eq_true rfl, Nat.le_of_ble_eq_true rfl⟩ rfl hl.1 rfl (Nat.le_of_ble_eq_true rfl) hcs d_law_931 (fun r_3 σ_4 H locs hD hw => ?_)
  refine lv_icmp_eq (tgt := 1147) hx hb d_law_934 (by decide) (fun q9 => ?_) (fun q9 => absurd hD.1 q9)
  exact hnext σ_4 _ _ _ hD.2 hw hl
set_option maxRecDepth 20000 in
set_option maxHeartbeats 4000000 in
theorem law_puzzle {p : Program} {l : Launch} {e : Env} {s : State} {m : MethodId} {below : List Frame} {meth : Method} {c : Code} {G : GC} {b L : Nat} {xs : Nat → Int32} {cells slots : Nat} (Inv : GSt → Prop) (hcs : cells ≤ room_1.cells ∧ slots ≤ room_1.slots) (hx : p.tables.exec = Jvm.exec) (hb : c.code = code) (hml : c.maxLocals = 4) (hown : s.vm.findClass "GameLoomLaw" = some m.cls) (hts : ∀ w ∈ lw_us, w.before #[Value.ref b] s = true) (hX : va_X b L xs s s.heap) (hbl : b < s.heap.size) (hbA : ¬ Aw G b) (x3 : Int32) (hin1 : vp_in (x3 + 1) L) (hin2 : vp_in (x3 + 2) L) (hin3 : vp_in (x3 + 3) L) (hin4 : vp_in (x3 + 4) L) (hin5 : vp_in (x3 + 5) L) (hop_puzzle : Op_puzzle Inv) (σ : GSt) (hI : Inv σ) {H : Heap} {locs : List Loc} {ls : Array Slot} (hnext : ∀ (σ : GSt) (H : Heap) (locs : List Loc) (ls : Array Slot), Inv σ → Wo G s H locs σ → lv_has ls 4 [(0, .ref b), (1, .ref (G.2.1 0)), (2, .ref (G.2.1 237)), (3, .int x3)] → W p l e room_1 s m #[Value.ref b] below meth c H locs cells slots (lw_Z below #[Value.ref b] s) (F0 m 1147 ls [])) (hw : Wo G s H locs σ) (hl : lv_has ls 4 [(0, .ref b), (1, .ref (G.2.1 0)), (2, .ref (G.2.1 237)), (3, .int x3)]) : W p l e room_1 s m #[Value.ref b] below meth c H locs cells slots (lw_Z below #[Value.ref b] s) (F0 m 939 ls []) := by
  refine lv_aload_n hx hb d_law_939 rfl (lv_at hl 1 rfl) ?_
  refine lv_aload_n hx hb d_law_940 rfl (lv_at hl 0 rfl) ?_
  refine lv_iload_n hx hb d_law_941 rfl (lv_at hl 3 rfl) ?_
  refine lv_iconst (v := 1) hx hb d_law_942 (by decide) ?_
  refine lv_iadd hx hb d_law_943 ?_
  refine va_sld hx hb hX hbl hbA hw.2.2.2.1 hin1 d_law_944 ?_
  refine lv_aload_n hx hb d_law_945 rfl (lv_at hl 0 rfl) ?_
  refine lv_iload_n hx hb d_law_946 rfl (lv_at hl 3 rfl) ?_
  refine lv_iconst (v := 2) hx hb d_law_947 (by decide) ?_
  refine lv_iadd hx hb d_law_948 ?_
  refine va_sld hx hb hX hbl hbA hw.2.2.2.1 hin2 d_law_949 ?_
  refine lv_aload_n hx hb d_law_950 rfl (lv_at hl 0 rfl) ?_
  refine lv_iload_n hx hb d_law_951 rfl (lv_at hl 3 rfl) ?_
  refine lv_iconst (v := 3) hx hb d_law_952 (by decide) ?_
  refine lv_iadd hx hb d_law_953 ?_
  refine va_sld hx hb hX hbl hbA hw.2.2.2.1 hin3 d_law_954 ?_
  have hD := hop_puzzle (xs (Int32.toNatClampNeg (x3 + 1))) (xs (Int32.toNatClampNeg (x3 + 2))) (xs (Int32.toNatClampNeg (x3 + 3))) σ hI
  refine gcL_i (rest := []) (As := [.int (xs (Int32.toNatClampNeg (x3 + 1))), .int (xs (Int32.toNatClampNeg (x3 + 2))), .int (xs (Int32.toNatClampNeg (x3 + 3)))]) (o := 0) ⟨hx, hb, hml, hown, hts⟩ hw (c_X10_puzzle l G (xs (Int32.toNatClampNeg (x3 + 1))) (xs (Int32.toNatClampNeg (x3 + 2))) (xs (Int32.toNatClampNeg (x3 + 3))) σ _ hD) (by decide) (ce_10 G _ (by decide +kernel)) rfl tb_841 tb_842 tb_843 tb_1 tb_844 hd_X10_puzzle ⟨rfl, rfl⟩ ⟨Nat.le_of_ble_eq_true rfl, Nat.le_of_ble_eq_true rfl⟩ rfl hl.1 rfl (Nat.le_of_ble_eq_true rfl) hcs d_law_955 (fun r_1 σ_2 H locs hD hw => ?_)
  refine lv_aload_n hx hb d_law_958 rfl (lv_at hl 2 rfl) ?_
  refine lv_aload_n hx hb d_law_959 rfl (lv_at hl 0 rfl) ?_
  refine lv_iload_n hx hb d_law_960 rfl (lv_at hl 3 rfl) ?_
  refine lv_iconst (v := 1) hx hb d_law_961 (by decide) ?_
  refine lv_iadd hx hb d_law_962 ?_
  refine va_sld hx hb hX hbl hbA hw.2.2.2.1 hin1 d_law_963 ?_
  refine lv_aload_n hx hb d_law_964 rfl (lv_at hl 0 rfl) ?_
  refine lv_iload_n hx hb d_law_965 rfl (lv_at hl 3 rfl) ?_
  refine lv_iconst (v := 2) hx hb d_law_966 (by decide) ?_
  refine lv_iadd hx hb d_law_967 ?_
  refine va_sld hx hb hX hbl hbA hw.2.2.2.1 hin2 d_law_968 ?_
  refine lv_aload_n hx hb d_law_969 rfl (lv_at hl 0 rfl) ?_
  refine lv_iload_n hx hb d_law_970 rfl (lv_at hl 3 rfl) ?_
  refine lv_iconst (v := 3) hx hb d_law_971 (by decide) ?_
  refine lv_iadd hx hb d_law_972 ?_
  refine va_sld hx hb hX hbl hbA hw.2.2.2.1 hin3 d_law_973 ?_
  refine gcL_i (rest := [.int r_1]) (As := [.int (xs (Int32.toNatClampNeg (x3 + 1))), .int (xs (Int32.toNatClampNeg (x3 + 2))), .int (xs (Int32.toNatClampNeg (x3 + 3)))]) (o := 237) ⟨hx, hb, hml, hown, hts⟩ hw (c_X11_puzzle l G (xs (Int32.toNatClampNeg (x3 + 1))) (xs (Int32.toNatClampNeg (x3 + 2))) (xs (Int32.toNatClampNeg (x3 + 3))) σ_2 _ hD) (by decide) (ce_11 G _ (by decide +kernel)) rfl tb_1367 tb_1368 tb_1369 tb_12 tb_1370 hd_X11_puzzle ⟨rfl, rfl⟩ ⟨Nat.le_of_ble_eq_true rfl, Nat.le_of_ble_eq_true rfl⟩ rfl hl.1 rfl (Nat.le_of_ble_eq_true rfl) hcs d_law_974 (fun r_3 σ_4 H locs hD hw => ?_)
  refine lv_icmp_eq (tgt := 1147) hx hb d_law_977 (by decide) (fun q9 => ?_) (fun q9 => absurd hD.1 q9)
  exact hnext σ_4 _ _ _ hD.2 hw hl
set_option maxRecDepth 20000 in
set_option maxHeartbeats 4000000 in
theorem law_blunder {p : Program} {l : Launch} {e : Env} {s : State} {m : MethodId} {below : List Frame} {meth : Method} {c : Code} {G : GC} {b L : Nat} {xs : Nat → Int32} {cells slots : Nat} (Inv : GSt → Prop) (hcs : cells ≤ room_1.cells ∧ slots ≤ room_1.slots) (hx : p.tables.exec = Jvm.exec) (hb : c.code = code) (hml : c.maxLocals = 4) (hown : s.vm.findClass "GameLoomLaw" = some m.cls) (hts : ∀ w ∈ lw_us, w.before #[Value.ref b] s = true) (hX : va_X b L xs s s.heap) (hbl : b < s.heap.size) (hbA : ¬ Aw G b) (x3 : Int32) (hin1 : vp_in (x3 + 1) L) (hin2 : vp_in (x3 + 2) L) (hin3 : vp_in (x3 + 3) L) (hin4 : vp_in (x3 + 4) L) (hin5 : vp_in (x3 + 5) L) (hop_blunder : Op_blunder Inv) (σ : GSt) (hI : Inv σ) {H : Heap} {locs : List Loc} {ls : Array Slot} (hnext : ∀ (σ : GSt) (H : Heap) (locs : List Loc) (ls : Array Slot), Inv σ → Wo G s H locs σ → lv_has ls 4 [(0, .ref b), (1, .ref (G.2.1 0)), (2, .ref (G.2.1 237)), (3, .int x3)] → W p l e room_1 s m #[Value.ref b] below meth c H locs cells slots (lw_Z below #[Value.ref b] s) (F0 m 1147 ls [])) (hw : Wo G s H locs σ) (hl : lv_has ls 4 [(0, .ref b), (1, .ref (G.2.1 0)), (2, .ref (G.2.1 237)), (3, .int x3)]) : W p l e room_1 s m #[Value.ref b] below meth c H locs cells slots (lw_Z below #[Value.ref b] s) (F0 m 982 ls []) := by
  refine lv_aload_n hx hb d_law_982 rfl (lv_at hl 1 rfl) ?_
  refine lv_aload_n hx hb d_law_983 rfl (lv_at hl 0 rfl) ?_
  refine lv_iload_n hx hb d_law_984 rfl (lv_at hl 3 rfl) ?_
  refine lv_iconst (v := 1) hx hb d_law_985 (by decide) ?_
  refine lv_iadd hx hb d_law_986 ?_
  refine va_sld hx hb hX hbl hbA hw.2.2.2.1 hin1 d_law_987 ?_
  refine lv_aload_n hx hb d_law_988 rfl (lv_at hl 0 rfl) ?_
  refine lv_iload_n hx hb d_law_989 rfl (lv_at hl 3 rfl) ?_
  refine lv_iconst (v := 2) hx hb d_law_990 (by decide) ?_
  refine lv_iadd hx hb d_law_991 ?_
  refine va_sld hx hb hX hbl hbA hw.2.2.2.1 hin2 d_law_992 ?_
  refine lv_aload_n hx hb d_law_993 rfl (lv_at hl 0 rfl) ?_
  refine lv_iload_n hx hb d_law_994 rfl (lv_at hl 3 rfl) ?_
  refine lv_iconst (v := 3) hx hb d_law_995 (by decide) ?_
  refine lv_iadd hx hb d_law_996 ?_
  refine va_sld hx hb hX hbl hbA hw.2.2.2.1 hin3 d_law_997 ?_
  have hD := hop_blunder (xs (Int32.toNatClampNeg (x3 + 1))) (xs (Int32.toNatClampNeg (x3 + 2))) (xs (Int32.toNatClampNeg (x3 + 3))) σ hI
  refine gcL_i (rest := []) (As := [.int (xs (Int32.toNatClampNeg (x3 + 1))), .int (xs (Int32.toNatClampNeg (x3 + 2))), .int (xs (Int32.toNatClampNeg (x3 + 3)))]) (o := 0) ⟨hx, hb, hml, hown, hts⟩ hw (c_X10_blunder l G (xs (Int32.toNatClampNeg (x3 + 1))) (xs (Int32.toNatClampNeg (x3 + 2))) (xs (Int32.toNatClampNeg (x3 + 3))) σ _ hD) (by decide) (ce_10 G _ (by decide +kernel)) rfl tb_863 tb_864 tb_865 tb_1 tb_866 hd_X10_blunder ⟨rfl, rfl⟩ ⟨Nat.le_of_ble_eq_true rfl, Nat.le_of_ble_eq_true rfl⟩ rfl hl.1 rfl (Nat.le_of_ble_eq_true rfl) hcs d_law_998 (fun r_1 σ_2 H locs hD hw => ?_)
  refine lv_aload_n hx hb d_law_1001 rfl (lv_at hl 2 rfl) ?_
  refine lv_aload_n hx hb d_law_1002 rfl (lv_at hl 0 rfl) ?_
  refine lv_iload_n hx hb d_law_1003 rfl (lv_at hl 3 rfl) ?_
  refine lv_iconst (v := 1) hx hb d_law_1004 (by decide) ?_
  refine lv_iadd hx hb d_law_1005 ?_
  refine va_sld hx hb hX hbl hbA hw.2.2.2.1 hin1 d_law_1006 ?_
  refine lv_aload_n hx hb d_law_1007 rfl (lv_at hl 0 rfl) ?_
  refine lv_iload_n hx hb d_law_1008 rfl (lv_at hl 3 rfl) ?_
  refine lv_iconst (v := 2) hx hb d_law_1009 (by decide) ?_
  refine lv_iadd hx hb d_law_1010 ?_
  refine va_sld hx hb hX hbl hbA hw.2.2.2.1 hin2 d_law_1011 ?_
  refine lv_aload_n hx hb d_law_1012 rfl (lv_at hl 0 rfl) ?_
  refine lv_iload_n hx hb d_law_1013 rfl (lv_at hl 3 rfl) ?_
  refine lv_iconst (v := 3) hx hb d_law_1014 (by decide) ?_
  refine lv_iadd hx hb d_law_1015 ?_
  refine va_sld hx hb hX hbl hbA hw.2.2.2.1 hin3 d_law_1016 ?_
  refine gcL_i (rest := [.int r_1]) (As := [.int (xs (Int32.toNatClampNeg (x3 + 1))), .int (xs (Int32.toNatClampNeg (x3 + 2))), .int (xs (Int32.toNatClampNeg (x3 + 3)))]) (o := 237) ⟨hx, hb, hml, hown, hts⟩ hw (c_X11_blunder l G (xs (Int32.toNatClampNeg (x3 + 1))) (xs (Int32.toNatClampNeg (x3 + 2))) (xs (Int32.toNatClampNeg (x3 + 3))) σ_2 _ hD) (by decide) (ce_11 G _ (by decide +kernel)) rfl tb_1380 tb_1381 tb_1382 tb_12 tb_1383 hd_X11_blunder ⟨rfl, rfl⟩ ⟨Nat.le_of_ble_eq_true rfl, Nat.le_of_ble_eq_true rfl⟩ rfl hl.1 rfl (Nat.le_of_ble_eq_true rfl) hcs d_law_1017 (fun r_3 σ_4 H locs hD hw => ?_)
  refine lv_icmp_eq (tgt := 1147) hx hb d_law_1020 (by decide) (fun q9 => ?_) (fun q9 => absurd hD.1 q9)
  exact hnext σ_4 _ _ _ hD.2 hw hl
set_option maxRecDepth 20000 in
set_option maxHeartbeats 4000000 in
theorem law_pie {p : Program} {l : Launch} {e : Env} {s : State} {m : MethodId} {below : List Frame} {meth : Method} {c : Code} {G : GC} {b L : Nat} {xs : Nat → Int32} {cells slots : Nat} (Inv : GSt → Prop) (hcs : cells ≤ room_1.cells ∧ slots ≤ room_1.slots) (hx : p.tables.exec = Jvm.exec) (hb : c.code = code) (hml : c.maxLocals = 4) (hown : s.vm.findClass "GameLoomLaw" = some m.cls) (hts : ∀ w ∈ lw_us, w.before #[Value.ref b] s = true) (hX : va_X b L xs s s.heap) (hbl : b < s.heap.size) (hbA : ¬ Aw G b) (x3 : Int32) (hin1 : vp_in (x3 + 1) L) (hin2 : vp_in (x3 + 2) L) (hin3 : vp_in (x3 + 3) L) (hin4 : vp_in (x3 + 4) L) (hin5 : vp_in (x3 + 5) L) (hop_pie : Op_pie Inv) (σ : GSt) (hI : Inv σ) {H : Heap} {locs : List Loc} {ls : Array Slot} (hnext : ∀ (σ : GSt) (H : Heap) (locs : List Loc) (ls : Array Slot), Inv σ → Wo G s H locs σ → lv_has ls 4 [(0, .ref b), (1, .ref (G.2.1 0)), (2, .ref (G.2.1 237)), (3, .int x3)] → W p l e room_1 s m #[Value.ref b] below meth c H locs cells slots (lw_Z below #[Value.ref b] s) (F0 m 1147 ls [])) (hw : Wo G s H locs σ) (hl : lv_has ls 4 [(0, .ref b), (1, .ref (G.2.1 0)), (2, .ref (G.2.1 237)), (3, .int x3)]) : W p l e room_1 s m #[Value.ref b] below meth c H locs cells slots (lw_Z below #[Value.ref b] s) (F0 m 1025 ls []) := by
  refine lv_aload_n hx hb d_law_1025 rfl (lv_at hl 1 rfl) ?_
  refine lv_aload_n hx hb d_law_1026 rfl (lv_at hl 0 rfl) ?_
  refine lv_iload_n hx hb d_law_1027 rfl (lv_at hl 3 rfl) ?_
  refine lv_iconst (v := 1) hx hb d_law_1028 (by decide) ?_
  refine lv_iadd hx hb d_law_1029 ?_
  refine va_sld hx hb hX hbl hbA hw.2.2.2.1 hin1 d_law_1030 ?_
  refine lv_aload_n hx hb d_law_1031 rfl (lv_at hl 0 rfl) ?_
  refine lv_iload_n hx hb d_law_1032 rfl (lv_at hl 3 rfl) ?_
  refine lv_iconst (v := 2) hx hb d_law_1033 (by decide) ?_
  refine lv_iadd hx hb d_law_1034 ?_
  refine va_sld hx hb hX hbl hbA hw.2.2.2.1 hin2 d_law_1035 ?_
  refine lv_aload_n hx hb d_law_1036 rfl (lv_at hl 0 rfl) ?_
  refine lv_iload_n hx hb d_law_1037 rfl (lv_at hl 3 rfl) ?_
  refine lv_iconst (v := 3) hx hb d_law_1038 (by decide) ?_
  refine lv_iadd hx hb d_law_1039 ?_
  refine va_sld hx hb hX hbl hbA hw.2.2.2.1 hin3 d_law_1040 ?_
  have hD := hop_pie (xs (Int32.toNatClampNeg (x3 + 1))) (xs (Int32.toNatClampNeg (x3 + 2))) (xs (Int32.toNatClampNeg (x3 + 3))) σ hI
  refine gcL_i (rest := []) (As := [.int (xs (Int32.toNatClampNeg (x3 + 1))), .int (xs (Int32.toNatClampNeg (x3 + 2))), .int (xs (Int32.toNatClampNeg (x3 + 3)))]) (o := 0) ⟨hx, hb, hml, hown, hts⟩ hw (c_X10_pie l G (xs (Int32.toNatClampNeg (x3 + 1))) (xs (Int32.toNatClampNeg (x3 + 2))) (xs (Int32.toNatClampNeg (x3 + 3))) σ _ hD) (by decide) (ce_10 G _ (by decide +kernel)) rfl tb_871 tb_872 tb_873 tb_1 tb_874 hd_X10_pie ⟨rfl, rfl⟩ ⟨Nat.le_of_ble_eq_true rfl, Nat.le_of_ble_eq_true rfl⟩ rfl hl.1 rfl (Nat.le_of_ble_eq_true rfl) hcs d_law_1041 (fun r_1 σ_2 H locs hD hw => ?_)
  refine lv_aload_n hx hb d_law_1044 rfl (lv_at hl 2 rfl) ?_
  refine lv_aload_n hx hb d_law_1045 rfl (lv_at hl 0 rfl) ?_
  refine lv_iload_n hx hb d_law_1046 rfl (lv_at hl 3 rfl) ?_
  refine lv_iconst (v := 1) hx hb d_law_1047 (by decide) ?_
  refine lv_iadd hx hb d_law_1048 ?_
  refine va_sld hx hb hX hbl hbA hw.2.2.2.1 hin1 d_law_1049 ?_
  refine lv_aload_n hx hb d_law_1050 rfl (lv_at hl 0 rfl) ?_
  refine lv_iload_n hx hb d_law_1051 rfl (lv_at hl 3 rfl) ?_
  refine lv_iconst (v := 2) hx hb d_law_1052 (by decide) ?_
  refine lv_iadd hx hb d_law_1053 ?_
  refine va_sld hx hb hX hbl hbA hw.2.2.2.1 hin2 d_law_1054 ?_
  refine lv_aload_n hx hb d_law_1055 rfl (lv_at hl 0 rfl) ?_
  refine lv_iload_n hx hb d_law_1056 rfl (lv_at hl 3 rfl) ?_
  refine lv_iconst (v := 3) hx hb d_law_1057 (by decide) ?_
  refine lv_iadd hx hb d_law_1058 ?_
  refine va_sld hx hb hX hbl hbA hw.2.2.2.1 hin3 d_law_1059 ?_
  refine gcL_i (rest := [.int r_1]) (As := [.int (xs (Int32.toNatClampNeg (x3 + 1))), .int (xs (Int32.toNatClampNeg (x3 + 2))), .int (xs (Int32.toNatClampNeg (x3 + 3)))]) (o := 237) ⟨hx, hb, hml, hown, hts⟩ hw (c_X11_pie l G (xs (Int32.toNatClampNeg (x3 + 1))) (xs (Int32.toNatClampNeg (x3 + 2))) (xs (Int32.toNatClampNeg (x3 + 3))) σ_2 _ hD) (by decide) (ce_11 G _ (by decide +kernel)) rfl tb_1384 tb_1385 tb_1386 tb_12 tb_1387 hd_X11_pie ⟨rfl, rfl⟩ ⟨Nat.le_of_ble_eq_true rfl, Nat.le_of_ble_eq_true rfl⟩ rfl hl.1 rfl (Nat.le_of_ble_eq_true rfl) hcs d_law_1060 (fun r_3 σ_4 H locs hD hw => ?_)
  refine lv_icmp_eq (tgt := 1147) hx hb d_law_1063 (by decide) (fun q9 => ?_) (fun q9 => absurd hD.1 q9)
  exact hnext σ_4 _ _ _ hD.2 hw hl
set_option maxRecDepth 20000 in
set_option maxHeartbeats 4000000 in
theorem law_keep {p : Program} {l : Launch} {e : Env} {s : State} {m : MethodId} {below : List Frame} {meth : Method} {c : Code} {G : GC} {b L : Nat} {xs : Nat → Int32} {cells slots : Nat} (Inv : GSt → Prop) (hcs : cells ≤ room_1.cells ∧ slots ≤ room_1.slots) (hx : p.tables.exec = Jvm.exec) (hb : c.code = code) (hml : c.maxLocals = 4) (hown : s.vm.findClass "GameLoomLaw" = some m.cls) (hts : ∀ w ∈ lw_us, w.before #[Value.ref b] s = true) (hX : va_X b L xs s s.heap) (hbl : b < s.heap.size) (hbA : ¬ Aw G b) (x3 : Int32) (hin1 : vp_in (x3 + 1) L) (hin2 : vp_in (x3 + 2) L) (hin3 : vp_in (x3 + 3) L) (hin4 : vp_in (x3 + 4) L) (hin5 : vp_in (x3 + 5) L) (hop_keep : Op_keep Inv) (σ : GSt) (hI : Inv σ) {H : Heap} {locs : List Loc} {ls : Array Slot} (hnext : ∀ (σ : GSt) (H : Heap) (locs : List Loc) (ls : Array Slot), Inv σ → Wo G s H locs σ → lv_has ls 4 [(0, .ref b), (1, .ref (G.2.1 0)), (2, .ref (G.2.1 237)), (3, .int x3)] → W p l e room_1 s m #[Value.ref b] below meth c H locs cells slots (lw_Z below #[Value.ref b] s) (F0 m 1147 ls [])) (hw : Wo G s H locs σ) (hl : lv_has ls 4 [(0, .ref b), (1, .ref (G.2.1 0)), (2, .ref (G.2.1 237)), (3, .int x3)]) : W p l e room_1 s m #[Value.ref b] below meth c H locs cells slots (lw_Z below #[Value.ref b] s) (F0 m 1068 ls []) := by
  refine lv_aload_n hx hb d_law_1068 rfl (lv_at hl 1 rfl) ?_
  refine lv_aload_n hx hb d_law_1069 rfl (lv_at hl 0 rfl) ?_
  refine lv_iload_n hx hb d_law_1070 rfl (lv_at hl 3 rfl) ?_
  refine lv_iconst (v := 1) hx hb d_law_1071 (by decide) ?_
  refine lv_iadd hx hb d_law_1072 ?_
  refine va_sld hx hb hX hbl hbA hw.2.2.2.1 hin1 d_law_1073 ?_
  refine lv_aload_n hx hb d_law_1074 rfl (lv_at hl 0 rfl) ?_
  refine lv_iload_n hx hb d_law_1075 rfl (lv_at hl 3 rfl) ?_
  refine lv_iconst (v := 2) hx hb d_law_1076 (by decide) ?_
  refine lv_iadd hx hb d_law_1077 ?_
  refine va_sld hx hb hX hbl hbA hw.2.2.2.1 hin2 d_law_1078 ?_
  have hD := hop_keep (xs (Int32.toNatClampNeg (x3 + 1))) (xs (Int32.toNatClampNeg (x3 + 2))) σ hI
  refine gcL_i (rest := []) (As := [.int (xs (Int32.toNatClampNeg (x3 + 1))), .int (xs (Int32.toNatClampNeg (x3 + 2)))]) (o := 0) ⟨hx, hb, hml, hown, hts⟩ hw (c_X10_keep l G (xs (Int32.toNatClampNeg (x3 + 1))) (xs (Int32.toNatClampNeg (x3 + 2))) σ _ hD) (by decide) (ce_10 G _ (by decide +kernel)) rfl tb_879 tb_880 tb_881 tb_1 tb_882 hd_X10_keep ⟨rfl, rfl⟩ ⟨Nat.le_of_ble_eq_true rfl, Nat.le_of_ble_eq_true rfl⟩ rfl hl.1 rfl (Nat.le_of_ble_eq_true rfl) hcs d_law_1079 (fun r_1 σ_2 H locs hD hw => ?_)
  refine lv_aload_n hx hb d_law_1082 rfl (lv_at hl 2 rfl) ?_
  refine lv_aload_n hx hb d_law_1083 rfl (lv_at hl 0 rfl) ?_
  refine lv_iload_n hx hb d_law_1084 rfl (lv_at hl 3 rfl) ?_
  refine lv_iconst (v := 1) hx hb d_law_1085 (by decide) ?_
  refine lv_iadd hx hb d_law_1086 ?_
  refine va_sld hx hb hX hbl hbA hw.2.2.2.1 hin1 d_law_1087 ?_
  refine lv_aload_n hx hb d_law_1088 rfl (lv_at hl 0 rfl) ?_
  refine lv_iload_n hx hb d_law_1089 rfl (lv_at hl 3 rfl) ?_
  refine lv_iconst (v := 2) hx hb d_law_1090 (by decide) ?_
  refine lv_iadd hx hb d_law_1091 ?_
  refine va_sld hx hb hX hbl hbA hw.2.2.2.1 hin2 d_law_1092 ?_
  refine gcL_i (rest := [.int r_1]) (As := [.int (xs (Int32.toNatClampNeg (x3 + 1))), .int (xs (Int32.toNatClampNeg (x3 + 2)))]) (o := 237) ⟨hx, hb, hml, hown, hts⟩ hw (c_X11_keep l G (xs (Int32.toNatClampNeg (x3 + 1))) (xs (Int32.toNatClampNeg (x3 + 2))) σ_2 _ hD) (by decide) (ce_11 G _ (by decide +kernel)) rfl tb_1389 tb_1390 tb_1391 tb_12 tb_1392 hd_X11_keep ⟨rfl, rfl⟩ ⟨Nat.le_of_ble_eq_true rfl, Nat.le_of_ble_eq_true rfl⟩ rfl hl.1 rfl (Nat.le_of_ble_eq_true rfl) hcs d_law_1093 (fun r_3 σ_4 H locs hD hw => ?_)
  refine lv_icmp_eq (tgt := 1147) hx hb d_law_1096 (by decide) (fun q9 => ?_) (fun q9 => absurd hD.1 q9)
  exact hnext σ_4 _ _ _ hD.2 hw hl
set_option maxRecDepth 20000 in
set_option maxHeartbeats 4000000 in
theorem law_niche {p : Program} {l : Launch} {e : Env} {s : State} {m : MethodId} {below : List Frame} {meth : Method} {c : Code} {G : GC} {b L : Nat} {xs : Nat → Int32} {cells slots : Nat} (Inv : GSt → Prop) (hcs : cells ≤ room_1.cells ∧ slots ≤ room_1.slots) (hx : p.tables.exec = Jvm.exec) (hb : c.code = code) (hml : c.maxLocals = 4) (hown : s.vm.findClass "GameLoomLaw" = some m.cls) (hts : ∀ w ∈ lw_us, w.before #[Value.ref b] s = true) (hX : va_X b L xs s s.heap) (hbl : b < s.heap.size) (hbA : ¬ Aw G b) (x3 : Int32) (hin1 : vp_in (x3 + 1) L) (hin2 : vp_in (x3 + 2) L) (hin3 : vp_in (x3 + 3) L) (hin4 : vp_in (x3 + 4) L) (hin5 : vp_in (x3 + 5) L) (hop_niche : Op_niche Inv) (σ : GSt) (hI : Inv σ) {H : Heap} {locs : List Loc} {ls : Array Slot} (hnext : ∀ (σ : GSt) (H : Heap) (locs : List Loc) (ls : Array Slot), Inv σ → Wo G s H locs σ → lv_has ls 4 [(0, .ref b), (1, .ref (G.2.1 0)), (2, .ref (G.2.1 237)), (3, .int x3)] → W p l e room_1 s m #[Value.ref b] below meth c H locs cells slots (lw_Z below #[Value.ref b] s) (F0 m 1147 ls [])) (hw : Wo G s H locs σ) (hl : lv_has ls 4 [(0, .ref b), (1, .ref (G.2.1 0)), (2, .ref (G.2.1 237)), (3, .int x3)]) : W p l e room_1 s m #[Value.ref b] below meth c H locs cells slots (lw_Z below #[Value.ref b] s) (F0 m 1101 ls []) := by
  refine lv_aload_n hx hb d_law_1101 rfl (lv_at hl 1 rfl) ?_
  refine lv_aload_n hx hb d_law_1102 rfl (lv_at hl 0 rfl) ?_
  refine lv_iload_n hx hb d_law_1103 rfl (lv_at hl 3 rfl) ?_
  refine lv_iconst (v := 1) hx hb d_law_1104 (by decide) ?_
  refine lv_iadd hx hb d_law_1105 ?_
  refine va_sld hx hb hX hbl hbA hw.2.2.2.1 hin1 d_law_1106 ?_
  have hD := hop_niche (xs (Int32.toNatClampNeg (x3 + 1))) σ hI
  refine gcL_i (rest := []) (As := [.int (xs (Int32.toNatClampNeg (x3 + 1)))]) (o := 0) ⟨hx, hb, hml, hown, hts⟩ hw (c_X10_niche l G (xs (Int32.toNatClampNeg (x3 + 1))) σ _ hD) (by decide) (ce_10 G _ (by decide +kernel)) rfl tb_888 tb_889 tb_890 tb_1 tb_891 hd_X10_niche ⟨rfl, rfl⟩ ⟨Nat.le_of_ble_eq_true rfl, Nat.le_of_ble_eq_true rfl⟩ rfl hl.1 rfl (Nat.le_of_ble_eq_true rfl) hcs d_law_1107 (fun r_1 σ_2 H locs hD hw => ?_)
  refine lv_aload_n hx hb d_law_1110 rfl (lv_at hl 2 rfl) ?_
  refine lv_aload_n hx hb d_law_1111 rfl (lv_at hl 0 rfl) ?_
  refine lv_iload_n hx hb d_law_1112 rfl (lv_at hl 3 rfl) ?_
  refine lv_iconst (v := 1) hx hb d_law_1113 (by decide) ?_
  refine lv_iadd hx hb d_law_1114 ?_
  refine va_sld hx hb hX hbl hbA hw.2.2.2.1 hin1 d_law_1115 ?_
  refine gcL_i (rest := [.int r_1]) (As := [.int (xs (Int32.toNatClampNeg (x3 + 1)))]) (o := 237) ⟨hx, hb, hml, hown, hts⟩ hw (c_X11_niche l G (xs (Int32.toNatClampNeg (x3 + 1))) σ_2 _ hD) (by decide) (ce_11 G _ (by decide +kernel)) rfl tb_1393 tb_1394 tb_1395 tb_12 tb_1396 hd_X11_niche ⟨rfl, rfl⟩ ⟨Nat.le_of_ble_eq_true rfl, Nat.le_of_ble_eq_true rfl⟩ rfl hl.1 rfl (Nat.le_of_ble_eq_true rfl) hcs d_law_1116 (fun r_3 σ_4 H locs hD hw => ?_)
  refine lv_icmp_eq (tgt := 1147) hx hb d_law_1119 (by decide) (fun q9 => ?_) (fun q9 => absurd hD.1 q9)
  exact hnext σ_4 _ _ _ hD.2 hw hl
set_option maxRecDepth 20000 in
set_option maxHeartbeats 4000000 in
theorem law_count {p : Program} {l : Launch} {e : Env} {s : State} {m : MethodId} {below : List Frame} {meth : Method} {c : Code} {G : GC} {b L : Nat} {xs : Nat → Int32} {cells slots : Nat} (Inv : GSt → Prop) (hcs : cells ≤ room_1.cells ∧ slots ≤ room_1.slots) (hx : p.tables.exec = Jvm.exec) (hb : c.code = code) (hml : c.maxLocals = 4) (hown : s.vm.findClass "GameLoomLaw" = some m.cls) (hts : ∀ w ∈ lw_us, w.before #[Value.ref b] s = true) (hX : va_X b L xs s s.heap) (hbl : b < s.heap.size) (hbA : ¬ Aw G b) (x3 : Int32) (hin1 : vp_in (x3 + 1) L) (hin2 : vp_in (x3 + 2) L) (hin3 : vp_in (x3 + 3) L) (hin4 : vp_in (x3 + 4) L) (hin5 : vp_in (x3 + 5) L) (hop_count : Op_count Inv) (σ : GSt) (hI : Inv σ) {H : Heap} {locs : List Loc} {ls : Array Slot} (hnext : ∀ (σ : GSt) (H : Heap) (locs : List Loc) (ls : Array Slot), Inv σ → Wo G s H locs σ → lv_has ls 4 [(0, .ref b), (1, .ref (G.2.1 0)), (2, .ref (G.2.1 237)), (3, .int x3)] → W p l e room_1 s m #[Value.ref b] below meth c H locs cells slots (lw_Z below #[Value.ref b] s) (F0 m 1147 ls [])) (hw : Wo G s H locs σ) (hl : lv_has ls 4 [(0, .ref b), (1, .ref (G.2.1 0)), (2, .ref (G.2.1 237)), (3, .int x3)]) : W p l e room_1 s m #[Value.ref b] below meth c H locs cells slots (lw_Z below #[Value.ref b] s) (F0 m 1124 ls []) := by
  refine lv_aload_n hx hb d_law_1124 rfl (lv_at hl 1 rfl) ?_
  refine lv_aload_n hx hb d_law_1125 rfl (lv_at hl 0 rfl) ?_
  refine lv_iload_n hx hb d_law_1126 rfl (lv_at hl 3 rfl) ?_
  refine lv_iconst (v := 1) hx hb d_law_1127 (by decide) ?_
  refine lv_iadd hx hb d_law_1128 ?_
  refine va_sld hx hb hX hbl hbA hw.2.2.2.1 hin1 d_law_1129 ?_
  have hD := hop_count (xs (Int32.toNatClampNeg (x3 + 1))) σ hI
  refine gcL_i (rest := []) (As := [.int (xs (Int32.toNatClampNeg (x3 + 1)))]) (o := 0) ⟨hx, hb, hml, hown, hts⟩ hw (c_X10_count l G (xs (Int32.toNatClampNeg (x3 + 1))) σ _ hD) (by decide) (ce_10 G _ (by decide +kernel)) rfl tb_892 tb_893 tb_894 tb_1 tb_895 hd_X10_count ⟨rfl, rfl⟩ ⟨Nat.le_of_ble_eq_true rfl, Nat.le_of_ble_eq_true rfl⟩ rfl hl.1 rfl (Nat.le_of_ble_eq_true rfl) hcs d_law_1130 (fun r_1 σ_2 H locs hD hw => ?_)
  refine lv_aload_n hx hb d_law_1133 rfl (lv_at hl 2 rfl) ?_
  refine lv_aload_n hx hb d_law_1134 rfl (lv_at hl 0 rfl) ?_
  refine lv_iload_n hx hb d_law_1135 rfl (lv_at hl 3 rfl) ?_
  refine lv_iconst (v := 1) hx hb d_law_1136 (by decide) ?_
  refine lv_iadd hx hb d_law_1137 ?_
  refine va_sld hx hb hX hbl hbA hw.2.2.2.1 hin1 d_law_1138 ?_
  refine gcL_i (rest := [.int r_1]) (As := [.int (xs (Int32.toNatClampNeg (x3 + 1)))]) (o := 237) ⟨hx, hb, hml, hown, hts⟩ hw (c_X11_count l G (xs (Int32.toNatClampNeg (x3 + 1))) σ_2 _ hD) (by decide) (ce_11 G _ (by decide +kernel)) rfl tb_1398 tb_1399 tb_1400 tb_12 tb_1401 hd_X11_count ⟨rfl, rfl⟩ ⟨Nat.le_of_ble_eq_true rfl, Nat.le_of_ble_eq_true rfl⟩ rfl hl.1 rfl (Nat.le_of_ble_eq_true rfl) hcs d_law_1139 (fun r_3 σ_4 H locs hD hw => ?_)
  refine lv_icmp_eq (tgt := 1147) hx hb d_law_1142 (by decide) (fun q9 => ?_) (fun q9 => absurd hD.1 q9)
  exact hnext σ_4 _ _ _ hD.2 hw hl
set_option maxRecDepth 20000 in
set_option maxHeartbeats 4000000 in
theorem law_loop {p : Program} {l : Launch} {e : Env} {s : State} {m : MethodId} {below : List Frame} {meth : Method} {c : Code} {G : GC} {b L : Nat} {xs : Nat → Int32} {cells slots : Nat} (Inv : GSt → Prop) (hcs : cells ≤ room_1.cells ∧ slots ≤ room_1.slots) (hx : p.tables.exec = Jvm.exec) (hb : c.code = code) (hml : c.maxLocals = 4) (hown : s.vm.findClass "GameLoomLaw" = some m.cls) (hts : ∀ w ∈ lw_us, w.before #[Value.ref b] s = true) (hX : va_X b L xs s s.heap) (hbl : b < s.heap.size) (hbA : ¬ Aw G b) (hr : meth.sig.returnType = ret) (hlocks : meth.locks = false) (hL : L ≤ 3072) (hAs : ∀ q, Aw G q → s.heap.size ≤ q) (hops : Ops Inv) : ∀ (n i : Nat), L + 6 ≤ i + n → i ≤ L + 6 → ∀ (x3 : Int32), x3 = nI i → ∀ (σ : GSt) (H : Heap) (locs : List Loc) (ls : Array Slot), Inv σ → Wo G s H locs σ → lv_has ls 4 [(0, .ref b), (1, .ref (G.2.1 0)), (2, .ref (G.2.1 237)), (3, .int x3)] → W p l e room_1 s m #[Value.ref b] below meth c H locs cells slots (lw_Z below #[Value.ref b] s) (F0 m 18 ls []) := by
  intro n
  induction n with
  | zero =>
    intro i h1 h2 x3 ex3 σ H locs ls hI hw hl
    exact law_end hcs hx hb hml hown hts hX hbl hbA hr hlocks hL hAs i (by omega) x3 ex3 σ H locs ls hw hl
  | succ n ih =>
    intro i h1 h2 x3 ex3 σ H locs ls hI hw hl
    by_cases hlt : L < i + 6
    · exact law_end hcs hx hb hml hown hts hX hbl hbA hr hlocks hL hAs i hlt x3 ex3 σ H locs ls hw hl
    have hi6 : i + 6 ≤ L := by omega
    have hin0 : vp_in x3 L := by rw [ex3]; exact vp_in_nI (by omega) (by omega)
    have hin1 : vp_in (x3 + 1) L := by rw [ex3, show nI i + 1 = nI (i + 1) from nI_add i 1]; exact vp_in_nI (by omega) (by omega)
    have hin2 : vp_in (x3 + 2) L := by rw [ex3, show nI i + 2 = nI (i + 2) from nI_add i 2]; exact vp_in_nI (by omega) (by omega)
    have hin3 : vp_in (x3 + 3) L := by rw [ex3, show nI i + 3 = nI (i + 3) from nI_add i 3]; exact vp_in_nI (by omega) (by omega)
    have hin4 : vp_in (x3 + 4) L := by rw [ex3, show nI i + 4 = nI (i + 4) from nI_add i 4]; exact vp_in_nI (by omega) (by omega)
    have hin5 : vp_in (x3 + 5) L := by rw [ex3, show nI i + 5 = nI (i + 5) from nI_add i 5]; exact vp_in_nI (by omega) (by omega)
    have hnext : ∀ (σ : GSt) (H : Heap) (locs : List Loc) (ls : Array Slot), Inv σ → Wo G s H locs σ → lv_has ls 4 [(0, .ref b), (1, .ref (G.2.1 0)), (2, .ref (G.2.1 237)), (3, .int x3)] → W p l e room_1 s m #[Value.ref b] below meth c H locs cells slots (lw_Z below #[Value.ref b] s) (F0 m 1147 ls []) := by
      intro σ H locs ls hI hw hl
      obtain ⟨y3, ey3⟩ : ∃ y : Int32, y = x3 + 6 := ⟨_, rfl⟩
      refine lv_iinc (v := y3) (lv' := [(3, .int y3), (0, .ref b), (1, .ref (G.2.1 0)), (2, .ref (G.2.1 237))]) hx hb d_law_1147 hl (k := 3) rfl (by rw [ey3]; rfl) (by decide) rfl (fun ls hl => ?_)
      refine lv_goto (tgt := 18) hx hb d_law_1150 (by decide) ?_
      exact ih (i + 6) (by omega) (by omega) y3 (by rw [ey3, ex3]; exact nI_add i 6) σ _ _ _ hI hw (lv_sub hl [1, 2, 3, 0] rfl)
    refine lv_iload_n hx hb d_law_18 rfl (lv_at hl 3 rfl) ?_
    refine lv_aload_n hx hb d_law_19 rfl (lv_at hl 0 rfl) ?_
    refine va_slen hx hb hX hbl hbA hw.2.2.2.1 d_law_20 ?_
    refine lv_bipush (v := 6) hx hb d_law_21 (by decide) ?_
    refine lv_isub hx hb d_law_23 ?_
    refine lv_icmp_gt (tgt := 1153) hx hb d_law_24 (by decide) (fun q9 => absurd q9 (law_no hL hi6 ex3)) (fun _ => ?_)
    refine lv_aload_n hx hb d_law_27 rfl (lv_at hl 0 rfl) ?_
    refine lv_iload_n hx hb d_law_28 rfl (lv_at hl 3 rfl) ?_
    refine va_sld hx hb hX hbl hbA hw.2.2.2.1 hin0 d_law_29 ?_
    refine lv_bipush (v := 31) hx hb d_law_30 (by decide) ?_
    refine lv_iand hx hb d_law_32 ?_
    by_cases q_sw : (xs x3.toNatClampNeg &&& 31) < 0 ∨ 28 < (xs x3.toNatClampNeg &&& 31)
    · refine lv_tableOut (tgt := 1147) hx hb d_law_33 (sw_out (n := 28) (by decide) q_sw) (by decide) ?_
      exact hnext σ _ _ _ hI hw hl
    · obtain ⟨j, hj, ej⟩ := sw_in (n := 28) (by decide) q_sw
      obtain ⟨hop_feed, hop_game, hop_of, hop_letter, hop_start, hop_move, hop_play, hop_back, hop_state, hop_cell, hop_look, hop_best, hop_ways, hop_match, hop_measure, hop_verdicts, hop_distance, hop_whatFor, hop_graft, hop_drop, hop_change, hop_mirror, hop_kin, hop_puzzle, hop_blunder, hop_pie, hop_keep, hop_niche, hop_count⟩ := hops
      rcases (show j = 0 ∨ j = 1 ∨ j = 2 ∨ j = 3 ∨ j = 4 ∨ j = 5 ∨ j = 6 ∨ j = 7 ∨ j = 8 ∨ j = 9 ∨ j = 10 ∨ j = 11 ∨ j = 12 ∨ j = 13 ∨ j = 14 ∨ j = 15 ∨ j = 16 ∨ j = 17 ∨ j = 18 ∨ j = 19 ∨ j = 20 ∨ j = 21 ∨ j = 22 ∨ j = 23 ∨ j = 24 ∨ j = 25 ∨ j = 26 ∨ j = 27 ∨ j = 28 by omega) with rfl | rfl | rfl | rfl | rfl | rfl | rfl | rfl | rfl | rfl | rfl | rfl | rfl | rfl | rfl | rfl | rfl | rfl | rfl | rfl | rfl | rfl | rfl | rfl | rfl | rfl | rfl | rfl | rfl
      · refine lv_tableIn (tgt := 164) hx hb d_law_33 (by rw [ej]; decide) (by rw [ej]; decide) (by rw [ej]; rfl) (by decide) ?_
        exact law_feed Inv hcs hx hb hml hown hts hX hbl hbA x3 hin1 hin2 hin3 hin4 hin5 hop_feed σ hI hnext hw hl
      · refine lv_tableIn (tgt := 227) hx hb d_law_33 (by rw [ej]; decide) (by rw [ej]; decide) (by rw [ej]; rfl) (by decide) ?_
        exact law_game Inv hcs hx hb hml hown hts hX hbl hbA x3 hin1 hin2 hin3 hin4 hin5 hop_game σ hI hnext hw hl
      · refine lv_tableIn (tgt := 240) hx hb d_law_33 (by rw [ej]; decide) (by rw [ej]; decide) (by rw [ej]; rfl) (by decide) ?_
        exact law_of Inv hcs hx hb hml hown hts hX hbl hbA x3 hin1 hin2 hin3 hin4 hin5 hop_of σ hI hnext hw hl
      · refine lv_tableIn (tgt := 273) hx hb d_law_33 (by rw [ej]; decide) (by rw [ej]; decide) (by rw [ej]; rfl) (by decide) ?_
        exact law_letter Inv hcs hx hb hml hown hts hX hbl hbA x3 hin1 hin2 hin3 hin4 hin5 hop_letter σ hI hnext hw hl
      · refine lv_tableIn (tgt := 306) hx hb d_law_33 (by rw [ej]; decide) (by rw [ej]; decide) (by rw [ej]; rfl) (by decide) ?_
        exact law_start Inv hcs hx hb hml hown hts hX hbl hbA x3 hin1 hin2 hin3 hin4 hin5 hop_start σ hI hnext hw hl
      · refine lv_tableIn (tgt := 329) hx hb d_law_33 (by rw [ej]; decide) (by rw [ej]; decide) (by rw [ej]; rfl) (by decide) ?_
        exact law_move Inv hcs hx hb hml hown hts hX hbl hbA x3 hin1 hin2 hin3 hin4 hin5 hop_move σ hI hnext hw hl
      · refine lv_tableIn (tgt := 352) hx hb d_law_33 (by rw [ej]; decide) (by rw [ej]; decide) (by rw [ej]; rfl) (by decide) ?_
        exact law_play Inv hcs hx hb hml hown hts hX hbl hbA x3 hin1 hin2 hin3 hin4 hin5 hop_play σ hI hnext hw hl
      · refine lv_tableIn (tgt := 375) hx hb d_law_33 (by rw [ej]; decide) (by rw [ej]; decide) (by rw [ej]; rfl) (by decide) ?_
        exact law_back Inv hcs hx hb hml hown hts hX hbl hbA x3 hin1 hin2 hin3 hin4 hin5 hop_back σ hI hnext hw hl
      · refine lv_tableIn (tgt := 388) hx hb d_law_33 (by rw [ej]; decide) (by rw [ej]; decide) (by rw [ej]; rfl) (by decide) ?_
        exact law_state Inv hcs hx hb hml hown hts hX hbl hbA x3 hin1 hin2 hin3 hin4 hin5 hop_state σ hI hnext hw hl
      · refine lv_tableIn (tgt := 411) hx hb d_law_33 (by rw [ej]; decide) (by rw [ej]; decide) (by rw [ej]; rfl) (by decide) ?_
        exact law_cell Inv hcs hx hb hml hown hts hX hbl hbA x3 hin1 hin2 hin3 hin4 hin5 hop_cell σ hI hnext hw hl
      · refine lv_tableIn (tgt := 434) hx hb d_law_33 (by rw [ej]; decide) (by rw [ej]; decide) (by rw [ej]; rfl) (by decide) ?_
        exact law_look Inv hcs hx hb hml hown hts hX hbl hbA x3 hin1 hin2 hin3 hin4 hin5 hop_look σ hI hnext hw hl
      · refine lv_tableIn (tgt := 457) hx hb d_law_33 (by rw [ej]; decide) (by rw [ej]; decide) (by rw [ej]; rfl) (by decide) ?_
        exact law_best Inv hcs hx hb hml hown hts hX hbl hbA x3 hin1 hin2 hin3 hin4 hin5 hop_best σ hI hnext hw hl
      · refine lv_tableIn (tgt := 480) hx hb d_law_33 (by rw [ej]; decide) (by rw [ej]; decide) (by rw [ej]; rfl) (by decide) ?_
        exact law_ways Inv hcs hx hb hml hown hts hX hbl hbA x3 hin1 hin2 hin3 hin4 hin5 hop_ways σ hI hnext hw hl
      · refine lv_tableIn (tgt := 503) hx hb d_law_33 (by rw [ej]; decide) (by rw [ej]; decide) (by rw [ej]; rfl) (by decide) ?_
        exact law_match Inv hcs hx hb hml hown hts hX hbl hbA x3 hin1 hin2 hin3 hin4 hin5 hop_match σ hI hnext hw hl
      · refine lv_tableIn (tgt := 556) hx hb d_law_33 (by rw [ej]; decide) (by rw [ej]; decide) (by rw [ej]; rfl) (by decide) ?_
        exact law_measure Inv hcs hx hb hml hown hts hX hbl hbA x3 hin1 hin2 hin3 hin4 hin5 hop_measure σ hI hnext hw hl
      · refine lv_tableIn (tgt := 619) hx hb d_law_33 (by rw [ej]; decide) (by rw [ej]; decide) (by rw [ej]; rfl) (by decide) ?_
        exact law_verdicts Inv hcs hx hb hml hown hts hX hbl hbA x3 hin1 hin2 hin3 hin4 hin5 hop_verdicts σ hI hnext hw hl
      · refine lv_tableIn (tgt := 652) hx hb d_law_33 (by rw [ej]; decide) (by rw [ej]; decide) (by rw [ej]; rfl) (by decide) ?_
        exact law_distance Inv hcs hx hb hml hown hts hX hbl hbA x3 hin1 hin2 hin3 hin4 hin5 hop_distance σ hI hnext hw hl
      · refine lv_tableIn (tgt := 695) hx hb d_law_33 (by rw [ej]; decide) (by rw [ej]; decide) (by rw [ej]; rfl) (by decide) ?_
        exact law_whatFor Inv hcs hx hb hml hown hts hX hbl hbA x3 hin1 hin2 hin3 hin4 hin5 hop_whatFor σ hI hnext hw hl
      · refine lv_tableIn (tgt := 738) hx hb d_law_33 (by rw [ej]; decide) (by rw [ej]; decide) (by rw [ej]; rfl) (by decide) ?_
        exact law_graft Inv hcs hx hb hml hown hts hX hbl hbA x3 hin1 hin2 hin3 hin4 hin5 hop_graft σ hI hnext hw hl
      · refine lv_tableIn (tgt := 771) hx hb d_law_33 (by rw [ej]; decide) (by rw [ej]; decide) (by rw [ej]; rfl) (by decide) ?_
        exact law_drop Inv hcs hx hb hml hown hts hX hbl hbA x3 hin1 hin2 hin3 hin4 hin5 hop_drop σ hI hnext hw hl
      · refine lv_tableIn (tgt := 830) hx hb d_law_33 (by rw [ej]; decide) (by rw [ej]; decide) (by rw [ej]; rfl) (by decide) ?_
        exact law_change Inv hcs hx hb hml hown hts hX hbl hbA x3 hin1 hin2 hin3 hin4 hin5 hop_change σ hI hnext hw hl
      · refine lv_tableIn (tgt := 873) hx hb d_law_33 (by rw [ej]; decide) (by rw [ej]; decide) (by rw [ej]; rfl) (by decide) ?_
        exact law_mirror Inv hcs hx hb hml hown hts hX hbl hbA x3 hin1 hin2 hin3 hin4 hin5 hop_mirror σ hI hnext hw hl
      · refine lv_tableIn (tgt := 896) hx hb d_law_33 (by rw [ej]; decide) (by rw [ej]; decide) (by rw [ej]; rfl) (by decide) ?_
        exact law_kin Inv hcs hx hb hml hown hts hX hbl hbA x3 hin1 hin2 hin3 hin4 hin5 hop_kin σ hI hnext hw hl
      · refine lv_tableIn (tgt := 939) hx hb d_law_33 (by rw [ej]; decide) (by rw [ej]; decide) (by rw [ej]; rfl) (by decide) ?_
        exact law_puzzle Inv hcs hx hb hml hown hts hX hbl hbA x3 hin1 hin2 hin3 hin4 hin5 hop_puzzle σ hI hnext hw hl
      · refine lv_tableIn (tgt := 982) hx hb d_law_33 (by rw [ej]; decide) (by rw [ej]; decide) (by rw [ej]; rfl) (by decide) ?_
        exact law_blunder Inv hcs hx hb hml hown hts hX hbl hbA x3 hin1 hin2 hin3 hin4 hin5 hop_blunder σ hI hnext hw hl
      · refine lv_tableIn (tgt := 1025) hx hb d_law_33 (by rw [ej]; decide) (by rw [ej]; decide) (by rw [ej]; rfl) (by decide) ?_
        exact law_pie Inv hcs hx hb hml hown hts hX hbl hbA x3 hin1 hin2 hin3 hin4 hin5 hop_pie σ hI hnext hw hl
      · refine lv_tableIn (tgt := 1068) hx hb d_law_33 (by rw [ej]; decide) (by rw [ej]; decide) (by rw [ej]; rfl) (by decide) ?_
        exact law_keep Inv hcs hx hb hml hown hts hX hbl hbA x3 hin1 hin2 hin3 hin4 hin5 hop_keep σ hI hnext hw hl
      · refine lv_tableIn (tgt := 1101) hx hb d_law_33 (by rw [ej]; decide) (by rw [ej]; decide) (by rw [ej]; rfl) (by decide) ?_
        exact law_niche Inv hcs hx hb hml hown hts hX hbl hbA x3 hin1 hin2 hin3 hin4 hin5 hop_niche σ hI hnext hw hl
      · refine lv_tableIn (tgt := 1124) hx hb d_law_33 (by rw [ej]; decide) (by rw [ej]; decide) (by rw [ej]; rfl) (by decide) ?_
        exact law_count Inv hcs hx hb hml hown hts hX hbl hbA x3 hin1 hin2 hin3 hin4 hin5 hop_count σ hI hnext hw hl
