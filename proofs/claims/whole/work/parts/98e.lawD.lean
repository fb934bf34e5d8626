/-! ===== the law's own instructions and links ===== -/
theorem dl_0 : decode code 0 = .ok (.new 7, 3) := by decide +kernel
theorem dl_3 : decode code 3 = .ok (.dup, 1) := by decide +kernel
theorem dl_4 : decode code 4 = .ok (.invokespecial 9, 3) := by decide +kernel
theorem dl_7 : decode code 7 = .ok (.astore_n 1, 1) := by decide +kernel
theorem dl_8 : decode code 8 = .ok (.new 10, 3) := by decide +kernel
theorem dl_11 : decode code 11 = .ok (.dup, 1) := by decide +kernel
theorem dl_12 : decode code 12 = .ok (.invokespecial 12, 3) := by decide +kernel
theorem dl_15 : decode code 15 = .ok (.astore_n 2, 1) := by decide +kernel
theorem dl_16 : decode code 16 = .ok (.iconst 0, 1) := by decide +kernel
theorem dl_17 : decode code 17 = .ok (.istore_n 3, 1) := by decide +kernel
theorem dl_18 : decode code 18 = .ok (.iload_n 3, 1) := by decide +kernel
theorem dl_19 : decode code 19 = .ok (.aload_n 0, 1) := by decide +kernel
theorem dl_20 : decode code 20 = .ok (.arraylength, 1) := by decide +kernel
theorem dl_21 : decode code 21 = .ok (.bipush 6, 2) := by decide +kernel
theorem dl_23 : decode code 23 = .ok (.isub, 1) := by decide +kernel
theorem dl_24 : decode code 24 = .ok (.if_icmp .gt 973, 3) := by decide +kernel
theorem dl_27 : decode code 27 = .ok (.aload_n 0, 1) := by decide +kernel
theorem dl_28 : decode code 28 = .ok (.iload_n 3, 1) := by decide +kernel
theorem dl_29 : decode code 29 = .ok (.iaload, 1) := by decide +kernel
theorem dl_30 : decode code 30 = .ok (.bipush 31, 2) := by decide +kernel
theorem dl_32 : decode code 32 = .ok (.iand, 1) := by decide +kernel
theorem dl_33 : decode code 33 = .ok (.tableswitch 958 0 28 #[131, 194, 217, 240, 263, 286, 319, 352, 385, 418, 461, 494, 527, 560, 583, 616, 639, 652, 675, 698, 721, 754, 797, 820, 863, 886, 899, 912, 935], 131) := by decide +kernel
theorem dl_164 : decode code 164 = .ok (.aload_n 1, 1) := by decide +kernel
theorem dl_165 : decode code 165 = .ok (.aload_n 0, 1) := by decide +kernel
theorem dl_166 : decode code 166 = .ok (.iload_n 3, 1) := by decide +kernel
theorem dl_167 : decode code 167 = .ok (.iconst 1, 1) := by decide +kernel
theorem dl_168 : decode code 168 = .ok (.iadd, 1) := by decide +kernel
theorem dl_169 : decode code 169 = .ok (.iaload, 1) := by decide +kernel
theorem dl_170 : decode code 170 = .ok (.aload_n 0, 1) := by decide +kernel
theorem dl_171 : decode code 171 = .ok (.iload_n 3, 1) := by decide +kernel
theorem dl_172 : decode code 172 = .ok (.iconst 2, 1) := by decide +kernel
theorem dl_173 : decode code 173 = .ok (.iadd, 1) := by decide +kernel
theorem dl_174 : decode code 174 = .ok (.iaload, 1) := by decide +kernel
theorem dl_175 : decode code 175 = .ok (.aload_n 0, 1) := by decide +kernel
theorem dl_176 : decode code 176 = .ok (.iload_n 3, 1) := by decide +kernel
theorem dl_177 : decode code 177 = .ok (.iconst 3, 1) := by decide +kernel
theorem dl_178 : decode code 178 = .ok (.iadd, 1) := by decide +kernel
theorem dl_179 : decode code 179 = .ok (.iaload, 1) := by decide +kernel
theorem dl_180 : decode code 180 = .ok (.aload_n 0, 1) := by decide +kernel
theorem dl_181 : decode code 181 = .ok (.iload_n 3, 1) := by decide +kernel
theorem dl_182 : decode code 182 = .ok (.iconst 4, 1) := by decide +kernel
theorem dl_183 : decode code 183 = .ok (.iadd, 1) := by decide +kernel
theorem dl_184 : decode code 184 = .ok (.iaload, 1) := by decide +kernel
theorem dl_185 : decode code 185 = .ok (.aload_n 0, 1) := by decide +kernel
theorem dl_186 : decode code 186 = .ok (.iload_n 3, 1) := by decide +kernel
theorem dl_187 : decode code 187 = .ok (.iconst 5, 1) := by decide +kernel
theorem dl_188 : decode code 188 = .ok (.iadd, 1) := by decide +kernel
theorem dl_189 : decode code 189 = .ok (.iaload, 1) := by decide +kernel
theorem dl_190 : decode code 190 = .ok (.invokevirtual 13, 3) := by decide +kernel
theorem dl_193 : decode code 193 = .ok (.aload_n 2, 1) := by decide +kernel
theorem dl_194 : decode code 194 = .ok (.aload_n 0, 1) := by decide +kernel
theorem dl_195 : decode code 195 = .ok (.iload_n 3, 1) := by decide +kernel
theorem dl_196 : decode code 196 = .ok (.iconst 1, 1) := by decide +kernel
theorem dl_197 : decode code 197 = .ok (.iadd, 1) := by decide +kernel
theorem dl_198 : decode code 198 = .ok (.iaload, 1) := by decide +kernel
theorem dl_199 : decode code 199 = .ok (.aload_n 0, 1) := by decide +kernel
theorem dl_200 : decode code 200 = .ok (.iload_n 3, 1) := by decide +kernel
theorem dl_201 : decode code 201 = .ok (.iconst 2, 1) := by decide +kernel
theorem dl_202 : decode code 202 = .ok (.iadd, 1) := by decide +kernel
theorem dl_203 : decode code 203 = .ok (.iaload, 1) := by decide +kernel
theorem dl_204 : decode code 204 = .ok (.aload_n 0, 1) := by decide +kernel
theorem dl_205 : decode code 205 = .ok (.iload_n 3, 1) := by decide +kernel
theorem dl_206 : decode code 206 = .ok (.iconst 3, 1) := by decide +kernel
theorem dl_207 : decode code 207 = .ok (.iadd, 1) := by decide +kernel
theorem dl_208 : decode code 208 = .ok (.iaload, 1) := by decide +kernel
theorem dl_209 : decode code 209 = .ok (.aload_n 0, 1) := by decide +kernel
theorem dl_210 : decode code 210 = .ok (.iload_n 3, 1) := by decide +kernel
theorem dl_211 : decode code 211 = .ok (.iconst 4, 1) := by decide +kernel
theorem dl_212 : decode code 212 = .ok (.iadd, 1) := by decide +kernel
theorem dl_213 : decode code 213 = .ok (.iaload, 1) := by decide +kernel
theorem dl_214 : decode code 214 = .ok (.aload_n 0, 1) := by decide +kernel
theorem dl_215 : decode code 215 = .ok (.iload_n 3, 1) := by decide +kernel
theorem dl_216 : decode code 216 = .ok (.iconst 5, 1) := by decide +kernel
theorem dl_217 : decode code 217 = .ok (.iadd, 1) := by decide +kernel
theorem dl_218 : decode code 218 = .ok (.iaload, 1) := by decide +kernel
theorem dl_219 : decode code 219 = .ok (.invokevirtual 17, 3) := by decide +kernel
theorem dl_222 : decode code 222 = .ok (.if_icmp .eq 769, 3) := by decide +kernel
theorem dl_225 : decode code 225 = .ok (.iconst 0, 1) := by decide +kernel
theorem dl_226 : decode code 226 = .ok (.ireturn, 1) := by decide +kernel
theorem dl_227 : decode code 227 = .ok (.aload_n 1, 1) := by decide +kernel
theorem dl_228 : decode code 228 = .ok (.aload_n 0, 1) := by decide +kernel
theorem dl_229 : decode code 229 = .ok (.iload_n 3, 1) := by decide +kernel
theorem dl_230 : decode code 230 = .ok (.iconst 1, 1) := by decide +kernel
theorem dl_231 : decode code 231 = .ok (.iadd, 1) := by decide +kernel
theorem dl_232 : decode code 232 = .ok (.iaload, 1) := by decide +kernel
theorem dl_233 : decode code 233 = .ok (.invokevirtual 18, 3) := by decide +kernel
theorem dl_236 : decode code 236 = .ok (.aload_n 2, 1) := by decide +kernel
theorem dl_237 : decode code 237 = .ok (.aload_n 0, 1) := by decide +kernel
theorem dl_238 : decode code 238 = .ok (.iload_n 3, 1) := by decide +kernel
theorem dl_239 : decode code 239 = .ok (.iconst 1, 1) := by decide +kernel
theorem dl_240 : decode code 240 = .ok (.iadd, 1) := by decide +kernel
theorem dl_241 : decode code 241 = .ok (.iaload, 1) := by decide +kernel
theorem dl_242 : decode code 242 = .ok (.invokevirtual 22, 3) := by decide +kernel
theorem dl_245 : decode code 245 = .ok (.if_icmp .eq 746, 3) := by decide +kernel
theorem dl_248 : decode code 248 = .ok (.iconst 0, 1) := by decide +kernel
theorem dl_249 : decode code 249 = .ok (.ireturn, 1) := by decide +kernel
theorem dl_250 : decode code 250 = .ok (.aload_n 1, 1) := by decide +kernel
theorem dl_251 : decode code 251 = .ok (.aload_n 0, 1) := by decide +kernel
theorem dl_252 : decode code 252 = .ok (.iload_n 3, 1) := by decide +kernel
theorem dl_253 : decode code 253 = .ok (.iconst 1, 1) := by decide +kernel
theorem dl_254 : decode code 254 = .ok (.iadd, 1) := by decide +kernel
theorem dl_255 : decode code 255 = .ok (.iaload, 1) := by decide +kernel
theorem dl_256 : decode code 256 = .ok (.invokevirtual 23, 3) := by decide +kernel
theorem dl_259 : decode code 259 = .ok (.aload_n 2, 1) := by decide +kernel
theorem dl_260 : decode code 260 = .ok (.aload_n 0, 1) := by decide +kernel
theorem dl_261 : decode code 261 = .ok (.iload_n 3, 1) := by decide +kernel
theorem dl_262 : decode code 262 = .ok (.iconst 1, 1) := by decide +kernel
theorem dl_263 : decode code 263 = .ok (.iadd, 1) := by decide +kernel
theorem dl_264 : decode code 264 = .ok (.iaload, 1) := by decide +kernel
theorem dl_265 : decode code 265 = .ok (.invokevirtual 26, 3) := by decide +kernel
theorem dl_268 : decode code 268 = .ok (.if_icmp .eq 723, 3) := by decide +kernel
theorem dl_271 : decode code 271 = .ok (.iconst 0, 1) := by decide +kernel
theorem dl_272 : decode code 272 = .ok (.ireturn, 1) := by decide +kernel
theorem dl_273 : decode code 273 = .ok (.aload_n 1, 1) := by decide +kernel
theorem dl_274 : decode code 274 = .ok (.aload_n 0, 1) := by decide +kernel
theorem dl_275 : decode code 275 = .ok (.iload_n 3, 1) := by decide +kernel
theorem dl_276 : decode code 276 = .ok (.iconst 1, 1) := by decide +kernel
theorem dl_277 : decode code 277 = .ok (.iadd, 1) := by decide +kernel
theorem dl_278 : decode code 278 = .ok (.iaload, 1) := by decide +kernel
theorem dl_279 : decode code 279 = .ok (.invokevirtual 27, 3) := by decide +kernel
theorem dl_282 : decode code 282 = .ok (.aload_n 2, 1) := by decide +kernel
theorem dl_283 : decode code 283 = .ok (.aload_n 0, 1) := by decide +kernel
theorem dl_284 : decode code 284 = .ok (.iload_n 3, 1) := by decide +kernel
theorem dl_285 : decode code 285 = .ok (.iconst 1, 1) := by decide +kernel
theorem dl_286 : decode code 286 = .ok (.iadd, 1) := by decide +kernel
theorem dl_287 : decode code 287 = .ok (.iaload, 1) := by decide +kernel
theorem dl_288 : decode code 288 = .ok (.invokevirtual 30, 3) := by decide +kernel
theorem dl_291 : decode code 291 = .ok (.if_icmp .eq 700, 3) := by decide +kernel
theorem dl_294 : decode code 294 = .ok (.iconst 0, 1) := by decide +kernel
theorem dl_295 : decode code 295 = .ok (.ireturn, 1) := by decide +kernel
theorem dl_296 : decode code 296 = .ok (.aload_n 1, 1) := by decide +kernel
theorem dl_297 : decode code 297 = .ok (.aload_n 0, 1) := by decide +kernel
theorem dl_298 : decode code 298 = .ok (.iload_n 3, 1) := by decide +kernel
theorem dl_299 : decode code 299 = .ok (.iconst 1, 1) := by decide +kernel
theorem dl_300 : decode code 300 = .ok (.iadd, 1) := by decide +kernel
theorem dl_301 : decode code 301 = .ok (.iaload, 1) := by decide +kernel
theorem dl_302 : decode code 302 = .ok (.invokevirtual 31, 3) := by decide +kernel
theorem dl_305 : decode code 305 = .ok (.aload_n 2, 1) := by decide +kernel
theorem dl_306 : decode code 306 = .ok (.aload_n 0, 1) := by decide +kernel
theorem dl_307 : decode code 307 = .ok (.iload_n 3, 1) := by decide +kernel
theorem dl_308 : decode code 308 = .ok (.iconst 1, 1) := by decide +kernel
theorem dl_309 : decode code 309 = .ok (.iadd, 1) := by decide +kernel
theorem dl_310 : decode code 310 = .ok (.iaload, 1) := by decide +kernel
theorem dl_311 : decode code 311 = .ok (.invokevirtual 34, 3) := by decide +kernel
theorem dl_314 : decode code 314 = .ok (.if_icmp .eq 677, 3) := by decide +kernel
theorem dl_317 : decode code 317 = .ok (.iconst 0, 1) := by decide +kernel
theorem dl_318 : decode code 318 = .ok (.ireturn, 1) := by decide +kernel
theorem dl_319 : decode code 319 = .ok (.aload_n 1, 1) := by decide +kernel
theorem dl_320 : decode code 320 = .ok (.aload_n 0, 1) := by decide +kernel
theorem dl_321 : decode code 321 = .ok (.iload_n 3, 1) := by decide +kernel
theorem dl_322 : decode code 322 = .ok (.iconst 1, 1) := by decide +kernel
theorem dl_323 : decode code 323 = .ok (.iadd, 1) := by decide +kernel
theorem dl_324 : decode code 324 = .ok (.iaload, 1) := by decide +kernel
theorem dl_325 : decode code 325 = .ok (.aload_n 0, 1) := by decide +kernel
theorem dl_326 : decode code 326 = .ok (.iload_n 3, 1) := by decide +kernel
theorem dl_327 : decode code 327 = .ok (.iconst 2, 1) := by decide +kernel
theorem dl_328 : decode code 328 = .ok (.iadd, 1) := by decide +kernel
theorem dl_329 : decode code 329 = .ok (.iaload, 1) := by decide +kernel
theorem dl_330 : decode code 330 = .ok (.invokevirtual 35, 3) := by decide +kernel
theorem dl_333 : decode code 333 = .ok (.aload_n 2, 1) := by decide +kernel
theorem dl_334 : decode code 334 = .ok (.aload_n 0, 1) := by decide +kernel
theorem dl_335 : decode code 335 = .ok (.iload_n 3, 1) := by decide +kernel
theorem dl_336 : decode code 336 = .ok (.iconst 1, 1) := by decide +kernel
theorem dl_337 : decode code 337 = .ok (.iadd, 1) := by decide +kernel
theorem dl_338 : decode code 338 = .ok (.iaload, 1) := by decide +kernel
theorem dl_339 : decode code 339 = .ok (.aload_n 0, 1) := by decide +kernel
theorem dl_340 : decode code 340 = .ok (.iload_n 3, 1) := by decide +kernel
theorem dl_341 : decode code 341 = .ok (.iconst 2, 1) := by decide +kernel
theorem dl_342 : decode code 342 = .ok (.iadd, 1) := by decide +kernel
theorem dl_343 : decode code 343 = .ok (.iaload, 1) := by decide +kernel
theorem dl_344 : decode code 344 = .ok (.invokevirtual 39, 3) := by decide +kernel
theorem dl_347 : decode code 347 = .ok (.if_icmp .eq 644, 3) := by decide +kernel
theorem dl_350 : decode code 350 = .ok (.iconst 0, 1) := by decide +kernel
theorem dl_351 : decode code 351 = .ok (.ireturn, 1) := by decide +kernel
theorem dl_352 : decode code 352 = .ok (.aload_n 1, 1) := by decide +kernel
theorem dl_353 : decode code 353 = .ok (.aload_n 0, 1) := by decide +kernel
theorem dl_354 : decode code 354 = .ok (.iload_n 3, 1) := by decide +kernel
theorem dl_355 : decode code 355 = .ok (.iconst 1, 1) := by decide +kernel
theorem dl_356 : decode code 356 = .ok (.iadd, 1) := by decide +kernel
theorem dl_357 : decode code 357 = .ok (.iaload, 1) := by decide +kernel
theorem dl_358 : decode code 358 = .ok (.aload_n 0, 1) := by decide +kernel
theorem dl_359 : decode code 359 = .ok (.iload_n 3, 1) := by decide +kernel
theorem dl_360 : decode code 360 = .ok (.iconst 2, 1) := by decide +kernel
theorem dl_361 : decode code 361 = .ok (.iadd, 1) := by decide +kernel
theorem dl_362 : decode code 362 = .ok (.iaload, 1) := by decide +kernel
theorem dl_363 : decode code 363 = .ok (.invokevirtual 40, 3) := by decide +kernel
theorem dl_366 : decode code 366 = .ok (.aload_n 2, 1) := by decide +kernel
theorem dl_367 : decode code 367 = .ok (.aload_n 0, 1) := by decide +kernel
theorem dl_368 : decode code 368 = .ok (.iload_n 3, 1) := by decide +kernel
theorem dl_369 : decode code 369 = .ok (.iconst 1, 1) := by decide +kernel
theorem dl_370 : decode code 370 = .ok (.iadd, 1) := by decide +kernel
theorem dl_371 : decode code 371 = .ok (.iaload, 1) := by decide +kernel
theorem dl_372 : decode code 372 = .ok (.aload_n 0, 1) := by decide +kernel
theorem dl_373 : decode code 373 = .ok (.iload_n 3, 1) := by decide +kernel
theorem dl_374 : decode code 374 = .ok (.iconst 2, 1) := by decide +kernel
theorem dl_375 : decode code 375 = .ok (.iadd, 1) := by decide +kernel
theorem dl_376 : decode code 376 = .ok (.iaload, 1) := by decide +kernel
theorem dl_377 : decode code 377 = .ok (.invokevirtual 43, 3) := by decide +kernel
theorem dl_380 : decode code 380 = .ok (.if_icmp .eq 611, 3) := by decide +kernel
theorem dl_383 : decode code 383 = .ok (.iconst 0, 1) := by decide +kernel
theorem dl_384 : decode code 384 = .ok (.ireturn, 1) := by decide +kernel
theorem dl_385 : decode code 385 = .ok (.aload_n 1, 1) := by decide +kernel
theorem dl_386 : decode code 386 = .ok (.aload_n 0, 1) := by decide +kernel
theorem dl_387 : decode code 387 = .ok (.iload_n 3, 1) := by decide +kernel
theorem dl_388 : decode code 388 = .ok (.iconst 1, 1) := by decide +kernel
theorem dl_389 : decode code 389 = .ok (.iadd, 1) := by decide +kernel
theorem dl_390 : decode code 390 = .ok (.iaload, 1) := by decide +kernel
theorem dl_391 : decode code 391 = .ok (.aload_n 0, 1) := by decide +kernel
theorem dl_392 : decode code 392 = .ok (.iload_n 3, 1) := by decide +kernel
theorem dl_393 : decode code 393 = .ok (.iconst 2, 1) := by decide +kernel
theorem dl_394 : decode code 394 = .ok (.iadd, 1) := by decide +kernel
theorem dl_395 : decode code 395 = .ok (.iaload, 1) := by decide +kernel
theorem dl_396 : decode code 396 = .ok (.invokevirtual 44, 3) := by decide +kernel
theorem dl_399 : decode code 399 = .ok (.aload_n 2, 1) := by decide +kernel
theorem dl_400 : decode code 400 = .ok (.aload_n 0, 1) := by decide +kernel
theorem dl_401 : decode code 401 = .ok (.iload_n 3, 1) := by decide +kernel
theorem dl_402 : decode code 402 = .ok (.iconst 1, 1) := by decide +kernel
theorem dl_403 : decode code 403 = .ok (.iadd, 1) := by decide +kernel
theorem dl_404 : decode code 404 = .ok (.iaload, 1) := by decide +kernel
theorem dl_405 : decode code 405 = .ok (.aload_n 0, 1) := by decide +kernel
theorem dl_406 : decode code 406 = .ok (.iload_n 3, 1) := by decide +kernel
theorem dl_407 : decode code 407 = .ok (.iconst 2, 1) := by decide +kernel
theorem dl_408 : decode code 408 = .ok (.iadd, 1) := by decide +kernel
theorem dl_409 : decode code 409 = .ok (.iaload, 1) := by decide +kernel
theorem dl_410 : decode code 410 = .ok (.invokevirtual 47, 3) := by decide +kernel
theorem dl_413 : decode code 413 = .ok (.if_icmp .eq 578, 3) := by decide +kernel
theorem dl_416 : decode code 416 = .ok (.iconst 0, 1) := by decide +kernel
theorem dl_417 : decode code 417 = .ok (.ireturn, 1) := by decide +kernel
theorem dl_418 : decode code 418 = .ok (.aload_n 1, 1) := by decide +kernel
theorem dl_419 : decode code 419 = .ok (.aload_n 0, 1) := by decide +kernel
theorem dl_420 : decode code 420 = .ok (.iload_n 3, 1) := by decide +kernel
theorem dl_421 : decode code 421 = .ok (.iconst 1, 1) := by decide +kernel
theorem dl_422 : decode code 422 = .ok (.iadd, 1) := by decide +kernel
theorem dl_423 : decode code 423 = .ok (.iaload, 1) := by decide +kernel
theorem dl_424 : decode code 424 = .ok (.aload_n 0, 1) := by decide +kernel
theorem dl_425 : decode code 425 = .ok (.iload_n 3, 1) := by decide +kernel
theorem dl_426 : decode code 426 = .ok (.iconst 2, 1) := by decide +kernel
theorem dl_427 : decode code 427 = .ok (.iadd, 1) := by decide +kernel
theorem dl_428 : decode code 428 = .ok (.iaload, 1) := by decide +kernel
theorem dl_429 : decode code 429 = .ok (.invokevirtual 48, 3) := by decide +kernel
theorem dl_432 : decode code 432 = .ok (.aload_n 2, 1) := by decide +kernel
theorem dl_433 : decode code 433 = .ok (.aload_n 0, 1) := by decide +kernel
theorem dl_434 : decode code 434 = .ok (.iload_n 3, 1) := by decide +kernel
theorem dl_435 : decode code 435 = .ok (.iconst 1, 1) := by decide +kernel
theorem dl_436 : decode code 436 = .ok (.iadd, 1) := by decide +kernel
theorem dl_437 : decode code 437 = .ok (.iaload, 1) := by decide +kernel
theorem dl_438 : decode code 438 = .ok (.aload_n 0, 1) := by decide +kernel
theorem dl_439 : decode code 439 = .ok (.iload_n 3, 1) := by decide +kernel
theorem dl_440 : decode code 440 = .ok (.iconst 2, 1) := by decide +kernel
theorem dl_441 : decode code 441 = .ok (.iadd, 1) := by decide +kernel
theorem dl_442 : decode code 442 = .ok (.iaload, 1) := by decide +kernel
theorem dl_443 : decode code 443 = .ok (.invokevirtual 51, 3) := by decide +kernel
theorem dl_446 : decode code 446 = .ok (.if_icmp .eq 545, 3) := by decide +kernel
theorem dl_449 : decode code 449 = .ok (.iconst 0, 1) := by decide +kernel
theorem dl_450 : decode code 450 = .ok (.ireturn, 1) := by decide +kernel
theorem dl_451 : decode code 451 = .ok (.aload_n 1, 1) := by decide +kernel
theorem dl_452 : decode code 452 = .ok (.aload_n 0, 1) := by decide +kernel
theorem dl_453 : decode code 453 = .ok (.iload_n 3, 1) := by decide +kernel
theorem dl_454 : decode code 454 = .ok (.iconst 1, 1) := by decide +kernel
theorem dl_455 : decode code 455 = .ok (.iadd, 1) := by decide +kernel
theorem dl_456 : decode code 456 = .ok (.iaload, 1) := by decide +kernel
theorem dl_457 : decode code 457 = .ok (.aload_n 0, 1) := by decide +kernel
theorem dl_458 : decode code 458 = .ok (.iload_n 3, 1) := by decide +kernel
theorem dl_459 : decode code 459 = .ok (.iconst 2, 1) := by decide +kernel
theorem dl_460 : decode code 460 = .ok (.iadd, 1) := by decide +kernel
theorem dl_461 : decode code 461 = .ok (.iaload, 1) := by decide +kernel
theorem dl_462 : decode code 462 = .ok (.aload_n 0, 1) := by decide +kernel
theorem dl_463 : decode code 463 = .ok (.iload_n 3, 1) := by decide +kernel
theorem dl_464 : decode code 464 = .ok (.iconst 3, 1) := by decide +kernel
theorem dl_465 : decode code 465 = .ok (.iadd, 1) := by decide +kernel
theorem dl_466 : decode code 466 = .ok (.iaload, 1) := by decide +kernel
theorem dl_467 : decode code 467 = .ok (.invokevirtual 52, 3) := by decide +kernel
theorem dl_470 : decode code 470 = .ok (.aload_n 2, 1) := by decide +kernel
theorem dl_471 : decode code 471 = .ok (.aload_n 0, 1) := by decide +kernel
theorem dl_472 : decode code 472 = .ok (.iload_n 3, 1) := by decide +kernel
theorem dl_473 : decode code 473 = .ok (.iconst 1, 1) := by decide +kernel
theorem dl_474 : decode code 474 = .ok (.iadd, 1) := by decide +kernel
theorem dl_475 : decode code 475 = .ok (.iaload, 1) := by decide +kernel
theorem dl_476 : decode code 476 = .ok (.aload_n 0, 1) := by decide +kernel
theorem dl_477 : decode code 477 = .ok (.iload_n 3, 1) := by decide +kernel
theorem dl_478 : decode code 478 = .ok (.iconst 2, 1) := by decide +kernel
theorem dl_479 : decode code 479 = .ok (.iadd, 1) := by decide +kernel
theorem dl_480 : decode code 480 = .ok (.iaload, 1) := by decide +kernel
theorem dl_481 : decode code 481 = .ok (.aload_n 0, 1) := by decide +kernel
theorem dl_482 : decode code 482 = .ok (.iload_n 3, 1) := by decide +kernel
theorem dl_483 : decode code 483 = .ok (.iconst 3, 1) := by decide +kernel
theorem dl_484 : decode code 484 = .ok (.iadd, 1) := by decide +kernel
theorem dl_485 : decode code 485 = .ok (.iaload, 1) := by decide +kernel
theorem dl_486 : decode code 486 = .ok (.invokevirtual 56, 3) := by decide +kernel
theorem dl_489 : decode code 489 = .ok (.if_icmp .eq 502, 3) := by decide +kernel
theorem dl_492 : decode code 492 = .ok (.iconst 0, 1) := by decide +kernel
theorem dl_493 : decode code 493 = .ok (.ireturn, 1) := by decide +kernel
theorem dl_494 : decode code 494 = .ok (.aload_n 1, 1) := by decide +kernel
theorem dl_495 : decode code 495 = .ok (.aload_n 0, 1) := by decide +kernel
theorem dl_496 : decode code 496 = .ok (.iload_n 3, 1) := by decide +kernel
theorem dl_497 : decode code 497 = .ok (.iconst 1, 1) := by decide +kernel
theorem dl_498 : decode code 498 = .ok (.iadd, 1) := by decide +kernel
theorem dl_499 : decode code 499 = .ok (.iaload, 1) := by decide +kernel
theorem dl_500 : decode code 500 = .ok (.aload_n 0, 1) := by decide +kernel
theorem dl_501 : decode code 501 = .ok (.iload_n 3, 1) := by decide +kernel
theorem dl_502 : decode code 502 = .ok (.iconst 2, 1) := by decide +kernel
theorem dl_503 : decode code 503 = .ok (.iadd, 1) := by decide +kernel
theorem dl_504 : decode code 504 = .ok (.iaload, 1) := by decide +kernel
theorem dl_505 : decode code 505 = .ok (.invokevirtual 57, 3) := by decide +kernel
theorem dl_508 : decode code 508 = .ok (.aload_n 2, 1) := by decide +kernel
theorem dl_509 : decode code 509 = .ok (.aload_n 0, 1) := by decide +kernel
theorem dl_510 : decode code 510 = .ok (.iload_n 3, 1) := by decide +kernel
theorem dl_511 : decode code 511 = .ok (.iconst 1, 1) := by decide +kernel
theorem dl_512 : decode code 512 = .ok (.iadd, 1) := by decide +kernel
theorem dl_513 : decode code 513 = .ok (.iaload, 1) := by decide +kernel
theorem dl_514 : decode code 514 = .ok (.aload_n 0, 1) := by decide +kernel
theorem dl_515 : decode code 515 = .ok (.iload_n 3, 1) := by decide +kernel
theorem dl_516 : decode code 516 = .ok (.iconst 2, 1) := by decide +kernel
theorem dl_517 : decode code 517 = .ok (.iadd, 1) := by decide +kernel
theorem dl_518 : decode code 518 = .ok (.iaload, 1) := by decide +kernel
theorem dl_519 : decode code 519 = .ok (.invokevirtual 60, 3) := by decide +kernel
theorem dl_522 : decode code 522 = .ok (.if_icmp .eq 469, 3) := by decide +kernel
theorem dl_525 : decode code 525 = .ok (.iconst 0, 1) := by decide +kernel
theorem dl_526 : decode code 526 = .ok (.ireturn, 1) := by decide +kernel
theorem dl_527 : decode code 527 = .ok (.aload_n 1, 1) := by decide +kernel
theorem dl_528 : decode code 528 = .ok (.aload_n 0, 1) := by decide +kernel
theorem dl_529 : decode code 529 = .ok (.iload_n 3, 1) := by decide +kernel
theorem dl_530 : decode code 530 = .ok (.iconst 1, 1) := by decide +kernel
theorem dl_531 : decode code 531 = .ok (.iadd, 1) := by decide +kernel
theorem dl_532 : decode code 532 = .ok (.iaload, 1) := by decide +kernel
theorem dl_533 : decode code 533 = .ok (.aload_n 0, 1) := by decide +kernel
theorem dl_534 : decode code 534 = .ok (.iload_n 3, 1) := by decide +kernel
theorem dl_535 : decode code 535 = .ok (.iconst 2, 1) := by decide +kernel
theorem dl_536 : decode code 536 = .ok (.iadd, 1) := by decide +kernel
theorem dl_537 : decode code 537 = .ok (.iaload, 1) := by decide +kernel
theorem dl_538 : decode code 538 = .ok (.invokevirtual 61, 3) := by decide +kernel
theorem dl_541 : decode code 541 = .ok (.aload_n 2, 1) := by decide +kernel
theorem dl_542 : decode code 542 = .ok (.aload_n 0, 1) := by decide +kernel
theorem dl_543 : decode code 543 = .ok (.iload_n 3, 1) := by decide +kernel
theorem dl_544 : decode code 544 = .ok (.iconst 1, 1) := by decide +kernel
theorem dl_545 : decode code 545 = .ok (.iadd, 1) := by decide +kernel
theorem dl_546 : decode code 546 = .ok (.iaload, 1) := by decide +kernel
theorem dl_547 : decode code 547 = .ok (.aload_n 0, 1) := by decide +kernel
theorem dl_548 : decode code 548 = .ok (.iload_n 3, 1) := by decide +kernel
theorem dl_549 : decode code 549 = .ok (.iconst 2, 1) := by decide +kernel
theorem dl_550 : decode code 550 = .ok (.iadd, 1) := by decide +kernel
theorem dl_551 : decode code 551 = .ok (.iaload, 1) := by decide +kernel
theorem dl_552 : decode code 552 = .ok (.invokevirtual 64, 3) := by decide +kernel
theorem dl_555 : decode code 555 = .ok (.if_icmp .eq 436, 3) := by decide +kernel
theorem dl_558 : decode code 558 = .ok (.iconst 0, 1) := by decide +kernel
theorem dl_559 : decode code 559 = .ok (.ireturn, 1) := by decide +kernel
theorem dl_560 : decode code 560 = .ok (.aload_n 1, 1) := by decide +kernel
theorem dl_561 : decode code 561 = .ok (.aload_n 0, 1) := by decide +kernel
theorem dl_562 : decode code 562 = .ok (.iload_n 3, 1) := by decide +kernel
theorem dl_563 : decode code 563 = .ok (.iconst 1, 1) := by decide +kernel
theorem dl_564 : decode code 564 = .ok (.iadd, 1) := by decide +kernel
theorem dl_565 : decode code 565 = .ok (.iaload, 1) := by decide +kernel
theorem dl_566 : decode code 566 = .ok (.aload_n 0, 1) := by decide +kernel
theorem dl_567 : decode code 567 = .ok (.iload_n 3, 1) := by decide +kernel
theorem dl_568 : decode code 568 = .ok (.iconst 2, 1) := by decide +kernel
theorem dl_569 : decode code 569 = .ok (.iadd, 1) := by decide +kernel
theorem dl_570 : decode code 570 = .ok (.iaload, 1) := by decide +kernel
theorem dl_571 : decode code 571 = .ok (.invokevirtual 65, 3) := by decide +kernel
theorem dl_574 : decode code 574 = .ok (.aload_n 2, 1) := by decide +kernel
theorem dl_575 : decode code 575 = .ok (.aload_n 0, 1) := by decide +kernel
theorem dl_576 : decode code 576 = .ok (.iload_n 3, 1) := by decide +kernel
theorem dl_577 : decode code 577 = .ok (.iconst 1, 1) := by decide +kernel
theorem dl_578 : decode code 578 = .ok (.iadd, 1) := by decide +kernel
theorem dl_579 : decode code 579 = .ok (.iaload, 1) := by decide +kernel
theorem dl_580 : decode code 580 = .ok (.aload_n 0, 1) := by decide +kernel
theorem dl_581 : decode code 581 = .ok (.iload_n 3, 1) := by decide +kernel
theorem dl_582 : decode code 582 = .ok (.iconst 2, 1) := by decide +kernel
theorem dl_583 : decode code 583 = .ok (.iadd, 1) := by decide +kernel
theorem dl_584 : decode code 584 = .ok (.iaload, 1) := by decide +kernel
theorem dl_585 : decode code 585 = .ok (.invokevirtual 68, 3) := by decide +kernel
theorem dl_588 : decode code 588 = .ok (.if_icmp .eq 403, 3) := by decide +kernel
theorem dl_591 : decode code 591 = .ok (.iconst 0, 1) := by decide +kernel
theorem dl_592 : decode code 592 = .ok (.ireturn, 1) := by decide +kernel
theorem dl_593 : decode code 593 = .ok (.aload_n 1, 1) := by decide +kernel
theorem dl_594 : decode code 594 = .ok (.aload_n 0, 1) := by decide +kernel
theorem dl_595 : decode code 595 = .ok (.iload_n 3, 1) := by decide +kernel
theorem dl_596 : decode code 596 = .ok (.iconst 1, 1) := by decide +kernel
theorem dl_597 : decode code 597 = .ok (.iadd, 1) := by decide +kernel
theorem dl_598 : decode code 598 = .ok (.iaload, 1) := by decide +kernel
theorem dl_599 : decode code 599 = .ok (.invokevirtual 69, 3) := by decide +kernel
theorem dl_602 : decode code 602 = .ok (.aload_n 2, 1) := by decide +kernel
theorem dl_603 : decode code 603 = .ok (.aload_n 0, 1) := by decide +kernel
theorem dl_604 : decode code 604 = .ok (.iload_n 3, 1) := by decide +kernel
theorem dl_605 : decode code 605 = .ok (.iconst 1, 1) := by decide +kernel
theorem dl_606 : decode code 606 = .ok (.iadd, 1) := by decide +kernel
theorem dl_607 : decode code 607 = .ok (.iaload, 1) := by decide +kernel
theorem dl_608 : decode code 608 = .ok (.invokevirtual 72, 3) := by decide +kernel
theorem dl_611 : decode code 611 = .ok (.if_icmp .eq 380, 3) := by decide +kernel
theorem dl_614 : decode code 614 = .ok (.iconst 0, 1) := by decide +kernel
theorem dl_615 : decode code 615 = .ok (.ireturn, 1) := by decide +kernel
theorem dl_616 : decode code 616 = .ok (.aload_n 1, 1) := by decide +kernel
theorem dl_617 : decode code 617 = .ok (.aload_n 0, 1) := by decide +kernel
theorem dl_618 : decode code 618 = .ok (.iload_n 3, 1) := by decide +kernel
theorem dl_619 : decode code 619 = .ok (.iconst 1, 1) := by decide +kernel
theorem dl_620 : decode code 620 = .ok (.iadd, 1) := by decide +kernel
theorem dl_621 : decode code 621 = .ok (.iaload, 1) := by decide +kernel
theorem dl_622 : decode code 622 = .ok (.aload_n 0, 1) := by decide +kernel
theorem dl_623 : decode code 623 = .ok (.iload_n 3, 1) := by decide +kernel
theorem dl_624 : decode code 624 = .ok (.iconst 2, 1) := by decide +kernel
theorem dl_625 : decode code 625 = .ok (.iadd, 1) := by decide +kernel
theorem dl_626 : decode code 626 = .ok (.iaload, 1) := by decide +kernel
theorem dl_627 : decode code 627 = .ok (.invokevirtual 73, 3) := by decide +kernel
theorem dl_630 : decode code 630 = .ok (.aload_n 2, 1) := by decide +kernel
theorem dl_631 : decode code 631 = .ok (.aload_n 0, 1) := by decide +kernel
theorem dl_632 : decode code 632 = .ok (.iload_n 3, 1) := by decide +kernel
theorem dl_633 : decode code 633 = .ok (.iconst 1, 1) := by decide +kernel
theorem dl_634 : decode code 634 = .ok (.iadd, 1) := by decide +kernel
theorem dl_635 : decode code 635 = .ok (.iaload, 1) := by decide +kernel
theorem dl_636 : decode code 636 = .ok (.aload_n 0, 1) := by decide +kernel
theorem dl_637 : decode code 637 = .ok (.iload_n 3, 1) := by decide +kernel
theorem dl_638 : decode code 638 = .ok (.iconst 2, 1) := by decide +kernel
theorem dl_639 : decode code 639 = .ok (.iadd, 1) := by decide +kernel
theorem dl_640 : decode code 640 = .ok (.iaload, 1) := by decide +kernel
theorem dl_641 : decode code 641 = .ok (.invokevirtual 76, 3) := by decide +kernel
theorem dl_644 : decode code 644 = .ok (.if_icmp .eq 347, 3) := by decide +kernel
theorem dl_647 : decode code 647 = .ok (.iconst 0, 1) := by decide +kernel
theorem dl_648 : decode code 648 = .ok (.ireturn, 1) := by decide +kernel
theorem dl_649 : decode code 649 = .ok (.aload_n 1, 1) := by decide +kernel
theorem dl_650 : decode code 650 = .ok (.aload_n 0, 1) := by decide +kernel
theorem dl_651 : decode code 651 = .ok (.iload_n 3, 1) := by decide +kernel
theorem dl_652 : decode code 652 = .ok (.iconst 1, 1) := by decide +kernel
theorem dl_653 : decode code 653 = .ok (.iadd, 1) := by decide +kernel
theorem dl_654 : decode code 654 = .ok (.iaload, 1) := by decide +kernel
theorem dl_655 : decode code 655 = .ok (.invokevirtual 77, 3) := by decide +kernel
theorem dl_658 : decode code 658 = .ok (.aload_n 2, 1) := by decide +kernel
theorem dl_659 : decode code 659 = .ok (.aload_n 0, 1) := by decide +kernel
theorem dl_660 : decode code 660 = .ok (.iload_n 3, 1) := by decide +kernel
theorem dl_661 : decode code 661 = .ok (.iconst 1, 1) := by decide +kernel
theorem dl_662 : decode code 662 = .ok (.iadd, 1) := by decide +kernel
theorem dl_663 : decode code 663 = .ok (.iaload, 1) := by decide +kernel
theorem dl_664 : decode code 664 = .ok (.invokevirtual 80, 3) := by decide +kernel
theorem dl_667 : decode code 667 = .ok (.if_icmp .eq 324, 3) := by decide +kernel
theorem dl_670 : decode code 670 = .ok (.iconst 0, 1) := by decide +kernel
theorem dl_671 : decode code 671 = .ok (.ireturn, 1) := by decide +kernel
theorem dl_672 : decode code 672 = .ok (.aload_n 1, 1) := by decide +kernel
theorem dl_673 : decode code 673 = .ok (.invokevirtual 81, 3) := by decide +kernel
theorem dl_676 : decode code 676 = .ok (.aload_n 2, 1) := by decide +kernel
theorem dl_677 : decode code 677 = .ok (.invokevirtual 85, 3) := by decide +kernel
theorem dl_680 : decode code 680 = .ok (.if_icmp .eq 311, 3) := by decide +kernel
theorem dl_683 : decode code 683 = .ok (.iconst 0, 1) := by decide +kernel
theorem dl_684 : decode code 684 = .ok (.ireturn, 1) := by decide +kernel
theorem dl_685 : decode code 685 = .ok (.aload_n 1, 1) := by decide +kernel
theorem dl_686 : decode code 686 = .ok (.aload_n 0, 1) := by decide +kernel
theorem dl_687 : decode code 687 = .ok (.iload_n 3, 1) := by decide +kernel
theorem dl_688 : decode code 688 = .ok (.iconst 1, 1) := by decide +kernel
theorem dl_689 : decode code 689 = .ok (.iadd, 1) := by decide +kernel
theorem dl_690 : decode code 690 = .ok (.iaload, 1) := by decide +kernel
theorem dl_691 : decode code 691 = .ok (.invokevirtual 86, 3) := by decide +kernel
theorem dl_694 : decode code 694 = .ok (.aload_n 2, 1) := by decide +kernel
theorem dl_695 : decode code 695 = .ok (.aload_n 0, 1) := by decide +kernel
theorem dl_696 : decode code 696 = .ok (.iload_n 3, 1) := by decide +kernel
theorem dl_697 : decode code 697 = .ok (.iconst 1, 1) := by decide +kernel
theorem dl_698 : decode code 698 = .ok (.iadd, 1) := by decide +kernel
theorem dl_699 : decode code 699 = .ok (.iaload, 1) := by decide +kernel
theorem dl_700 : decode code 700 = .ok (.invokevirtual 89, 3) := by decide +kernel
theorem dl_703 : decode code 703 = .ok (.if_icmp .eq 288, 3) := by decide +kernel
theorem dl_706 : decode code 706 = .ok (.iconst 0, 1) := by decide +kernel
theorem dl_707 : decode code 707 = .ok (.ireturn, 1) := by decide +kernel
theorem dl_708 : decode code 708 = .ok (.aload_n 1, 1) := by decide +kernel
theorem dl_709 : decode code 709 = .ok (.aload_n 0, 1) := by decide +kernel
theorem dl_710 : decode code 710 = .ok (.iload_n 3, 1) := by decide +kernel
theorem dl_711 : decode code 711 = .ok (.iconst 1, 1) := by decide +kernel
theorem dl_712 : decode code 712 = .ok (.iadd, 1) := by decide +kernel
theorem dl_713 : decode code 713 = .ok (.iaload, 1) := by decide +kernel
theorem dl_714 : decode code 714 = .ok (.invokevirtual 90, 3) := by decide +kernel
theorem dl_717 : decode code 717 = .ok (.aload_n 2, 1) := by decide +kernel
theorem dl_718 : decode code 718 = .ok (.aload_n 0, 1) := by decide +kernel
theorem dl_719 : decode code 719 = .ok (.iload_n 3, 1) := by decide +kernel
theorem dl_720 : decode code 720 = .ok (.iconst 1, 1) := by decide +kernel
theorem dl_721 : decode code 721 = .ok (.iadd, 1) := by decide +kernel
theorem dl_722 : decode code 722 = .ok (.iaload, 1) := by decide +kernel
theorem dl_723 : decode code 723 = .ok (.invokevirtual 93, 3) := by decide +kernel
theorem dl_726 : decode code 726 = .ok (.if_icmp .eq 265, 3) := by decide +kernel
theorem dl_729 : decode code 729 = .ok (.iconst 0, 1) := by decide +kernel
theorem dl_730 : decode code 730 = .ok (.ireturn, 1) := by decide +kernel
theorem dl_731 : decode code 731 = .ok (.aload_n 1, 1) := by decide +kernel
theorem dl_732 : decode code 732 = .ok (.aload_n 0, 1) := by decide +kernel
theorem dl_733 : decode code 733 = .ok (.iload_n 3, 1) := by decide +kernel
theorem dl_734 : decode code 734 = .ok (.iconst 1, 1) := by decide +kernel
theorem dl_735 : decode code 735 = .ok (.iadd, 1) := by decide +kernel
theorem dl_736 : decode code 736 = .ok (.iaload, 1) := by decide +kernel
theorem dl_737 : decode code 737 = .ok (.invokevirtual 94, 3) := by decide +kernel
theorem dl_740 : decode code 740 = .ok (.aload_n 2, 1) := by decide +kernel
theorem dl_741 : decode code 741 = .ok (.aload_n 0, 1) := by decide +kernel
theorem dl_742 : decode code 742 = .ok (.iload_n 3, 1) := by decide +kernel
theorem dl_743 : decode code 743 = .ok (.iconst 1, 1) := by decide +kernel
theorem dl_744 : decode code 744 = .ok (.iadd, 1) := by decide +kernel
theorem dl_745 : decode code 745 = .ok (.iaload, 1) := by decide +kernel
theorem dl_746 : decode code 746 = .ok (.invokevirtual 97, 3) := by decide +kernel
theorem dl_749 : decode code 749 = .ok (.if_icmp .eq 242, 3) := by decide +kernel
theorem dl_752 : decode code 752 = .ok (.iconst 0, 1) := by decide +kernel
theorem dl_753 : decode code 753 = .ok (.ireturn, 1) := by decide +kernel
theorem dl_754 : decode code 754 = .ok (.aload_n 1, 1) := by decide +kernel
theorem dl_755 : decode code 755 = .ok (.aload_n 0, 1) := by decide +kernel
theorem dl_756 : decode code 756 = .ok (.iload_n 3, 1) := by decide +kernel
theorem dl_757 : decode code 757 = .ok (.iconst 1, 1) := by decide +kernel
theorem dl_758 : decode code 758 = .ok (.iadd, 1) := by decide +kernel
theorem dl_759 : decode code 759 = .ok (.iaload, 1) := by decide +kernel
theorem dl_760 : decode code 760 = .ok (.aload_n 0, 1) := by decide +kernel
theorem dl_761 : decode code 761 = .ok (.iload_n 3, 1) := by decide +kernel
theorem dl_762 : decode code 762 = .ok (.iconst 2, 1) := by decide +kernel
theorem dl_763 : decode code 763 = .ok (.iadd, 1) := by decide +kernel
theorem dl_764 : decode code 764 = .ok (.iaload, 1) := by decide +kernel
theorem dl_765 : decode code 765 = .ok (.invokevirtual 98, 3) := by decide +kernel
theorem dl_768 : decode code 768 = .ok (.aload_n 2, 1) := by decide +kernel
theorem dl_769 : decode code 769 = .ok (.aload_n 0, 1) := by decide +kernel
theorem dl_770 : decode code 770 = .ok (.iload_n 3, 1) := by decide +kernel
theorem dl_771 : decode code 771 = .ok (.iconst 1, 1) := by decide +kernel
theorem dl_772 : decode code 772 = .ok (.iadd, 1) := by decide +kernel
theorem dl_773 : decode code 773 = .ok (.iaload, 1) := by decide +kernel
theorem dl_774 : decode code 774 = .ok (.aload_n 0, 1) := by decide +kernel
theorem dl_775 : decode code 775 = .ok (.iload_n 3, 1) := by decide +kernel
theorem dl_776 : decode code 776 = .ok (.iconst 2, 1) := by decide +kernel
theorem dl_777 : decode code 777 = .ok (.iadd, 1) := by decide +kernel
theorem dl_778 : decode code 778 = .ok (.iaload, 1) := by decide +kernel
theorem dl_779 : decode code 779 = .ok (.invokevirtual 101, 3) := by decide +kernel
theorem dl_782 : decode code 782 = .ok (.if_icmp .eq 209, 3) := by decide +kernel
theorem dl_785 : decode code 785 = .ok (.iconst 0, 1) := by decide +kernel
theorem dl_786 : decode code 786 = .ok (.ireturn, 1) := by decide +kernel
theorem dl_787 : decode code 787 = .ok (.aload_n 1, 1) := by decide +kernel
theorem dl_788 : decode code 788 = .ok (.aload_n 0, 1) := by decide +kernel
theorem dl_789 : decode code 789 = .ok (.iload_n 3, 1) := by decide +kernel
theorem dl_790 : decode code 790 = .ok (.iconst 1, 1) := by decide +kernel
theorem dl_791 : decode code 791 = .ok (.iadd, 1) := by decide +kernel
theorem dl_792 : decode code 792 = .ok (.iaload, 1) := by decide +kernel
theorem dl_793 : decode code 793 = .ok (.aload_n 0, 1) := by decide +kernel
theorem dl_794 : decode code 794 = .ok (.iload_n 3, 1) := by decide +kernel
theorem dl_795 : decode code 795 = .ok (.iconst 2, 1) := by decide +kernel
theorem dl_796 : decode code 796 = .ok (.iadd, 1) := by decide +kernel
theorem dl_797 : decode code 797 = .ok (.iaload, 1) := by decide +kernel
theorem dl_798 : decode code 798 = .ok (.aload_n 0, 1) := by decide +kernel
theorem dl_799 : decode code 799 = .ok (.iload_n 3, 1) := by decide +kernel
theorem dl_800 : decode code 800 = .ok (.iconst 3, 1) := by decide +kernel
theorem dl_801 : decode code 801 = .ok (.iadd, 1) := by decide +kernel
theorem dl_802 : decode code 802 = .ok (.iaload, 1) := by decide +kernel
theorem dl_803 : decode code 803 = .ok (.invokevirtual 102, 3) := by decide +kernel
theorem dl_806 : decode code 806 = .ok (.aload_n 2, 1) := by decide +kernel
theorem dl_807 : decode code 807 = .ok (.aload_n 0, 1) := by decide +kernel
theorem dl_808 : decode code 808 = .ok (.iload_n 3, 1) := by decide +kernel
theorem dl_809 : decode code 809 = .ok (.iconst 1, 1) := by decide +kernel
theorem dl_810 : decode code 810 = .ok (.iadd, 1) := by decide +kernel
theorem dl_811 : decode code 811 = .ok (.iaload, 1) := by decide +kernel
theorem dl_812 : decode code 812 = .ok (.aload_n 0, 1) := by decide +kernel
theorem dl_813 : decode code 813 = .ok (.iload_n 3, 1) := by decide +kernel
theorem dl_814 : decode code 814 = .ok (.iconst 2, 1) := by decide +kernel
theorem dl_815 : decode code 815 = .ok (.iadd, 1) := by decide +kernel
theorem dl_816 : decode code 816 = .ok (.iaload, 1) := by decide +kernel
theorem dl_817 : decode code 817 = .ok (.aload_n 0, 1) := by decide +kernel
theorem dl_818 : decode code 818 = .ok (.iload_n 3, 1) := by decide +kernel
theorem dl_819 : decode code 819 = .ok (.iconst 3, 1) := by decide +kernel
theorem dl_820 : decode code 820 = .ok (.iadd, 1) := by decide +kernel
theorem dl_821 : decode code 821 = .ok (.iaload, 1) := by decide +kernel
theorem dl_822 : decode code 822 = .ok (.invokevirtual 105, 3) := by decide +kernel
theorem dl_825 : decode code 825 = .ok (.if_icmp .eq 166, 3) := by decide +kernel
theorem dl_828 : decode code 828 = .ok (.iconst 0, 1) := by decide +kernel
theorem dl_829 : decode code 829 = .ok (.ireturn, 1) := by decide +kernel
theorem dl_830 : decode code 830 = .ok (.aload_n 1, 1) := by decide +kernel
theorem dl_831 : decode code 831 = .ok (.aload_n 0, 1) := by decide +kernel
theorem dl_832 : decode code 832 = .ok (.iload_n 3, 1) := by decide +kernel
theorem dl_833 : decode code 833 = .ok (.iconst 1, 1) := by decide +kernel
theorem dl_834 : decode code 834 = .ok (.iadd, 1) := by decide +kernel
theorem dl_835 : decode code 835 = .ok (.iaload, 1) := by decide +kernel
theorem dl_836 : decode code 836 = .ok (.invokevirtual 106, 3) := by decide +kernel
theorem dl_839 : decode code 839 = .ok (.aload_n 2, 1) := by decide +kernel
theorem dl_840 : decode code 840 = .ok (.aload_n 0, 1) := by decide +kernel
theorem dl_841 : decode code 841 = .ok (.iload_n 3, 1) := by decide +kernel
theorem dl_842 : decode code 842 = .ok (.iconst 1, 1) := by decide +kernel
theorem dl_843 : decode code 843 = .ok (.iadd, 1) := by decide +kernel
theorem dl_844 : decode code 844 = .ok (.iaload, 1) := by decide +kernel
theorem dl_845 : decode code 845 = .ok (.invokevirtual 109, 3) := by decide +kernel
theorem dl_848 : decode code 848 = .ok (.if_icmp .eq 143, 3) := by decide +kernel
theorem dl_851 : decode code 851 = .ok (.iconst 0, 1) := by decide +kernel
theorem dl_852 : decode code 852 = .ok (.ireturn, 1) := by decide +kernel
theorem dl_853 : decode code 853 = .ok (.aload_n 1, 1) := by decide +kernel
theorem dl_854 : decode code 854 = .ok (.aload_n 0, 1) := by decide +kernel
theorem dl_855 : decode code 855 = .ok (.iload_n 3, 1) := by decide +kernel
theorem dl_856 : decode code 856 = .ok (.iconst 1, 1) := by decide +kernel
theorem dl_857 : decode code 857 = .ok (.iadd, 1) := by decide +kernel
theorem dl_858 : decode code 858 = .ok (.iaload, 1) := by decide +kernel
theorem dl_859 : decode code 859 = .ok (.aload_n 0, 1) := by decide +kernel
theorem dl_860 : decode code 860 = .ok (.iload_n 3, 1) := by decide +kernel
theorem dl_861 : decode code 861 = .ok (.iconst 2, 1) := by decide +kernel
theorem dl_862 : decode code 862 = .ok (.iadd, 1) := by decide +kernel
theorem dl_863 : decode code 863 = .ok (.iaload, 1) := by decide +kernel
theorem dl_864 : decode code 864 = .ok (.aload_n 0, 1) := by decide +kernel
theorem dl_865 : decode code 865 = .ok (.iload_n 3, 1) := by decide +kernel
theorem dl_866 : decode code 866 = .ok (.iconst 3, 1) := by decide +kernel
theorem dl_867 : decode code 867 = .ok (.iadd, 1) := by decide +kernel
theorem dl_868 : decode code 868 = .ok (.iaload, 1) := by decide +kernel
theorem dl_869 : decode code 869 = .ok (.invokevirtual 110, 3) := by decide +kernel
theorem dl_872 : decode code 872 = .ok (.aload_n 2, 1) := by decide +kernel
theorem dl_873 : decode code 873 = .ok (.aload_n 0, 1) := by decide +kernel
theorem dl_874 : decode code 874 = .ok (.iload_n 3, 1) := by decide +kernel
theorem dl_875 : decode code 875 = .ok (.iconst 1, 1) := by decide +kernel
theorem dl_876 : decode code 876 = .ok (.iadd, 1) := by decide +kernel
theorem dl_877 : decode code 877 = .ok (.iaload, 1) := by decide +kernel
theorem dl_878 : decode code 878 = .ok (.aload_n 0, 1) := by decide +kernel
theorem dl_879 : decode code 879 = .ok (.iload_n 3, 1) := by decide +kernel
theorem dl_880 : decode code 880 = .ok (.iconst 2, 1) := by decide +kernel
theorem dl_881 : decode code 881 = .ok (.iadd, 1) := by decide +kernel
theorem dl_882 : decode code 882 = .ok (.iaload, 1) := by decide +kernel
theorem dl_883 : decode code 883 = .ok (.aload_n 0, 1) := by decide +kernel
theorem dl_884 : decode code 884 = .ok (.iload_n 3, 1) := by decide +kernel
theorem dl_885 : decode code 885 = .ok (.iconst 3, 1) := by decide +kernel
theorem dl_886 : decode code 886 = .ok (.iadd, 1) := by decide +kernel
theorem dl_887 : decode code 887 = .ok (.iaload, 1) := by decide +kernel
theorem dl_888 : decode code 888 = .ok (.invokevirtual 113, 3) := by decide +kernel
theorem dl_891 : decode code 891 = .ok (.if_icmp .eq 100, 3) := by decide +kernel
theorem dl_894 : decode code 894 = .ok (.iconst 0, 1) := by decide +kernel
theorem dl_895 : decode code 895 = .ok (.ireturn, 1) := by decide +kernel
theorem dl_896 : decode code 896 = .ok (.aload_n 1, 1) := by decide +kernel
theorem dl_897 : decode code 897 = .ok (.aload_n 0, 1) := by decide +kernel
theorem dl_898 : decode code 898 = .ok (.iload_n 3, 1) := by decide +kernel
theorem dl_899 : decode code 899 = .ok (.iconst 1, 1) := by decide +kernel
theorem dl_900 : decode code 900 = .ok (.iadd, 1) := by decide +kernel
theorem dl_901 : decode code 901 = .ok (.iaload, 1) := by decide +kernel
theorem dl_902 : decode code 902 = .ok (.invokevirtual 114, 3) := by decide +kernel
theorem dl_905 : decode code 905 = .ok (.aload_n 2, 1) := by decide +kernel
theorem dl_906 : decode code 906 = .ok (.aload_n 0, 1) := by decide +kernel
theorem dl_907 : decode code 907 = .ok (.iload_n 3, 1) := by decide +kernel
theorem dl_908 : decode code 908 = .ok (.iconst 1, 1) := by decide +kernel
theorem dl_909 : decode code 909 = .ok (.iadd, 1) := by decide +kernel
theorem dl_910 : decode code 910 = .ok (.iaload, 1) := by decide +kernel
theorem dl_911 : decode code 911 = .ok (.invokevirtual 118, 3) := by decide +kernel
theorem dl_914 : decode code 914 = .ok (.if_icmp .eq 77, 3) := by decide +kernel
theorem dl_917 : decode code 917 = .ok (.iconst 0, 1) := by decide +kernel
theorem dl_918 : decode code 918 = .ok (.ireturn, 1) := by decide +kernel
theorem dl_919 : decode code 919 = .ok (.aload_n 1, 1) := by decide +kernel
theorem dl_920 : decode code 920 = .ok (.invokevirtual 119, 3) := by decide +kernel
theorem dl_923 : decode code 923 = .ok (.aload_n 2, 1) := by decide +kernel
theorem dl_924 : decode code 924 = .ok (.invokevirtual 122, 3) := by decide +kernel
theorem dl_927 : decode code 927 = .ok (.if_icmp .eq 64, 3) := by decide +kernel
theorem dl_930 : decode code 930 = .ok (.iconst 0, 1) := by decide +kernel
theorem dl_931 : decode code 931 = .ok (.ireturn, 1) := by decide +kernel
theorem dl_932 : decode code 932 = .ok (.aload_n 1, 1) := by decide +kernel
theorem dl_933 : decode code 933 = .ok (.invokevirtual 123, 3) := by decide +kernel
theorem dl_936 : decode code 936 = .ok (.aload_n 2, 1) := by decide +kernel
theorem dl_937 : decode code 937 = .ok (.invokevirtual 127, 3) := by decide +kernel
theorem dl_940 : decode code 940 = .ok (.if_icmp .eq 51, 3) := by decide +kernel
theorem dl_943 : decode code 943 = .ok (.iconst 0, 1) := by decide +kernel
theorem dl_944 : decode code 944 = .ok (.ireturn, 1) := by decide +kernel
theorem dl_945 : decode code 945 = .ok (.aload_n 1, 1) := by decide +kernel
theorem dl_946 : decode code 946 = .ok (.aload_n 0, 1) := by decide +kernel
theorem dl_947 : decode code 947 = .ok (.iload_n 3, 1) := by decide +kernel
theorem dl_948 : decode code 948 = .ok (.iconst 1, 1) := by decide +kernel
theorem dl_949 : decode code 949 = .ok (.iadd, 1) := by decide +kernel
theorem dl_950 : decode code 950 = .ok (.iaload, 1) := by decide +kernel
theorem dl_951 : decode code 951 = .ok (.invokevirtual 128, 3) := by decide +kernel
theorem dl_954 : decode code 954 = .ok (.aload_n 2, 1) := by decide +kernel
theorem dl_955 : decode code 955 = .ok (.aload_n 0, 1) := by decide +kernel
theorem dl_956 : decode code 956 = .ok (.iload_n 3, 1) := by decide +kernel
theorem dl_957 : decode code 957 = .ok (.iconst 1, 1) := by decide +kernel
theorem dl_958 : decode code 958 = .ok (.iadd, 1) := by decide +kernel
theorem dl_959 : decode code 959 = .ok (.iaload, 1) := by decide +kernel
theorem dl_960 : decode code 960 = .ok (.invokevirtual 131, 3) := by decide +kernel
theorem dl_963 : decode code 963 = .ok (.if_icmp .eq 28, 3) := by decide +kernel
theorem dl_966 : decode code 966 = .ok (.iconst 0, 1) := by decide +kernel
theorem dl_967 : decode code 967 = .ok (.ireturn, 1) := by decide +kernel
theorem dl_968 : decode code 968 = .ok (.aload_n 1, 1) := by decide +kernel
theorem dl_969 : decode code 969 = .ok (.aload_n 0, 1) := by decide +kernel
theorem dl_970 : decode code 970 = .ok (.iload_n 3, 1) := by decide +kernel
theorem dl_971 : decode code 971 = .ok (.iconst 1, 1) := by decide +kernel
theorem dl_972 : decode code 972 = .ok (.iadd, 1) := by decide +kernel
theorem dl_973 : decode code 973 = .ok (.iaload, 1) := by decide +kernel
theorem dl_974 : decode code 974 = .ok (.invokevirtual 132, 3) := by decide +kernel
theorem dl_977 : decode code 977 = .ok (.aload_n 2, 1) := by decide +kernel
theorem dl_978 : decode code 978 = .ok (.aload_n 0, 1) := by decide +kernel
theorem dl_979 : decode code 979 = .ok (.iload_n 3, 1) := by decide +kernel
theorem dl_980 : decode code 980 = .ok (.iconst 1, 1) := by decide +kernel
theorem dl_981 : decode code 981 = .ok (.iadd, 1) := by decide +kernel
theorem dl_982 : decode code 982 = .ok (.iaload, 1) := by decide +kernel
theorem dl_983 : decode code 983 = .ok (.invokevirtual 135, 3) := by decide +kernel
theorem dl_986 : decode code 986 = .ok (.if_icmp .eq 5, 3) := by decide +kernel
theorem dl_989 : decode code 989 = .ok (.iconst 0, 1) := by decide +kernel
theorem dl_990 : decode code 990 = .ok (.ireturn, 1) := by decide +kernel
theorem dl_991 : decode code 991 = .ok (.iinc 3 6, 3) := by decide +kernel
theorem dl_994 : decode code 994 = .ok (.goto (-976), 3) := by decide +kernel
theorem dl_997 : decode code 997 = .ok (.iconst 1, 1) := by decide +kernel
theorem dl_998 : decode code 998 = .ok (.ireturn, 1) := by decide +kernel
theorem cl_law_13 : CLV R_law 13 10 yX10_feed mX10_feed 5 := ⟨⟨tb_in 491 (by decide +kernel) rfl, tb_in 494 (by decide +kernel) rfl, tb_in 99 (by decide +kernel) rfl, by decide +kernel⟩, tb_in 492 (by decide +kernel) rfl, _, rfl, tb_in 493 (by decide +kernel) rfl⟩
theorem cl_law_17 : CLV R_law 17 11 yX11_feed mX11_feed 5 := ⟨⟨tb_in 1305 (by decide +kernel) rfl, tb_in 1308 (by decide +kernel) rfl, tb_in 110 (by decide +kernel) rfl, by decide +kernel⟩, tb_in 1306 (by decide +kernel) rfl, _, rfl, tb_in 1307 (by decide +kernel) rfl⟩
theorem cl_law_18 : CLV R_law 18 10 yX10_law mX10_law 1 := ⟨⟨tb_in 499 (by decide +kernel) rfl, tb_in 502 (by decide +kernel) rfl, tb_in 99 (by decide +kernel) rfl, by decide +kernel⟩, tb_in 500 (by decide +kernel) rfl, _, rfl, tb_in 501 (by decide +kernel) rfl⟩
theorem cl_law_22 : CLV R_law 22 11 yX11_law mX11_law 1 := ⟨⟨tb_in 1313 (by decide +kernel) rfl, tb_in 1316 (by decide +kernel) rfl, tb_in 110 (by decide +kernel) rfl, by decide +kernel⟩, tb_in 1314 (by decide +kernel) rfl, _, rfl, tb_in 1315 (by decide +kernel) rfl⟩
theorem cl_law_23 : CLV R_law 23 10 yX10_town mX10_town 1 := ⟨⟨tb_in 659 (by decide +kernel) rfl, tb_in 662 (by decide +kernel) rfl, tb_in 99 (by decide +kernel) rfl, by decide +kernel⟩, tb_in 660 (by decide +kernel) rfl, _, rfl, tb_in 661 (by decide +kernel) rfl⟩
theorem cl_law_26 : CLV R_law 26 11 yX11_town mX11_town 1 := ⟨⟨tb_in 1403 (by decide +kernel) rfl, tb_in 1406 (by decide +kernel) rfl, tb_in 110 (by decide +kernel) rfl, by decide +kernel⟩, tb_in 1404 (by decide +kernel) rfl, _, rfl, tb_in 1405 (by decide +kernel) rfl⟩
theorem cl_law_27 : CLV R_law 27 10 yX10_orders mX10_orders 1 := ⟨⟨tb_in 702 (by decide +kernel) rfl, tb_in 705 (by decide +kernel) rfl, tb_in 99 (by decide +kernel) rfl, by decide +kernel⟩, tb_in 703 (by decide +kernel) rfl, _, rfl, tb_in 704 (by decide +kernel) rfl⟩
theorem cl_law_30 : CLV R_law 30 11 yX11_orders mX11_orders 1 := ⟨⟨tb_in 1423 (by decide +kernel) rfl, tb_in 1426 (by decide +kernel) rfl, tb_in 110 (by decide +kernel) rfl, by decide +kernel⟩, tb_in 1424 (by decide +kernel) rfl, _, rfl, tb_in 1425 (by decide +kernel) rfl⟩
theorem cl_law_31 : CLV R_law 31 10 yX10_minutes mX10_minutes 1 := ⟨⟨tb_in 750 (by decide +kernel) rfl, tb_in 753 (by decide +kernel) rfl, tb_in 99 (by decide +kernel) rfl, by decide +kernel⟩, tb_in 751 (by decide +kernel) rfl, _, rfl, tb_in 752 (by decide +kernel) rfl⟩
theorem cl_law_34 : CLV R_law 34 11 yX11_minutes mX11_minutes 1 := ⟨⟨tb_in 1455 (by decide +kernel) rfl, tb_in 1458 (by decide +kernel) rfl, tb_in 110 (by decide +kernel) rfl, by decide +kernel⟩, tb_in 1456 (by decide +kernel) rfl, _, rfl, tb_in 1457 (by decide +kernel) rfl⟩
theorem cl_law_35 : CLV R_law 35 10 yX10_tried mX10_tried 2 := ⟨⟨tb_in 822 (by decide +kernel) rfl, tb_in 825 (by decide +kernel) rfl, tb_in 99 (by decide +kernel) rfl, by decide +kernel⟩, tb_in 823 (by decide +kernel) rfl, _, rfl, tb_in 824 (by decide +kernel) rfl⟩
theorem cl_law_39 : CLV R_law 39 11 yX11_tried mX11_tried 2 := ⟨⟨tb_in 1523 (by decide +kernel) rfl, tb_in 1526 (by decide +kernel) rfl, tb_in 110 (by decide +kernel) rfl, by decide +kernel⟩, tb_in 1524 (by decide +kernel) rfl, _, rfl, tb_in 1525 (by decide +kernel) rfl⟩
theorem cl_law_40 : CLV R_law 40 10 yX10_cornerIs mX10_cornerIs 2 := ⟨⟨tb_in 836 (by decide +kernel) rfl, tb_in 839 (by decide +kernel) rfl, tb_in 99 (by decide +kernel) rfl, by decide +kernel⟩, tb_in 837 (by decide +kernel) rfl, _, rfl, tb_in 838 (by decide +kernel) rfl⟩
theorem cl_law_43 : CLV R_law 43 11 yX11_cornerIs mX11_cornerIs 2 := ⟨⟨tb_in 1535 (by decide +kernel) rfl, tb_in 1538 (by decide +kernel) rfl, tb_in 110 (by decide +kernel) rfl, by decide +kernel⟩, tb_in 1536 (by decide +kernel) rfl, _, rfl, tb_in 1537 (by decide +kernel) rfl⟩
theorem cl_law_44 : CLV R_law 44 10 yX10_pipeIs mX10_pipeIs 2 := ⟨⟨tb_in 845 (by decide +kernel) rfl, tb_in 848 (by decide +kernel) rfl, tb_in 99 (by decide +kernel) rfl, by decide +kernel⟩, tb_in 846 (by decide +kernel) rfl, _, rfl, tb_in 847 (by decide +kernel) rfl⟩
theorem cl_law_47 : CLV R_law 47 11 yX11_pipeIs mX11_pipeIs 2 := ⟨⟨tb_in 1539 (by decide +kernel) rfl, tb_in 1542 (by decide +kernel) rfl, tb_in 110 (by decide +kernel) rfl, by decide +kernel⟩, tb_in 1540 (by decide +kernel) rfl, _, rfl, tb_in 1541 (by decide +kernel) rfl⟩
theorem cl_law_48 : CLV R_law 48 10 yX10_dry mX10_dry 2 := ⟨⟨tb_in 849 (by decide +kernel) rfl, tb_in 852 (by decide +kernel) rfl, tb_in 99 (by decide +kernel) rfl, by decide +kernel⟩, tb_in 850 (by decide +kernel) rfl, _, rfl, tb_in 851 (by decide +kernel) rfl⟩
theorem cl_law_51 : CLV R_law 51 11 yX11_dry mX11_dry 2 := ⟨⟨tb_in 1531 (by decide +kernel) rfl, tb_in 1534 (by decide +kernel) rfl, tb_in 110 (by decide +kernel) rfl, by decide +kernel⟩, tb_in 1532 (by decide +kernel) rfl, _, rfl, tb_in 1533 (by decide +kernel) rfl⟩
theorem cl_law_52 : CLV R_law 52 10 yX10_most mX10_most 3 := ⟨⟨tb_in 853 (by decide +kernel) rfl, tb_in 856 (by decide +kernel) rfl, tb_in 99 (by decide +kernel) rfl, by decide +kernel⟩, tb_in 854 (by decide +kernel) rfl, _, rfl, tb_in 855 (by decide +kernel) rfl⟩
theorem cl_law_56 : CLV R_law 56 11 yX11_most mX11_most 3 := ⟨⟨tb_in 1543 (by decide +kernel) rfl, tb_in 1546 (by decide +kernel) rfl, tb_in 110 (by decide +kernel) rfl, by decide +kernel⟩, tb_in 1544 (by decide +kernel) rfl, _, rfl, tb_in 1545 (by decide +kernel) rfl⟩
theorem cl_law_57 : CLV R_law 57 10 yX10_cut mX10_cut 2 := ⟨⟨tb_in 880 (by decide +kernel) rfl, tb_in 883 (by decide +kernel) rfl, tb_in 99 (by decide +kernel) rfl, by decide +kernel⟩, tb_in 881 (by decide +kernel) rfl, _, rfl, tb_in 882 (by decide +kernel) rfl⟩
theorem cl_law_60 : CLV R_law 60 11 yX11_cut mX11_cut 2 := ⟨⟨tb_in 1568 (by decide +kernel) rfl, tb_in 1571 (by decide +kernel) rfl, tb_in 110 (by decide +kernel) rfl, by decide +kernel⟩, tb_in 1569 (by decide +kernel) rfl, _, rfl, tb_in 1570 (by decide +kernel) rfl⟩
theorem cl_law_61 : CLV R_law 61 10 yX10_widest mX10_widest 2 := ⟨⟨tb_in 884 (by decide +kernel) rfl, tb_in 887 (by decide +kernel) rfl, tb_in 99 (by decide +kernel) rfl, by decide +kernel⟩, tb_in 885 (by decide +kernel) rfl, _, rfl, tb_in 886 (by decide +kernel) rfl⟩
theorem cl_law_64 : CLV R_law 64 11 yX11_widest mX11_widest 2 := ⟨⟨tb_in 1572 (by decide +kernel) rfl, tb_in 1575 (by decide +kernel) rfl, tb_in 110 (by decide +kernel) rfl, by decide +kernel⟩, tb_in 1573 (by decide +kernel) rfl, _, rfl, tb_in 1574 (by decide +kernel) rfl⟩
theorem cl_law_65 : CLV R_law 65 10 yX10_steps mX10_steps 2 := ⟨⟨tb_in 900 (by decide +kernel) rfl, tb_in 903 (by decide +kernel) rfl, tb_in 99 (by decide +kernel) rfl, by decide +kernel⟩, tb_in 901 (by decide +kernel) rfl, _, rfl, tb_in 902 (by decide +kernel) rfl⟩
theorem cl_law_68 : CLV R_law 68 11 yX11_steps mX11_steps 2 := ⟨⟨tb_in 1580 (by decide +kernel) rfl, tb_in 1583 (by decide +kernel) rfl, tb_in 110 (by decide +kernel) rfl, by decide +kernel⟩, tb_in 1581 (by decide +kernel) rfl, _, rfl, tb_in 1582 (by decide +kernel) rfl⟩
theorem cl_law_69 : CLV R_law 69 10 yX10_bridges mX10_bridges 1 := ⟨⟨tb_in 925 (by decide +kernel) rfl, tb_in 928 (by decide +kernel) rfl, tb_in 99 (by decide +kernel) rfl, by decide +kernel⟩, tb_in 926 (by decide +kernel) rfl, _, rfl, tb_in 927 (by decide +kernel) rfl⟩
theorem cl_law_72 : CLV R_law 72 11 yX11_bridges mX11_bridges 1 := ⟨⟨tb_in 1592 (by decide +kernel) rfl, tb_in 1595 (by decide +kernel) rfl, tb_in 110 (by decide +kernel) rfl, by decide +kernel⟩, tb_in 1593 (by decide +kernel) rfl, _, rfl, tb_in 1594 (by decide +kernel) rfl⟩
theorem cl_law_73 : CLV R_law 73 10 yX10_brigades mX10_brigades 2 := ⟨⟨tb_in 936 (by decide +kernel) rfl, tb_in 939 (by decide +kernel) rfl, tb_in 99 (by decide +kernel) rfl, by decide +kernel⟩, tb_in 937 (by decide +kernel) rfl, _, rfl, tb_in 938 (by decide +kernel) rfl⟩
theorem cl_law_76 : CLV R_law 76 11 yX11_brigades mX11_brigades 2 := ⟨⟨tb_in 1596 (by decide +kernel) rfl, tb_in 1599 (by decide +kernel) rfl, tb_in 110 (by decide +kernel) rfl, by decide +kernel⟩, tb_in 1597 (by decide +kernel) rfl, _, rfl, tb_in 1598 (by decide +kernel) rfl⟩
theorem cl_law_77 : CLV R_law 77 10 yX10_painted mX10_painted 1 := ⟨⟨tb_in 962 (by decide +kernel) rfl, tb_in 965 (by decide +kernel) rfl, tb_in 99 (by decide +kernel) rfl, by decide +kernel⟩, tb_in 963 (by decide +kernel) rfl, _, rfl, tb_in 964 (by decide +kernel) rfl⟩
theorem cl_law_80 : CLV R_law 80 11 yX11_painted mX11_painted 1 := ⟨⟨tb_in 1611 (by decide +kernel) rfl, tb_in 1614 (by decide +kernel) rfl, tb_in 110 (by decide +kernel) rfl, by decide +kernel⟩, tb_in 1612 (by decide +kernel) rfl, _, rfl, tb_in 1613 (by decide +kernel) rfl⟩
theorem cl_law_81 : CLV R_law 81 10 yX10_keptOpen mX10_keptOpen 0 := ⟨⟨tb_in 998 (by decide +kernel) rfl, tb_in 1001 (by decide +kernel) rfl, tb_in 99 (by decide +kernel) rfl, by decide +kernel⟩, tb_in 999 (by decide +kernel) rfl, _, rfl, tb_in 1000 (by decide +kernel) rfl⟩
theorem cl_law_85 : CLV R_law 85 11 yX11_keptOpen mX11_keptOpen 0 := ⟨⟨tb_in 1619 (by decide +kernel) rfl, tb_in 1622 (by decide +kernel) rfl, tb_in 110 (by decide +kernel) rfl, by decide +kernel⟩, tb_in 1620 (by decide +kernel) rfl, _, rfl, tb_in 1621 (by decide +kernel) rfl⟩
theorem cl_law_86 : CLV R_law 86 10 yX10_farthest mX10_farthest 1 := ⟨⟨tb_in 1014 (by decide +kernel) rfl, tb_in 1017 (by decide +kernel) rfl, tb_in 99 (by decide +kernel) rfl, by decide +kernel⟩, tb_in 1015 (by decide +kernel) rfl, _, rfl, tb_in 1016 (by decide +kernel) rfl⟩
theorem cl_law_89 : CLV R_law 89 11 yX11_farthest mX11_farthest 1 := ⟨⟨tb_in 1623 (by decide +kernel) rfl, tb_in 1626 (by decide +kernel) rfl, tb_in 110 (by decide +kernel) rfl, by decide +kernel⟩, tb_in 1624 (by decide +kernel) rfl, _, rfl, tb_in 1625 (by decide +kernel) rfl⟩
theorem cl_law_90 : CLV R_law 90 10 yX10_ring mX10_ring 1 := ⟨⟨tb_in 1023 (by decide +kernel) rfl, tb_in 1026 (by decide +kernel) rfl, tb_in 99 (by decide +kernel) rfl, by decide +kernel⟩, tb_in 1024 (by decide +kernel) rfl, _, rfl, tb_in 1025 (by decide +kernel) rfl⟩
theorem cl_law_93 : CLV R_law 93 11 yX11_ring mX11_ring 1 := ⟨⟨tb_in 1627 (by decide +kernel) rfl, tb_in 1630 (by decide +kernel) rfl, tb_in 110 (by decide +kernel) rfl, by decide +kernel⟩, tb_in 1628 (by decide +kernel) rfl, _, rfl, tb_in 1629 (by decide +kernel) rfl⟩
theorem cl_law_94 : CLV R_law 94 10 yX10_highest mX10_highest 1 := ⟨⟨tb_in 1032 (by decide +kernel) rfl, tb_in 1035 (by decide +kernel) rfl, tb_in 99 (by decide +kernel) rfl, by decide +kernel⟩, tb_in 1033 (by decide +kernel) rfl, _, rfl, tb_in 1034 (by decide +kernel) rfl⟩
theorem cl_law_97 : CLV R_law 97 11 yX11_highest mX11_highest 1 := ⟨⟨tb_in 1631 (by decide +kernel) rfl, tb_in 1634 (by decide +kernel) rfl, tb_in 110 (by decide +kernel) rfl, by decide +kernel⟩, tb_in 1632 (by decide +kernel) rfl, _, rfl, tb_in 1633 (by decide +kernel) rfl⟩
theorem cl_law_98 : CLV R_law 98 10 yX10_longest mX10_longest 2 := ⟨⟨tb_in 1036 (by decide +kernel) rfl, tb_in 1039 (by decide +kernel) rfl, tb_in 99 (by decide +kernel) rfl, by decide +kernel⟩, tb_in 1037 (by decide +kernel) rfl, _, rfl, tb_in 1038 (by decide +kernel) rfl⟩
theorem cl_law_101 : CLV R_law 101 11 yX11_longest mX11_longest 2 := ⟨⟨tb_in 1635 (by decide +kernel) rfl, tb_in 1638 (by decide +kernel) rfl, tb_in 110 (by decide +kernel) rfl, by decide +kernel⟩, tb_in 1636 (by decide +kernel) rfl, _, rfl, tb_in 1637 (by decide +kernel) rfl⟩
theorem cl_law_102 : CLV R_law 102 10 yX10_byEighths mX10_byEighths 3 := ⟨⟨tb_in 1047 (by decide +kernel) rfl, tb_in 1050 (by decide +kernel) rfl, tb_in 99 (by decide +kernel) rfl, by decide +kernel⟩, tb_in 1048 (by decide +kernel) rfl, _, rfl, tb_in 1049 (by decide +kernel) rfl⟩
theorem cl_law_105 : CLV R_law 105 11 yX11_byEighths mX11_byEighths 3 := ⟨⟨tb_in 1642 (by decide +kernel) rfl, tb_in 1645 (by decide +kernel) rfl, tb_in 110 (by decide +kernel) rfl, by decide +kernel⟩, tb_in 1643 (by decide +kernel) rfl, _, rfl, tb_in 1644 (by decide +kernel) rfl⟩
theorem cl_law_106 : CLV R_law 106 10 yX10_readings mX10_readings 1 := ⟨⟨tb_in 1072 (by decide +kernel) rfl, tb_in 1075 (by decide +kernel) rfl, tb_in 99 (by decide +kernel) rfl, by decide +kernel⟩, tb_in 1073 (by decide +kernel) rfl, _, rfl, tb_in 1074 (by decide +kernel) rfl⟩
theorem cl_law_109 : CLV R_law 109 11 yX11_readings mX11_readings 1 := ⟨⟨tb_in 1654 (by decide +kernel) rfl, tb_in 1657 (by decide +kernel) rfl, tb_in 110 (by decide +kernel) rfl, by decide +kernel⟩, tb_in 1655 (by decide +kernel) rfl, _, rfl, tb_in 1656 (by decide +kernel) rfl⟩
theorem cl_law_110 : CLV R_law 110 10 yX10_hose mX10_hose 3 := ⟨⟨tb_in 1077 (by decide +kernel) rfl, tb_in 1080 (by decide +kernel) rfl, tb_in 99 (by decide +kernel) rfl, by decide +kernel⟩, tb_in 1078 (by decide +kernel) rfl, _, rfl, tb_in 1079 (by decide +kernel) rfl⟩
theorem cl_law_113 : CLV R_law 113 11 yX11_hose mX11_hose 3 := ⟨⟨tb_in 1658 (by decide +kernel) rfl, tb_in 1661 (by decide +kernel) rfl, tb_in 110 (by decide +kernel) rfl, by decide +kernel⟩, tb_in 1659 (by decide +kernel) rfl, _, rfl, tb_in 1660 (by decide +kernel) rfl⟩
theorem cl_law_114 : CLV R_law 114 10 yX10_seed mX10_seed 1 := ⟨⟨tb_in 1083 (by decide +kernel) rfl, tb_in 1086 (by decide +kernel) rfl, tb_in 99 (by decide +kernel) rfl, by decide +kernel⟩, tb_in 1084 (by decide +kernel) rfl, _, rfl, tb_in 1085 (by decide +kernel) rfl⟩
theorem cl_law_118 : CLV R_law 118 11 yX11_seed mX11_seed 1 := ⟨⟨tb_in 1662 (by decide +kernel) rfl, tb_in 1665 (by decide +kernel) rfl, tb_in 110 (by decide +kernel) rfl, by decide +kernel⟩, tb_in 1663 (by decide +kernel) rfl, _, rfl, tb_in 1664 (by decide +kernel) rfl⟩
theorem cl_law_119 : CLV R_law 119 10 yX10_keep mX10_keep 0 := ⟨⟨tb_in 1088 (by decide +kernel) rfl, tb_in 1091 (by decide +kernel) rfl, tb_in 99 (by decide +kernel) rfl, by decide +kernel⟩, tb_in 1089 (by decide +kernel) rfl, _, rfl, tb_in 1090 (by decide +kernel) rfl⟩
theorem cl_law_122 : CLV R_law 122 11 yX11_keep mX11_keep 0 := ⟨⟨tb_in 1667 (by decide +kernel) rfl, tb_in 1670 (by decide +kernel) rfl, tb_in 110 (by decide +kernel) rfl, by decide +kernel⟩, tb_in 1668 (by decide +kernel) rfl, _, rfl, tb_in 1669 (by decide +kernel) rfl⟩
theorem cl_law_123 : CLV R_law 123 10 yX10_undo mX10_undo 0 := ⟨⟨tb_in 1092 (by decide +kernel) rfl, tb_in 1095 (by decide +kernel) rfl, tb_in 99 (by decide +kernel) rfl, by decide +kernel⟩, tb_in 1093 (by decide +kernel) rfl, _, rfl, tb_in 1094 (by decide +kernel) rfl⟩
theorem cl_law_127 : CLV R_law 127 11 yX11_undo mX11_undo 0 := ⟨⟨tb_in 1671 (by decide +kernel) rfl, tb_in 1674 (by decide +kernel) rfl, tb_in 110 (by decide +kernel) rfl, by decide +kernel⟩, tb_in 1672 (by decide +kernel) rfl, _, rfl, tb_in 1673 (by decide +kernel) rfl⟩
theorem cl_law_128 : CLV R_law 128 10 yX10_check mX10_check 1 := ⟨⟨tb_in 1101 (by decide +kernel) rfl, tb_in 1104 (by decide +kernel) rfl, tb_in 99 (by decide +kernel) rfl, by decide +kernel⟩, tb_in 1102 (by decide +kernel) rfl, _, rfl, tb_in 1103 (by decide +kernel) rfl⟩
theorem cl_law_131 : CLV R_law 131 11 yX11_check mX11_check 1 := ⟨⟨tb_in 1675 (by decide +kernel) rfl, tb_in 1678 (by decide +kernel) rfl, tb_in 110 (by decide +kernel) rfl, by decide +kernel⟩, tb_in 1676 (by decide +kernel) rfl, _, rfl, tb_in 1677 (by decide +kernel) rfl⟩
theorem cl_law_132 : CLV R_law 132 10 yX10_count mX10_count 1 := ⟨⟨tb_in 1105 (by decide +kernel) rfl, tb_in 1108 (by decide +kernel) rfl, tb_in 99 (by decide +kernel) rfl, by decide +kernel⟩, tb_in 1106 (by decide +kernel) rfl, _, rfl, tb_in 1107 (by decide +kernel) rfl⟩
theorem cl_law_135 : CLV R_law 135 11 yX11_count mX11_count 1 := ⟨⟨tb_in 1679 (by decide +kernel) rfl, tb_in 1682 (by decide +kernel) rfl, tb_in 110 (by decide +kernel) rfl, by decide +kernel⟩, tb_in 1680 (by decide +kernel) rfl, _, rfl, tb_in 1681 (by decide +kernel) rfl⟩
