theorem d_law_243 : decode b_law 243 = .ok (.aload_n 1, 1) := by decide +kernel
theorem d_law_244 : decode b_law 244 = .ok (.invokevirtual 28, 3) := by decide +kernel
theorem d_law_247 : decode b_law 247 = .ok (.aload_n 2, 1) := by decide +kernel
theorem d_law_248 : decode b_law 248 = .ok (.invokevirtual 31, 3) := by decide +kernel
theorem d_law_251 : decode b_law 251 = .ok (.if_icmp .eq 452, 3) := by decide +kernel
theorem d_law_256 : decode b_law 256 = .ok (.aload_n 1, 1) := by decide +kernel
theorem d_law_257 : decode b_law 257 = .ok (.invokevirtual 32, 3) := by decide +kernel
theorem d_law_260 : decode b_law 260 = .ok (.aload_n 2, 1) := by decide +kernel
theorem d_law_261 : decode b_law 261 = .ok (.invokevirtual 35, 3) := by decide +kernel
theorem d_law_264 : decode b_law 264 = .ok (.if_icmp .eq 439, 3) := by decide +kernel
theorem d_law_269 : decode b_law 269 = .ok (.aload_n 1, 1) := by decide +kernel
theorem d_law_270 : decode b_law 270 = .ok (.invokevirtual 36, 3) := by decide +kernel
theorem d_law_273 : decode b_law 273 = .ok (.aload_n 2, 1) := by decide +kernel
theorem d_law_274 : decode b_law 274 = .ok (.invokevirtual 39, 3) := by decide +kernel
theorem d_law_277 : decode b_law 277 = .ok (.goto 426, 3) := by decide +kernel
theorem d_law_280 : decode b_law 280 = .ok (.aload_n 1, 1) := by decide +kernel
theorem d_law_281 : decode b_law 281 = .ok (.aload_n 0, 1) := by decide +kernel
theorem d_law_282 : decode b_law 282 = .ok (.iload_n 3, 1) := by decide +kernel
theorem d_law_283 : decode b_law 283 = .ok (.iconst 1, 1) := by decide +kernel
theorem d_law_284 : decode b_law 284 = .ok (.iadd, 1) := by decide +kernel
theorem d_law_285 : decode b_law 285 = .ok (.iaload, 1) := by decide +kernel
theorem d_law_286 : decode b_law 286 = .ok (.aload_n 0, 1) := by decide +kernel
theorem d_law_287 : decode b_law 287 = .ok (.iload_n 3, 1) := by decide +kernel
theorem d_law_288 : decode b_law 288 = .ok (.iconst 2, 1) := by decide +kernel
theorem d_law_289 : decode b_law 289 = .ok (.iadd, 1) := by decide +kernel
theorem d_law_290 : decode b_law 290 = .ok (.iaload, 1) := by decide +kernel
theorem d_law_291 : decode b_law 291 = .ok (.invokevirtual 40, 3) := by decide +kernel
theorem d_law_294 : decode b_law 294 = .ok (.aload_n 2, 1) := by decide +kernel
theorem d_law_295 : decode b_law 295 = .ok (.aload_n 0, 1) := by decide +kernel
theorem d_law_296 : decode b_law 296 = .ok (.iload_n 3, 1) := by decide +kernel
theorem d_law_297 : decode b_law 297 = .ok (.iconst 1, 1) := by decide +kernel
theorem d_law_298 : decode b_law 298 = .ok (.iadd, 1) := by decide +kernel
theorem d_law_299 : decode b_law 299 = .ok (.iaload, 1) := by decide +kernel
theorem d_law_300 : decode b_law 300 = .ok (.aload_n 0, 1) := by decide +kernel
theorem d_law_301 : decode b_law 301 = .ok (.iload_n 3, 1) := by decide +kernel
theorem d_law_302 : decode b_law 302 = .ok (.iconst 2, 1) := by decide +kernel
theorem d_law_303 : decode b_law 303 = .ok (.iadd, 1) := by decide +kernel
theorem d_law_304 : decode b_law 304 = .ok (.iaload, 1) := by decide +kernel
theorem d_law_305 : decode b_law 305 = .ok (.invokevirtual 44, 3) := by decide +kernel
theorem d_law_308 : decode b_law 308 = .ok (.if_icmp .eq 395, 3) := by decide +kernel
theorem d_law_313 : decode b_law 313 = .ok (.aload_n 1, 1) := by decide +kernel
theorem d_law_314 : decode b_law 314 = .ok (.invokevirtual 45, 3) := by decide +kernel
theorem d_law_317 : decode b_law 317 = .ok (.aload_n 2, 1) := by decide +kernel
theorem d_law_318 : decode b_law 318 = .ok (.invokevirtual 48, 3) := by decide +kernel
theorem d_law_321 : decode b_law 321 = .ok (.goto 382, 3) := by decide +kernel
theorem d_law_324 : decode b_law 324 = .ok (.aload_n 1, 1) := by decide +kernel
theorem d_law_325 : decode b_law 325 = .ok (.invokevirtual 49, 3) := by decide +kernel
theorem d_law_328 : decode b_law 328 = .ok (.aload_n 2, 1) := by decide +kernel
theorem d_law_329 : decode b_law 329 = .ok (.invokevirtual 52, 3) := by decide +kernel
theorem d_law_332 : decode b_law 332 = .ok (.if_icmp .eq 371, 3) := by decide +kernel
theorem d_law_337 : decode b_law 337 = .ok (.aload_n 1, 1) := by decide +kernel
theorem d_law_338 : decode b_law 338 = .ok (.aload_n 0, 1) := by decide +kernel
theorem d_law_339 : decode b_law 339 = .ok (.iload_n 3, 1) := by decide +kernel
theorem d_law_340 : decode b_law 340 = .ok (.iconst 1, 1) := by decide +kernel
theorem d_law_341 : decode b_law 341 = .ok (.iadd, 1) := by decide +kernel
theorem d_law_342 : decode b_law 342 = .ok (.iaload, 1) := by decide +kernel
theorem d_law_343 : decode b_law 343 = .ok (.invokevirtual 53, 3) := by decide +kernel
theorem d_law_346 : decode b_law 346 = .ok (.aload_n 2, 1) := by decide +kernel
theorem d_law_347 : decode b_law 347 = .ok (.aload_n 0, 1) := by decide +kernel
theorem d_law_348 : decode b_law 348 = .ok (.iload_n 3, 1) := by decide +kernel
theorem d_law_349 : decode b_law 349 = .ok (.iconst 1, 1) := by decide +kernel
theorem d_law_350 : decode b_law 350 = .ok (.iadd, 1) := by decide +kernel
theorem d_law_351 : decode b_law 351 = .ok (.iaload, 1) := by decide +kernel
theorem d_law_352 : decode b_law 352 = .ok (.invokevirtual 57, 3) := by decide +kernel
theorem d_law_355 : decode b_law 355 = .ok (.if_icmp .eq 348, 3) := by decide +kernel
theorem d_law_360 : decode b_law 360 = .ok (.aload_n 1, 1) := by decide +kernel
theorem d_law_361 : decode b_law 361 = .ok (.aload_n 0, 1) := by decide +kernel
theorem d_law_362 : decode b_law 362 = .ok (.iload_n 3, 1) := by decide +kernel
theorem d_law_363 : decode b_law 363 = .ok (.iconst 1, 1) := by decide +kernel
theorem d_law_364 : decode b_law 364 = .ok (.iadd, 1) := by decide +kernel
theorem d_law_365 : decode b_law 365 = .ok (.iaload, 1) := by decide +kernel
theorem d_law_366 : decode b_law 366 = .ok (.aload_n 0, 1) := by decide +kernel
theorem d_law_367 : decode b_law 367 = .ok (.iload_n 3, 1) := by decide +kernel
theorem d_law_368 : decode b_law 368 = .ok (.iconst 2, 1) := by decide +kernel
theorem d_law_369 : decode b_law 369 = .ok (.iadd, 1) := by decide +kernel
