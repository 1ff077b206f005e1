theorem fr_Mod_59 : F_Mod 59 = (R_Mod, "words", "I", false) := rfl
theorem w_12_203 : (Jvm.Cond.methodLink "StripedVaultModel" (698 : Nat) ({ cls := "StripedVaultModel", name := "readPlain", desc := "(I)V" } : Jvm.MethodName)) ∈ TG := tw_12 203 (by decide +kernel) (by decide +kernel)
theorem w_12_205 : (Jvm.Cond.instanceMethod ({ cls := "StripedVaultModel", name := "readPlain", desc := "(I)V" } : Jvm.MethodName)) ∈ TG := tw_12 205 (by decide +kernel) (by decide +kernel)
theorem w_12_206 : (Jvm.Cond.code ({ cls := "StripedVaultModel", name := "readPlain", desc := "(I)V" } : Jvm.MethodName) prog_14_method_88_code (5 : Nat) (Option.none : Option Jvm.ClassFile.FieldType)) ∈ TG := tw_12 206 (by decide +kernel) (by decide +kernel)
theorem w_12_211 : (Jvm.Cond.methodLink "StripedVaultModel" (708 : Nat) ({ cls := "StripedVaultModel", name := "readLengths", desc := "(I)V" } : Jvm.MethodName)) ∈ TG := tw_12 211 (by decide +kernel) (by decide +kernel)
theorem w_12_213 : (Jvm.Cond.instanceMethod ({ cls := "StripedVaultModel", name := "readLengths", desc := "(I)V" } : Jvm.MethodName)) ∈ TG := tw_12 213 (by decide +kernel) (by decide +kernel)
theorem w_12_214 : (Jvm.Cond.code ({ cls := "StripedVaultModel", name := "readLengths", desc := "(I)V" } : Jvm.MethodName) prog_14_method_89_code (3 : Nat) (Option.none : Option Jvm.ClassFile.FieldType)) ∈ TG := tw_12 214 (by decide +kernel) (by decide +kernel)
theorem w_12_228 : (Jvm.Cond.methodLink "StripedVaultModel" (711 : Nat) ({ cls := "StripedVaultModel", name := "readFront", desc := "(I)V" } : Jvm.MethodName)) ∈ TG := tw_12 228 (by decide +kernel) (by decide +kernel)
theorem w_12_230 : (Jvm.Cond.instanceMethod ({ cls := "StripedVaultModel", name := "readFront", desc := "(I)V" } : Jvm.MethodName)) ∈ TG := tw_12 230 (by decide +kernel) (by decide +kernel)
theorem w_12_231 : (Jvm.Cond.code ({ cls := "StripedVaultModel", name := "readFront", desc := "(I)V" } : Jvm.MethodName) prog_14_method_91_code (4 : Nat) (Option.none : Option Jvm.ClassFile.FieldType)) ∈ TG := tw_12 231 (by decide +kernel) (by decide +kernel)
theorem w_12_235 : (Jvm.Cond.methodLink "StripedVaultModel" (714 : Nat) ({ cls := "StripedVaultModel", name := "readDictionary", desc := "(I)V" } : Jvm.MethodName)) ∈ TG := tw_12 235 (by decide +kernel) (by decide +kernel)
theorem w_12_237 : (Jvm.Cond.instanceMethod ({ cls := "StripedVaultModel", name := "readDictionary", desc := "(I)V" } : Jvm.MethodName)) ∈ TG := tw_12 237 (by decide +kernel) (by decide +kernel)
theorem w_12_238 : (Jvm.Cond.code ({ cls := "StripedVaultModel", name := "readDictionary", desc := "(I)V" } : Jvm.MethodName) prog_14_method_92_code (10 : Nat) (Option.none : Option Jvm.ClassFile.FieldType)) ∈ TG := tw_12 238 (by decide +kernel) (by decide +kernel)
theorem w_13_3 : (Jvm.Cond.methodLink "StripedVaultModel" (721 : Nat) ({ cls := "StripedVaultModel", name := "whole", desc := "()J" } : Jvm.MethodName)) ∈ TG := tw_13 3 (by decide +kernel) (by decide +kernel)
theorem w_13_5 : (Jvm.Cond.instanceMethod ({ cls := "StripedVaultModel", name := "whole", desc := "()J" } : Jvm.MethodName)) ∈ TG := tw_13 5 (by decide +kernel) (by decide +kernel)
theorem w_13_6 : (Jvm.Cond.code ({ cls := "StripedVaultModel", name := "whole", desc := "()J" } : Jvm.MethodName) prog_14_method_95_code (3 : Nat) (Option.some Jvm.ClassFile.FieldType.long)) ∈ TG := tw_13 6 (by decide +kernel) (by decide +kernel)
theorem w_8_235 : (Jvm.Cond.fieldLink "StripedVaultModel" (701 : Nat) "StripedVaultModel" "words" "I") ∈ TG := tw_8 235 (by decide +kernel) (by decide +kernel)
theorem ws_205 : Cond.selects R_Mod y_Mod_readPlain y_Mod_readPlain ∈ TG := tw_s 205 (by decide +kernel) (by decide +kernel)
theorem ws_207 : Cond.selects R_Mod y_Mod_readLengths y_Mod_readLengths ∈ TG := tw_s 207 (by decide +kernel) (by decide +kernel)
theorem ws_211 : Cond.selects R_Mod y_Mod_readFront y_Mod_readFront ∈ TG := tw_s 211 (by decide +kernel) (by decide +kernel)
theorem ws_212 : Cond.selects R_Mod y_Mod_readDictionary y_Mod_readDictionary ∈ TG := tw_s 212 (by decide +kernel) (by decide +kernel)
theorem ws_214 : Cond.selects R_Mod y_Mod_whole y_Mod_whole ∈ TG := tw_s 214 (by decide +kernel) (by decide +kernel)
theorem d_Mod_readDictionary_351 : decode b_Mod_readDictionary 351 = .ok (.iload 9, 2) := by decide +kernel
theorem d_Mod_readDictionary_353 : decode b_Mod_readDictionary 353 = .ok (.iload 8, 2) := by decide +kernel
theorem d_Mod_readDictionary_355 : decode b_Mod_readDictionary 355 = .ok (.if_icmp .ge 41, 3) := by decide +kernel
theorem d_Mod_readDictionary_396 : decode b_Mod_readDictionary 396 = .ok (.aload_n 0, 1) := by decide +kernel
theorem d_Mod_readDictionary_397 : decode b_Mod_readDictionary 397 = .ok (.dup, 1) := by decide +kernel
theorem d_Mod_readDictionary_398 : decode b_Mod_readDictionary 398 = .ok (.getfield 683, 3) := by decide +kernel
theorem d_Mod_readDictionary_401 : decode b_Mod_readDictionary 401 = .ok (.iconst 1, 1) := by decide +kernel
theorem d_Mod_readDictionary_402 : decode b_Mod_readDictionary 402 = .ok (.iadd, 1) := by decide +kernel
theorem d_Mod_readDictionary_403 : decode b_Mod_readDictionary 403 = .ok (.putfield 683, 3) := by decide +kernel
theorem d_Mod_readDictionary_406 : decode b_Mod_readDictionary 406 = .ok (.aload_n 0, 1) := by decide +kernel
theorem d_Mod_readDictionary_407 : decode b_Mod_readDictionary 407 = .ok (.getfield 112, 3) := by decide +kernel
theorem d_Mod_readDictionary_410 : decode b_Mod_readDictionary 410 = .ok (.aload_n 0, 1) := by decide +kernel
theorem d_Mod_readDictionary_411 : decode b_Mod_readDictionary 411 = .ok (.getfield 683, 3) := by decide +kernel
theorem d_Mod_readDictionary_414 : decode b_Mod_readDictionary 414 = .ok (.aload_n 0, 1) := by decide +kernel
theorem d_Mod_readDictionary_415 : decode b_Mod_readDictionary 415 = .ok (.getfield 112, 3) := by decide +kernel
theorem d_Mod_readDictionary_418 : decode b_Mod_readDictionary 418 = .ok (.aload_n 0, 1) := by decide +kernel
theorem d_Mod_readDictionary_419 : decode b_Mod_readDictionary 419 = .ok (.getfield 683, 3) := by decide +kernel
theorem d_Mod_readDictionary_422 : decode b_Mod_readDictionary 422 = .ok (.iconst 1, 1) := by decide +kernel
theorem d_Mod_readDictionary_423 : decode b_Mod_readDictionary 423 = .ok (.isub, 1) := by decide +kernel
theorem d_Mod_readDictionary_424 : decode b_Mod_readDictionary 424 = .ok (.iaload, 1) := by decide +kernel
theorem d_Mod_readDictionary_425 : decode b_Mod_readDictionary 425 = .ok (.iload 8, 2) := by decide +kernel
theorem d_Mod_readDictionary_427 : decode b_Mod_readDictionary 427 = .ok (.iadd, 1) := by decide +kernel
theorem d_Mod_readDictionary_428 : decode b_Mod_readDictionary 428 = .ok (.iastore, 1) := by decide +kernel
theorem d_Mod_readDictionary_429 : decode b_Mod_readDictionary 429 = .ok (.iinc 5 1, 3) := by decide +kernel
theorem d_Mod_readDictionary_432 : decode b_Mod_readDictionary 432 = .ok (.goto (-185), 3) := by decide +kernel
theorem d_Mod_readDictionary_358 : decode b_Mod_readDictionary 358 = .ok (.aload_n 0, 1) := by decide +kernel
theorem d_Mod_readDictionary_359 : decode b_Mod_readDictionary 359 = .ok (.getfield 121, 3) := by decide +kernel
theorem d_Mod_readDictionary_362 : decode b_Mod_readDictionary 362 = .ok (.aload_n 0, 1) := by decide +kernel
theorem d_Mod_readDictionary_363 : decode b_Mod_readDictionary 363 = .ok (.getfield 112, 3) := by decide +kernel
theorem d_Mod_readDictionary_366 : decode b_Mod_readDictionary 366 = .ok (.aload_n 0, 1) := by decide +kernel
theorem d_Mod_readDictionary_367 : decode b_Mod_readDictionary 367 = .ok (.getfield 683, 3) := by decide +kernel
theorem d_Mod_readDictionary_370 : decode b_Mod_readDictionary 370 = .ok (.iaload, 1) := by decide +kernel
theorem d_Mod_readDictionary_371 : decode b_Mod_readDictionary 371 = .ok (.iload 9, 2) := by decide +kernel
theorem d_Mod_readDictionary_373 : decode b_Mod_readDictionary 373 = .ok (.iadd, 1) := by decide +kernel
theorem d_Mod_readDictionary_374 : decode b_Mod_readDictionary 374 = .ok (.aload_n 0, 1) := by decide +kernel
theorem d_Mod_readDictionary_375 : decode b_Mod_readDictionary 375 = .ok (.getfield 124, 3) := by decide +kernel
theorem d_Mod_readDictionary_378 : decode b_Mod_readDictionary 378 = .ok (.aload_n 0, 1) := by decide +kernel
theorem d_Mod_readDictionary_379 : decode b_Mod_readDictionary 379 = .ok (.getfield 115, 3) := by decide +kernel
theorem d_Mod_readDictionary_382 : decode b_Mod_readDictionary 382 = .ok (.iload 6, 2) := by decide +kernel
theorem d_Mod_readDictionary_384 : decode b_Mod_readDictionary 384 = .ok (.iaload, 1) := by decide +kernel
theorem d_Mod_readDictionary_385 : decode b_Mod_readDictionary 385 = .ok (.iload 9, 2) := by decide +kernel
theorem d_Mod_readDictionary_387 : decode b_Mod_readDictionary 387 = .ok (.iadd, 1) := by decide +kernel
theorem d_Mod_readDictionary_388 : decode b_Mod_readDictionary 388 = .ok (.iaload, 1) := by decide +kernel
theorem d_Mod_readDictionary_389 : decode b_Mod_readDictionary 389 = .ok (.iastore, 1) := by decide +kernel
theorem d_Mod_readDictionary_390 : decode b_Mod_readDictionary 390 = .ok (.iinc 9 1, 3) := by decide +kernel
theorem d_Mod_readDictionary_393 : decode b_Mod_readDictionary 393 = .ok (.goto (-42), 3) := by decide +kernel
theorem d_Mod_readDictionary_341 : decode b_Mod_readDictionary 341 = .ok (.aload_n 0, 1) := by decide +kernel
theorem d_Mod_readDictionary_342 : decode b_Mod_readDictionary 342 = .ok (.bipush 7, 2) := by decide +kernel
theorem d_Mod_readDictionary_344 : decode b_Mod_readDictionary 344 = .ok (.putfield 550, 3) := by decide +kernel
theorem d_Mod_readDictionary_347 : decode b_Mod_readDictionary 347 = .ok (.return_, 1) := by decide +kernel
theorem d_Mod_readDictionary_316 : decode b_Mod_readDictionary 316 = .ok (.istore 8, 2) := by decide +kernel
theorem d_Mod_readDictionary_318 : decode b_Mod_readDictionary 318 = .ok (.iload 7, 2) := by decide +kernel
theorem d_Mod_readDictionary_320 : decode b_Mod_readDictionary 320 = .ok (.ifCond .eq 21, 3) := by decide +kernel
theorem d_Mod_readDictionary_323 : decode b_Mod_readDictionary 323 = .ok (.aload_n 0, 1) := by decide +kernel
theorem d_Mod_readDictionary_324 : decode b_Mod_readDictionary 324 = .ok (.getfield 112, 3) := by decide +kernel
theorem d_Mod_readDictionary_327 : decode b_Mod_readDictionary 327 = .ok (.aload_n 0, 1) := by decide +kernel
theorem d_Mod_readDictionary_328 : decode b_Mod_readDictionary 328 = .ok (.getfield 683, 3) := by decide +kernel
theorem d_Mod_readDictionary_331 : decode b_Mod_readDictionary 331 = .ok (.iaload, 1) := by decide +kernel
theorem d_Mod_readDictionary_332 : decode b_Mod_readDictionary 332 = .ok (.iload 8, 2) := by decide +kernel
theorem d_Mod_readDictionary_334 : decode b_Mod_readDictionary 334 = .ok (.iadd, 1) := by decide +kernel
theorem d_Mod_readDictionary_335 : decode b_Mod_readDictionary 335 = .ok (.sipush 20000, 3) := by decide +kernel
theorem d_Mod_readDictionary_338 : decode b_Mod_readDictionary 338 = .ok (.if_icmp .le 10, 3) := by decide +kernel
theorem d_Mod_readDictionary_348 : decode b_Mod_readDictionary 348 = .ok (.iconst 0, 1) := by decide +kernel
theorem d_Mod_readDictionary_349 : decode b_Mod_readDictionary 349 = .ok (.istore 9, 2) := by decide +kernel
theorem d_Mod_readDictionary_288 : decode b_Mod_readDictionary 288 = .ok (.istore 7, 2) := by decide +kernel
theorem d_Mod_readDictionary_290 : decode b_Mod_readDictionary 290 = .ok (.iload 7, 2) := by decide +kernel
theorem d_Mod_readDictionary_292 : decode b_Mod_readDictionary 292 = .ok (.ifCond .eq 23, 3) := by decide +kernel
theorem d_Mod_readDictionary_315 : decode b_Mod_readDictionary 315 = .ok (.iconst 0, 1) := by decide +kernel
theorem d_Mod_readDictionary_295 : decode b_Mod_readDictionary 295 = .ok (.aload_n 0, 1) := by decide +kernel
theorem d_Mod_readDictionary_296 : decode b_Mod_readDictionary 296 = .ok (.getfield 115, 3) := by decide +kernel
theorem d_Mod_readDictionary_299 : decode b_Mod_readDictionary 299 = .ok (.iload 6, 2) := by decide +kernel
theorem d_Mod_readDictionary_301 : decode b_Mod_readDictionary 301 = .ok (.iconst 1, 1) := by decide +kernel
theorem d_Mod_readDictionary_302 : decode b_Mod_readDictionary 302 = .ok (.iadd, 1) := by decide +kernel
theorem d_Mod_readDictionary_303 : decode b_Mod_readDictionary 303 = .ok (.iaload, 1) := by decide +kernel
theorem d_Mod_readDictionary_304 : decode b_Mod_readDictionary 304 = .ok (.aload_n 0, 1) := by decide +kernel
theorem d_Mod_readDictionary_305 : decode b_Mod_readDictionary 305 = .ok (.getfield 115, 3) := by decide +kernel
theorem d_Mod_readDictionary_308 : decode b_Mod_readDictionary 308 = .ok (.iload 6, 2) := by decide +kernel
theorem d_Mod_readDictionary_310 : decode b_Mod_readDictionary 310 = .ok (.iaload, 1) := by decide +kernel
theorem d_Mod_readDictionary_311 : decode b_Mod_readDictionary 311 = .ok (.isub, 1) := by decide +kernel
theorem d_Mod_readDictionary_312 : decode b_Mod_readDictionary 312 = .ok (.goto 4, 3) := by decide +kernel
theorem d_Mod_readDictionary_287 : decode b_Mod_readDictionary 287 = .ok (.iconst 0, 1) := by decide +kernel
theorem d_Mod_readDictionary_247 : decode b_Mod_readDictionary 247 = .ok (.iload 5, 2) := by decide +kernel
theorem d_Mod_readDictionary_249 : decode b_Mod_readDictionary 249 = .ok (.iload_n 1, 1) := by decide +kernel
theorem d_Mod_readDictionary_250 : decode b_Mod_readDictionary 250 = .ok (.if_icmp .ge 185, 3) := by decide +kernel
theorem d_Mod_readDictionary_435 : decode b_Mod_readDictionary 435 = .ok (.return_, 1) := by decide +kernel
theorem d_Mod_readDictionary_253 : decode b_Mod_readDictionary 253 = .ok (.aload_n 0, 1) := by decide +kernel
theorem d_Mod_readDictionary_254 : decode b_Mod_readDictionary 254 = .ok (.getfield 550, 3) := by decide +kernel
theorem d_Mod_readDictionary_257 : decode b_Mod_readDictionary 257 = .ok (.ifCond .ne 178, 3) := by decide +kernel
theorem d_Mod_readDictionary_260 : decode b_Mod_readDictionary 260 = .ok (.aload_n 0, 1) := by decide +kernel
theorem d_Mod_readDictionary_261 : decode b_Mod_readDictionary 261 = .ok (.getfield 142, 3) := by decide +kernel
theorem d_Mod_readDictionary_264 : decode b_Mod_readDictionary 264 = .ok (.iload 5, 2) := by decide +kernel
theorem d_Mod_readDictionary_266 : decode b_Mod_readDictionary 266 = .ok (.iaload, 1) := by decide +kernel
theorem d_Mod_readDictionary_267 : decode b_Mod_readDictionary 267 = .ok (.istore 6, 2) := by decide +kernel
theorem d_Mod_readDictionary_269 : decode b_Mod_readDictionary 269 = .ok (.iload 6, 2) := by decide +kernel
theorem d_Mod_readDictionary_271 : decode b_Mod_readDictionary 271 = .ok (.ifCond .lt 16, 3) := by decide +kernel
theorem d_Mod_readDictionary_274 : decode b_Mod_readDictionary 274 = .ok (.iload 6, 2) := by decide +kernel
theorem d_Mod_readDictionary_276 : decode b_Mod_readDictionary 276 = .ok (.aload_n 0, 1) := by decide +kernel
theorem d_Mod_readDictionary_277 : decode b_Mod_readDictionary 277 = .ok (.getfield 701, 3) := by decide +kernel
theorem d_Mod_readDictionary_280 : decode b_Mod_readDictionary 280 = .ok (.if_icmp .ge 7, 3) := by decide +kernel
theorem d_Mod_readDictionary_283 : decode b_Mod_readDictionary 283 = .ok (.iconst 1, 1) := by decide +kernel
theorem d_Mod_readDictionary_284 : decode b_Mod_readDictionary 284 = .ok (.goto 4, 3) := by decide +kernel
theorem d_Mod_readDictionary_244 : decode b_Mod_readDictionary 244 = .ok (.iconst 0, 1) := by decide +kernel
theorem d_Mod_readDictionary_245 : decode b_Mod_readDictionary 245 = .ok (.istore 5, 2) := by decide +kernel
theorem d_Mod_readDictionary_176 : decode b_Mod_readDictionary 176 = .ok (.aload_n 0, 1) := by decide +kernel
theorem d_Mod_readDictionary_177 : decode b_Mod_readDictionary 177 = .ok (.getfield 550, 3) := by decide +kernel
theorem d_Mod_readDictionary_180 : decode b_Mod_readDictionary 180 = .ok (.ifCond .eq 4, 3) := by decide +kernel
theorem d_Mod_readDictionary_184 : decode b_Mod_readDictionary 184 = .ok (.aload_n 0, 1) := by decide +kernel
theorem d_Mod_readDictionary_185 : decode b_Mod_readDictionary 185 = .ok (.getfield 133, 3) := by decide +kernel
theorem d_Mod_readDictionary_188 : decode b_Mod_readDictionary 188 = .ok (.aload_n 0, 1) := by decide +kernel
theorem d_Mod_readDictionary_189 : decode b_Mod_readDictionary 189 = .ok (.getfield 553, 3) := by decide +kernel
theorem d_Mod_readDictionary_192 : decode b_Mod_readDictionary 192 = .ok (.iaload, 1) := by decide +kernel
theorem d_Mod_readDictionary_193 : decode b_Mod_readDictionary 193 = .ok (.istore 4, 2) := by decide +kernel
theorem d_Mod_readDictionary_195 : decode b_Mod_readDictionary 195 = .ok (.aload_n 0, 1) := by decide +kernel
theorem d_Mod_readDictionary_196 : decode b_Mod_readDictionary 196 = .ok (.dup, 1) := by decide +kernel
theorem d_Mod_readDictionary_197 : decode b_Mod_readDictionary 197 = .ok (.getfield 553, 3) := by decide +kernel
theorem d_Mod_readDictionary_200 : decode b_Mod_readDictionary 200 = .ok (.iconst 1, 1) := by decide +kernel
theorem d_Mod_readDictionary_201 : decode b_Mod_readDictionary 201 = .ok (.iadd, 1) := by decide +kernel
theorem d_Mod_readDictionary_202 : decode b_Mod_readDictionary 202 = .ok (.putfield 553, 3) := by decide +kernel
theorem d_Mod_readDictionary_205 : decode b_Mod_readDictionary 205 = .ok (.aload_n 0, 1) := by decide +kernel
theorem d_Mod_readDictionary_206 : decode b_Mod_readDictionary 206 = .ok (.aload_n 0, 1) := by decide +kernel
theorem d_Mod_readDictionary_207 : decode b_Mod_readDictionary 207 = .ok (.getfield 142, 3) := by decide +kernel
theorem d_Mod_readDictionary_210 : decode b_Mod_readDictionary 210 = .ok (.iload_n 1, 1) := by decide +kernel
theorem d_Mod_readDictionary_211 : decode b_Mod_readDictionary 211 = .ok (.iload 4, 2) := by decide +kernel
theorem d_Mod_readDictionary_213 : decode b_Mod_readDictionary 213 = .ok (.aload_n 0, 1) := by decide +kernel
theorem d_Mod_readDictionary_214 : decode b_Mod_readDictionary 214 = .ok (.getfield 608, 3) := by decide +kernel
theorem d_Mod_readDictionary_217 : decode b_Mod_readDictionary 217 = .ok (.invokevirtual 704, 3) := by decide +kernel
theorem d_Mod_readDictionary_220 : decode b_Mod_readDictionary 220 = .ok (.aload_n 0, 1) := by decide +kernel
theorem d_Mod_readDictionary_221 : decode b_Mod_readDictionary 221 = .ok (.getfield 550, 3) := by decide +kernel
theorem d_Mod_readDictionary_224 : decode b_Mod_readDictionary 224 = .ok (.ifCond .ne 20, 3) := by decide +kernel
theorem d_Mod_readDictionary_227 : decode b_Mod_readDictionary 227 = .ok (.aload_n 0, 1) := by decide +kernel
theorem d_Mod_readDictionary_228 : decode b_Mod_readDictionary 228 = .ok (.getfield 553, 3) := by decide +kernel
theorem d_Mod_readDictionary_231 : decode b_Mod_readDictionary 231 = .ok (.aload_n 0, 1) := by decide +kernel
theorem d_Mod_readDictionary_232 : decode b_Mod_readDictionary 232 = .ok (.getfield 608, 3) := by decide +kernel
theorem d_Mod_readDictionary_235 : decode b_Mod_readDictionary 235 = .ok (.if_icmp .ge 9, 3) := by decide +kernel
theorem d_Mod_readDictionary_238 : decode b_Mod_readDictionary 238 = .ok (.aload_n 0, 1) := by decide +kernel
theorem d_Mod_readDictionary_239 : decode b_Mod_readDictionary 239 = .ok (.bipush 6, 2) := by decide +kernel
theorem d_Mod_readDictionary_241 : decode b_Mod_readDictionary 241 = .ok (.putfield 550, 3) := by decide +kernel
theorem d_Mod_readDictionary_183 : decode b_Mod_readDictionary 183 = .ok (.return_, 1) := by decide +kernel
theorem d_Mod_readDictionary_99 : decode b_Mod_readDictionary 99 = .ok (.iload 4, 2) := by decide +kernel
theorem d_Mod_readDictionary_101 : decode b_Mod_readDictionary 101 = .ok (.aload_n 0, 1) := by decide +kernel
theorem d_Mod_readDictionary_102 : decode b_Mod_readDictionary 102 = .ok (.getfield 115, 3) := by decide +kernel
theorem d_Mod_readDictionary_105 : decode b_Mod_readDictionary 105 = .ok (.aload_n 0, 1) := by decide +kernel
theorem d_Mod_readDictionary_106 : decode b_Mod_readDictionary 106 = .ok (.getfield 701, 3) := by decide +kernel
theorem d_Mod_readDictionary_109 : decode b_Mod_readDictionary 109 = .ok (.iaload, 1) := by decide +kernel
theorem d_Mod_readDictionary_110 : decode b_Mod_readDictionary 110 = .ok (.if_icmp .ge 23, 3) := by decide +kernel
theorem d_Mod_readDictionary_133 : decode b_Mod_readDictionary 133 = .ok (.aload_n 0, 1) := by decide +kernel
theorem d_Mod_readDictionary_134 : decode b_Mod_readDictionary 134 = .ok (.iconst 0, 1) := by decide +kernel
theorem d_Mod_readDictionary_135 : decode b_Mod_readDictionary 135 = .ok (.putfield 683, 3) := by decide +kernel
theorem d_Mod_readDictionary_138 : decode b_Mod_readDictionary 138 = .ok (.aload_n 0, 1) := by decide +kernel
theorem d_Mod_readDictionary_139 : decode b_Mod_readDictionary 139 = .ok (.getfield 553, 3) := by decide +kernel
theorem d_Mod_readDictionary_142 : decode b_Mod_readDictionary 142 = .ok (.aload_n 0, 1) := by decide +kernel
theorem d_Mod_readDictionary_143 : decode b_Mod_readDictionary 143 = .ok (.getfield 608, 3) := by decide +kernel
theorem d_Mod_readDictionary_146 : decode b_Mod_readDictionary 146 = .ok (.if_icmp .lt 11, 3) := by decide +kernel
theorem d_Mod_readDictionary_157 : decode b_Mod_readDictionary 157 = .ok (.aload_n 0, 1) := by decide +kernel
theorem d_Mod_readDictionary_158 : decode b_Mod_readDictionary 158 = .ok (.getfield 133, 3) := by decide +kernel
theorem d_Mod_readDictionary_161 : decode b_Mod_readDictionary 161 = .ok (.aload_n 0, 1) := by decide +kernel
theorem d_Mod_readDictionary_162 : decode b_Mod_readDictionary 162 = .ok (.getfield 553, 3) := by decide +kernel
theorem d_Mod_readDictionary_165 : decode b_Mod_readDictionary 165 = .ok (.iaload, 1) := by decide +kernel
theorem d_Mod_readDictionary_166 : decode b_Mod_readDictionary 166 = .ok (.bipush 32, 2) := by decide +kernel
theorem d_Mod_readDictionary_168 : decode b_Mod_readDictionary 168 = .ok (.if_icmp .le 8, 3) := by decide +kernel
theorem d_Mod_readDictionary_171 : decode b_Mod_readDictionary 171 = .ok (.aload_n 0, 1) := by decide +kernel
theorem d_Mod_readDictionary_172 : decode b_Mod_readDictionary 172 = .ok (.iconst 5, 1) := by decide +kernel
theorem d_Mod_readDictionary_173 : decode b_Mod_readDictionary 173 = .ok (.putfield 550, 3) := by decide +kernel
theorem d_Mod_readDictionary_149 : decode b_Mod_readDictionary 149 = .ok (.aload_n 0, 1) := by decide +kernel
theorem d_Mod_readDictionary_150 : decode b_Mod_readDictionary 150 = .ok (.iconst 1, 1) := by decide +kernel
theorem d_Mod_readDictionary_151 : decode b_Mod_readDictionary 151 = .ok (.putfield 550, 3) := by decide +kernel
theorem d_Mod_readDictionary_154 : decode b_Mod_readDictionary 154 = .ok (.goto 22, 3) := by decide +kernel
theorem d_Mod_readDictionary_113 : decode b_Mod_readDictionary 113 = .ok (.aload_n 0, 1) := by decide +kernel
theorem d_Mod_readDictionary_114 : decode b_Mod_readDictionary 114 = .ok (.getfield 124, 3) := by decide +kernel
theorem d_Mod_readDictionary_117 : decode b_Mod_readDictionary 117 = .ok (.iload 4, 2) := by decide +kernel
theorem d_Mod_readDictionary_119 : decode b_Mod_readDictionary 119 = .ok (.aload_n 0, 1) := by decide +kernel
theorem d_Mod_readDictionary_120 : decode b_Mod_readDictionary 120 = .ok (.getfield 121, 3) := by decide +kernel
theorem d_Mod_readDictionary_123 : decode b_Mod_readDictionary 123 = .ok (.iload 4, 2) := by decide +kernel
theorem d_Mod_readDictionary_125 : decode b_Mod_readDictionary 125 = .ok (.iaload, 1) := by decide +kernel
theorem d_Mod_readDictionary_126 : decode b_Mod_readDictionary 126 = .ok (.iastore, 1) := by decide +kernel
theorem d_Mod_readDictionary_127 : decode b_Mod_readDictionary 127 = .ok (.iinc 4 1, 3) := by decide +kernel
theorem d_Mod_readDictionary_130 : decode b_Mod_readDictionary 130 = .ok (.goto (-31), 3) := by decide +kernel
theorem d_Mod_readDictionary_67 : decode b_Mod_readDictionary 67 = .ok (.iload 4, 2) := by decide +kernel
theorem d_Mod_readDictionary_69 : decode b_Mod_readDictionary 69 = .ok (.aload_n 0, 1) := by decide +kernel
theorem d_Mod_readDictionary_70 : decode b_Mod_readDictionary 70 = .ok (.getfield 701, 3) := by decide +kernel
theorem d_Mod_readDictionary_73 : decode b_Mod_readDictionary 73 = .ok (.if_icmp .gt 23, 3) := by decide +kernel
theorem d_Mod_readDictionary_96 : decode b_Mod_readDictionary 96 = .ok (.iconst 0, 1) := by decide +kernel
theorem d_Mod_readDictionary_97 : decode b_Mod_readDictionary 97 = .ok (.istore 4, 2) := by decide +kernel
theorem d_Mod_readDictionary_76 : decode b_Mod_readDictionary 76 = .ok (.aload_n 0, 1) := by decide +kernel
theorem d_Mod_readDictionary_77 : decode b_Mod_readDictionary 77 = .ok (.getfield 115, 3) := by decide +kernel
theorem d_Mod_readDictionary_80 : decode b_Mod_readDictionary 80 = .ok (.iload 4, 2) := by decide +kernel
theorem d_Mod_readDictionary_82 : decode b_Mod_readDictionary 82 = .ok (.aload_n 0, 1) := by decide +kernel
theorem d_Mod_readDictionary_83 : decode b_Mod_readDictionary 83 = .ok (.getfield 112, 3) := by decide +kernel
theorem d_Mod_readDictionary_86 : decode b_Mod_readDictionary 86 = .ok (.iload 4, 2) := by decide +kernel
theorem d_Mod_readDictionary_88 : decode b_Mod_readDictionary 88 = .ok (.iaload, 1) := by decide +kernel
theorem d_Mod_readDictionary_89 : decode b_Mod_readDictionary 89 = .ok (.iastore, 1) := by decide +kernel
theorem d_Mod_readDictionary_90 : decode b_Mod_readDictionary 90 = .ok (.iinc 4 1, 3) := by decide +kernel
theorem d_Mod_readDictionary_93 : decode b_Mod_readDictionary 93 = .ok (.goto (-26), 3) := by decide +kernel
theorem d_Mod_readDictionary_34 : decode b_Mod_readDictionary 34 = .ok (.aload_n 0, 1) := by decide +kernel
theorem d_Mod_readDictionary_35 : decode b_Mod_readDictionary 35 = .ok (.getfield 550, 3) := by decide +kernel
theorem d_Mod_readDictionary_38 : decode b_Mod_readDictionary 38 = .ok (.ifCond .eq 4, 3) := by decide +kernel
theorem d_Mod_readDictionary_42 : decode b_Mod_readDictionary 42 = .ok (.aload_n 0, 1) := by decide +kernel
theorem d_Mod_readDictionary_43 : decode b_Mod_readDictionary 43 = .ok (.lload_n 2, 1) := by decide +kernel
theorem d_Mod_readDictionary_44 : decode b_Mod_readDictionary 44 = .ok (.l2i, 1) := by decide +kernel
theorem d_Mod_readDictionary_45 : decode b_Mod_readDictionary 45 = .ok (.invokevirtual 698, 3) := by decide +kernel
theorem d_Mod_readDictionary_48 : decode b_Mod_readDictionary 48 = .ok (.aload_n 0, 1) := by decide +kernel
theorem d_Mod_readDictionary_49 : decode b_Mod_readDictionary 49 = .ok (.getfield 550, 3) := by decide +kernel
theorem d_Mod_readDictionary_52 : decode b_Mod_readDictionary 52 = .ok (.ifCond .eq 4, 3) := by decide +kernel
theorem d_Mod_readDictionary_56 : decode b_Mod_readDictionary 56 = .ok (.aload_n 0, 1) := by decide +kernel
theorem d_Mod_readDictionary_57 : decode b_Mod_readDictionary 57 = .ok (.aload_n 0, 1) := by decide +kernel
theorem d_Mod_readDictionary_58 : decode b_Mod_readDictionary 58 = .ok (.getfield 683, 3) := by decide +kernel
theorem d_Mod_readDictionary_61 : decode b_Mod_readDictionary 61 = .ok (.putfield 701, 3) := by decide +kernel
theorem d_Mod_readDictionary_64 : decode b_Mod_readDictionary 64 = .ok (.iconst 0, 1) := by decide +kernel
theorem d_Mod_readDictionary_65 : decode b_Mod_readDictionary 65 = .ok (.istore 4, 2) := by decide +kernel
theorem d_Mod_readDictionary_55 : decode b_Mod_readDictionary 55 = .ok (.return_, 1) := by decide +kernel
theorem d_Mod_readDictionary_41 : decode b_Mod_readDictionary 41 = .ok (.return_, 1) := by decide +kernel
theorem d_Mod_readDictionary_29 : decode b_Mod_readDictionary 29 = .ok (.aload_n 0, 1) := by decide +kernel
theorem d_Mod_readDictionary_30 : decode b_Mod_readDictionary 30 = .ok (.iconst 4, 1) := by decide +kernel
theorem d_Mod_readDictionary_31 : decode b_Mod_readDictionary 31 = .ok (.putfield 550, 3) := by decide +kernel
theorem d_Mod_readDictionary_0 : decode b_Mod_readDictionary 0 = .ok (.aload_n 0, 1) := by decide +kernel
theorem d_Mod_readDictionary_1 : decode b_Mod_readDictionary 1 = .ok (.aload_n 0, 1) := by decide +kernel
theorem d_Mod_readDictionary_2 : decode b_Mod_readDictionary 2 = .ok (.getfield 608, 3) := by decide +kernel
theorem d_Mod_readDictionary_5 : decode b_Mod_readDictionary 5 = .ok (.invokevirtual 571, 3) := by decide +kernel
theorem d_Mod_readDictionary_8 : decode b_Mod_readDictionary 8 = .ok (.lstore_n 2, 1) := by decide +kernel
theorem d_Mod_readDictionary_9 : decode b_Mod_readDictionary 9 = .ok (.aload_n 0, 1) := by decide +kernel
theorem d_Mod_readDictionary_10 : decode b_Mod_readDictionary 10 = .ok (.getfield 550, 3) := by decide +kernel
theorem d_Mod_readDictionary_13 : decode b_Mod_readDictionary 13 = .ok (.ifCond .ne 21, 3) := by decide +kernel
theorem d_Mod_readDictionary_16 : decode b_Mod_readDictionary 16 = .ok (.lload_n 2, 1) := by decide +kernel
theorem d_Mod_readDictionary_17 : decode b_Mod_readDictionary 17 = .ok (.lconst 0, 1) := by decide +kernel
theorem d_Mod_readDictionary_18 : decode b_Mod_readDictionary 18 = .ok (.lcmp, 1) := by decide +kernel
theorem d_Mod_readDictionary_19 : decode b_Mod_readDictionary 19 = .ok (.ifCond .lt 10, 3) := by decide +kernel
theorem d_Mod_readDictionary_22 : decode b_Mod_readDictionary 22 = .ok (.lload_n 2, 1) := by decide +kernel
theorem d_Mod_readDictionary_23 : decode b_Mod_readDictionary 23 = .ok (.iload_n 1, 1) := by decide +kernel
theorem d_Mod_readDictionary_24 : decode b_Mod_readDictionary 24 = .ok (.i2l, 1) := by decide +kernel
theorem d_Mod_readDictionary_25 : decode b_Mod_readDictionary 25 = .ok (.lcmp, 1) := by decide +kernel
theorem d_Mod_readDictionary_26 : decode b_Mod_readDictionary 26 = .ok (.ifCond .le 8, 3) := by decide +kernel
theorem d_Mod_readTexts_0 : decode b_Mod_readTexts 0 = .ok (.aload_n 0, 1) := by decide +kernel
theorem d_Mod_readTexts_1 : decode b_Mod_readTexts 1 = .ok (.iconst 0, 1) := by decide +kernel
theorem d_Mod_readTexts_2 : decode b_Mod_readTexts 2 = .ok (.putfield 683, 3) := by decide +kernel
theorem d_Mod_readTexts_5 : decode b_Mod_readTexts 5 = .ok (.iload_n 1, 1) := by decide +kernel
theorem d_Mod_readTexts_6 : decode b_Mod_readTexts 6 = .ok (.ifCond .ne 11, 3) := by decide +kernel
theorem d_Mod_readTexts_17 : decode b_Mod_readTexts 17 = .ok (.iload_n 1, 1) := by decide +kernel
theorem d_Mod_readTexts_18 : decode b_Mod_readTexts 18 = .ok (.iconst 1, 1) := by decide +kernel
theorem d_Mod_readTexts_19 : decode b_Mod_readTexts 19 = .ok (.if_icmp .ne 11, 3) := by decide +kernel
theorem d_Mod_readTexts_30 : decode b_Mod_readTexts 30 = .ok (.iload_n 1, 1) := by decide +kernel
theorem d_Mod_readTexts_31 : decode b_Mod_readTexts 31 = .ok (.iconst 2, 1) := by decide +kernel
theorem d_Mod_readTexts_32 : decode b_Mod_readTexts 32 = .ok (.if_icmp .ne 11, 3) := by decide +kernel
theorem d_Mod_readTexts_43 : decode b_Mod_readTexts 43 = .ok (.aload_n 0, 1) := by decide +kernel
theorem d_Mod_readTexts_44 : decode b_Mod_readTexts 44 = .ok (.iload_n 2, 1) := by decide +kernel
theorem d_Mod_readTexts_45 : decode b_Mod_readTexts 45 = .ok (.invokevirtual 714, 3) := by decide +kernel
theorem d_Mod_readTexts_48 : decode b_Mod_readTexts 48 = .ok (.return_, 1) := by decide +kernel
theorem d_Mod_readTexts_35 : decode b_Mod_readTexts 35 = .ok (.aload_n 0, 1) := by decide +kernel
theorem d_Mod_readTexts_36 : decode b_Mod_readTexts 36 = .ok (.iload_n 2, 1) := by decide +kernel
theorem d_Mod_readTexts_37 : decode b_Mod_readTexts 37 = .ok (.invokevirtual 711, 3) := by decide +kernel
theorem d_Mod_readTexts_40 : decode b_Mod_readTexts 40 = .ok (.goto 8, 3) := by decide +kernel
theorem d_Mod_readTexts_22 : decode b_Mod_readTexts 22 = .ok (.aload_n 0, 1) := by decide +kernel
theorem d_Mod_readTexts_23 : decode b_Mod_readTexts 23 = .ok (.iload_n 2, 1) := by decide +kernel
theorem d_Mod_readTexts_24 : decode b_Mod_readTexts 24 = .ok (.invokevirtual 708, 3) := by decide +kernel
theorem d_Mod_readTexts_27 : decode b_Mod_readTexts 27 = .ok (.goto 21, 3) := by decide +kernel
theorem d_Mod_readTexts_9 : decode b_Mod_readTexts 9 = .ok (.aload_n 0, 1) := by decide +kernel
theorem d_Mod_readTexts_10 : decode b_Mod_readTexts 10 = .ok (.iload_n 2, 1) := by decide +kernel
theorem d_Mod_readTexts_11 : decode b_Mod_readTexts 11 = .ok (.invokevirtual 698, 3) := by decide +kernel
theorem d_Mod_readTexts_14 : decode b_Mod_readTexts 14 = .ok (.goto 34, 3) := by decide +kernel
theorem d_Mod_whole_0 : decode b_Mod_whole 0 = .ok (.aload_n 0, 1) := by decide +kernel
theorem d_Mod_whole_1 : decode b_Mod_whole 1 = .ok (.aload_n 0, 1) := by decide +kernel
theorem d_Mod_whole_2 : decode b_Mod_whole 2 = .ok (.invokevirtual 651, 3) := by decide +kernel
theorem d_Mod_whole_5 : decode b_Mod_whole 5 = .ok (.aload_n 0, 1) := by decide +kernel
theorem d_Mod_whole_6 : decode b_Mod_whole 6 = .ok (.getfield 608, 3) := by decide +kernel
theorem d_Mod_whole_9 : decode b_Mod_whole 9 = .ok (.invokevirtual 717, 3) := by decide +kernel
theorem d_Mod_whole_12 : decode b_Mod_whole 12 = .ok (.lstore_n 1, 1) := by decide +kernel
theorem d_Mod_whole_13 : decode b_Mod_whole 13 = .ok (.aload_n 0, 1) := by decide +kernel
theorem d_Mod_whole_14 : decode b_Mod_whole 14 = .ok (.getfield 623, 3) := by decide +kernel
theorem d_Mod_whole_17 : decode b_Mod_whole 17 = .ok (.iconst 1, 1) := by decide +kernel
theorem d_Mod_whole_18 : decode b_Mod_whole 18 = .ok (.if_icmp .ne 9, 3) := by decide +kernel
theorem d_Mod_whole_27 : decode b_Mod_whole 27 = .ok (.lload_n 1, 1) := by decide +kernel
theorem d_Mod_whole_28 : decode b_Mod_whole 28 = .ok (.lreturn, 1) := by decide +kernel
theorem d_Mod_whole_21 : decode b_Mod_whole 21 = .ok (.lload_n 1, 1) := by decide +kernel
theorem d_Mod_whole_22 : decode b_Mod_whole 22 = .ok (.l2i, 1) := by decide +kernel
theorem d_Mod_whole_23 : decode b_Mod_whole 23 = .ok (.i2l, 1) := by decide +kernel
theorem d_Mod_whole_24 : decode b_Mod_whole 24 = .ok (.goto 4, 3) := by decide +kernel
theorem d_Mod_readWords_230 : decode b_Mod_readWords 230 = .ok (.iinc 5 1, 3) := by decide +kernel
theorem d_Mod_readWords_233 : decode b_Mod_readWords 233 = .ok (.goto (-67), 3) := by decide +kernel
theorem d_Mod_readWords_202 : decode b_Mod_readWords 202 = .ok (.aload_n 0, 1) := by decide +kernel
theorem d_Mod_readWords_203 : decode b_Mod_readWords 203 = .ok (.bipush 7, 2) := by decide +kernel
theorem d_Mod_readWords_205 : decode b_Mod_readWords 205 = .ok (.putfield 550, 3) := by decide +kernel
theorem d_Mod_readWords_208 : decode b_Mod_readWords 208 = .ok (.goto 22, 3) := by decide +kernel
theorem d_Mod_readWords_166 : decode b_Mod_readWords 166 = .ok (.iload 5, 2) := by decide +kernel
theorem d_Mod_readWords_168 : decode b_Mod_readWords 168 = .ok (.iload_n 1, 1) := by decide +kernel
theorem d_Mod_readWords_169 : decode b_Mod_readWords 169 = .ok (.if_icmp .ge 67, 3) := by decide +kernel
theorem d_Mod_readWords_236 : decode b_Mod_readWords 236 = .ok (.return_, 1) := by decide +kernel
theorem d_Mod_readWords_172 : decode b_Mod_readWords 172 = .ok (.aload_n 0, 1) := by decide +kernel
theorem d_Mod_readWords_173 : decode b_Mod_readWords 173 = .ok (.getfield 550, 3) := by decide +kernel
theorem d_Mod_readWords_176 : decode b_Mod_readWords 176 = .ok (.ifCond .ne 60, 3) := by decide +kernel
theorem d_Mod_readWords_179 : decode b_Mod_readWords 179 = .ok (.aload_n 0, 1) := by decide +kernel
theorem d_Mod_readWords_180 : decode b_Mod_readWords 180 = .ok (.getfield 142, 3) := by decide +kernel
theorem d_Mod_readWords_183 : decode b_Mod_readWords 183 = .ok (.iload 5, 2) := by decide +kernel
theorem d_Mod_readWords_185 : decode b_Mod_readWords 185 = .ok (.iaload, 1) := by decide +kernel
theorem d_Mod_readWords_186 : decode b_Mod_readWords 186 = .ok (.ifCond .lt 16, 3) := by decide +kernel
theorem d_Mod_readWords_189 : decode b_Mod_readWords 189 = .ok (.aload_n 0, 1) := by decide +kernel
theorem d_Mod_readWords_190 : decode b_Mod_readWords 190 = .ok (.getfield 142, 3) := by decide +kernel
theorem d_Mod_readWords_193 : decode b_Mod_readWords 193 = .ok (.iload 5, 2) := by decide +kernel
theorem d_Mod_readWords_195 : decode b_Mod_readWords 195 = .ok (.iaload, 1) := by decide +kernel
theorem d_Mod_readWords_196 : decode b_Mod_readWords 196 = .ok (.i2l, 1) := by decide +kernel
theorem d_Mod_readWords_197 : decode b_Mod_readWords 197 = .ok (.lload_n 2, 1) := by decide +kernel
theorem d_Mod_readWords_198 : decode b_Mod_readWords 198 = .ok (.lcmp, 1) := by decide +kernel
theorem d_Mod_readWords_199 : decode b_Mod_readWords 199 = .ok (.ifCond .lt 12, 3) := by decide +kernel
theorem d_Mod_readWords_211 : decode b_Mod_readWords 211 = .ok (.aload_n 0, 1) := by decide +kernel
theorem d_Mod_readWords_212 : decode b_Mod_readWords 212 = .ok (.getfield 103, 3) := by decide +kernel
theorem d_Mod_readWords_215 : decode b_Mod_readWords 215 = .ok (.iload 5, 2) := by decide +kernel
theorem d_Mod_readWords_217 : decode b_Mod_readWords 217 = .ok (.aload_n 0, 1) := by decide +kernel
theorem d_Mod_readWords_218 : decode b_Mod_readWords 218 = .ok (.getfield 106, 3) := by decide +kernel
theorem d_Mod_readWords_221 : decode b_Mod_readWords 221 = .ok (.aload_n 0, 1) := by decide +kernel
theorem d_Mod_readWords_222 : decode b_Mod_readWords 222 = .ok (.getfield 142, 3) := by decide +kernel
theorem d_Mod_readWords_225 : decode b_Mod_readWords 225 = .ok (.iload 5, 2) := by decide +kernel
theorem d_Mod_readWords_227 : decode b_Mod_readWords 227 = .ok (.iaload, 1) := by decide +kernel
theorem d_Mod_readWords_228 : decode b_Mod_readWords 228 = .ok (.laload, 1) := by decide +kernel
theorem d_Mod_readWords_229 : decode b_Mod_readWords 229 = .ok (.lastore, 1) := by decide +kernel
theorem d_Mod_readWords_163 : decode b_Mod_readWords 163 = .ok (.iconst 0, 1) := by decide +kernel
theorem d_Mod_readWords_164 : decode b_Mod_readWords 164 = .ok (.istore 5, 2) := by decide +kernel
theorem d_Mod_readWords_139 : decode b_Mod_readWords 139 = .ok (.aload_n 0, 1) := by decide +kernel
theorem d_Mod_readWords_140 : decode b_Mod_readWords 140 = .ok (.getfield 550, 3) := by decide +kernel
theorem d_Mod_readWords_143 : decode b_Mod_readWords 143 = .ok (.ifCond .ne 20, 3) := by decide +kernel
theorem d_Mod_readWords_146 : decode b_Mod_readWords 146 = .ok (.aload_n 0, 1) := by decide +kernel
theorem d_Mod_readWords_147 : decode b_Mod_readWords 147 = .ok (.getfield 553, 3) := by decide +kernel
theorem d_Mod_readWords_150 : decode b_Mod_readWords 150 = .ok (.aload_n 0, 1) := by decide +kernel
theorem d_Mod_readWords_151 : decode b_Mod_readWords 151 = .ok (.getfield 608, 3) := by decide +kernel
theorem d_Mod_readWords_154 : decode b_Mod_readWords 154 = .ok (.if_icmp .ge 9, 3) := by decide +kernel
theorem d_Mod_readWords_157 : decode b_Mod_readWords 157 = .ok (.aload_n 0, 1) := by decide +kernel
theorem d_Mod_readWords_158 : decode b_Mod_readWords 158 = .ok (.bipush 6, 2) := by decide +kernel
theorem d_Mod_readWords_160 : decode b_Mod_readWords 160 = .ok (.putfield 550, 3) := by decide +kernel
theorem d_Mod_readWords_117 : decode b_Mod_readWords 117 = .ok (.aload_n 0, 1) := by decide +kernel
theorem d_Mod_readWords_118 : decode b_Mod_readWords 118 = .ok (.getfield 550, 3) := by decide +kernel
theorem d_Mod_readWords_121 : decode b_Mod_readWords 121 = .ok (.ifCond .ne 18, 3) := by decide +kernel
theorem d_Mod_readWords_124 : decode b_Mod_readWords 124 = .ok (.aload_n 0, 1) := by decide +kernel
theorem d_Mod_readWords_125 : decode b_Mod_readWords 125 = .ok (.aload_n 0, 1) := by decide +kernel
theorem d_Mod_readWords_126 : decode b_Mod_readWords 126 = .ok (.getfield 142, 3) := by decide +kernel
theorem d_Mod_readWords_129 : decode b_Mod_readWords 129 = .ok (.iload_n 1, 1) := by decide +kernel
theorem d_Mod_readWords_130 : decode b_Mod_readWords 130 = .ok (.iload 4, 2) := by decide +kernel
theorem d_Mod_readWords_132 : decode b_Mod_readWords 132 = .ok (.aload_n 0, 1) := by decide +kernel
theorem d_Mod_readWords_133 : decode b_Mod_readWords 133 = .ok (.getfield 608, 3) := by decide +kernel
theorem d_Mod_readWords_136 : decode b_Mod_readWords 136 = .ok (.invokevirtual 704, 3) := by decide +kernel
theorem d_Mod_readWords_86 : decode b_Mod_readWords 86 = .ok (.aload_n 0, 1) := by decide +kernel
theorem d_Mod_readWords_87 : decode b_Mod_readWords 87 = .ok (.iconst 1, 1) := by decide +kernel
theorem d_Mod_readWords_88 : decode b_Mod_readWords 88 = .ok (.aload_n 0, 1) := by decide +kernel
theorem d_Mod_readWords_89 : decode b_Mod_readWords 89 = .ok (.getfield 608, 3) := by decide +kernel
theorem d_Mod_readWords_92 : decode b_Mod_readWords 92 = .ok (.invokevirtual 717, 3) := by decide +kernel
theorem d_Mod_readWords_95 : decode b_Mod_readWords 95 = .ok (.l2i, 1) := by decide +kernel
theorem d_Mod_readWords_96 : decode b_Mod_readWords 96 = .ok (.istore 4, 2) := by decide +kernel
theorem d_Mod_readWords_98 : decode b_Mod_readWords 98 = .ok (.aload_n 0, 1) := by decide +kernel
theorem d_Mod_readWords_99 : decode b_Mod_readWords 99 = .ok (.getfield 550, 3) := by decide +kernel
theorem d_Mod_readWords_102 : decode b_Mod_readWords 102 = .ok (.ifCond .ne 15, 3) := by decide +kernel
theorem d_Mod_readWords_105 : decode b_Mod_readWords 105 = .ok (.iload 4, 2) := by decide +kernel
theorem d_Mod_readWords_107 : decode b_Mod_readWords 107 = .ok (.bipush 32, 2) := by decide +kernel
theorem d_Mod_readWords_109 : decode b_Mod_readWords 109 = .ok (.if_icmp .le 8, 3) := by decide +kernel
theorem d_Mod_readWords_112 : decode b_Mod_readWords 112 = .ok (.aload_n 0, 1) := by decide +kernel
theorem d_Mod_readWords_113 : decode b_Mod_readWords 113 = .ok (.iconst 5, 1) := by decide +kernel
theorem d_Mod_readWords_114 : decode b_Mod_readWords 114 = .ok (.putfield 550, 3) := by decide +kernel
theorem d_Mod_readWords_54 : decode b_Mod_readWords 54 = .ok (.iload 4, 2) := by decide +kernel
theorem d_Mod_readWords_56 : decode b_Mod_readWords 56 = .ok (.i2l, 1) := by decide +kernel
theorem d_Mod_readWords_57 : decode b_Mod_readWords 57 = .ok (.lload_n 2, 1) := by decide +kernel
theorem d_Mod_readWords_58 : decode b_Mod_readWords 58 = .ok (.lcmp, 1) := by decide +kernel
theorem d_Mod_readWords_59 : decode b_Mod_readWords 59 = .ok (.ifCond .ge 27, 3) := by decide +kernel
theorem d_Mod_readWords_62 : decode b_Mod_readWords 62 = .ok (.aload_n 0, 1) := by decide +kernel
theorem d_Mod_readWords_63 : decode b_Mod_readWords 63 = .ok (.getfield 550, 3) := by decide +kernel
theorem d_Mod_readWords_66 : decode b_Mod_readWords 66 = .ok (.ifCond .ne 20, 3) := by decide +kernel
theorem d_Mod_readWords_69 : decode b_Mod_readWords 69 = .ok (.aload_n 0, 1) := by decide +kernel
theorem d_Mod_readWords_70 : decode b_Mod_readWords 70 = .ok (.getfield 106, 3) := by decide +kernel
theorem d_Mod_readWords_73 : decode b_Mod_readWords 73 = .ok (.iload 4, 2) := by decide +kernel
theorem d_Mod_readWords_75 : decode b_Mod_readWords 75 = .ok (.aload_n 0, 1) := by decide +kernel
theorem d_Mod_readWords_76 : decode b_Mod_readWords 76 = .ok (.invokevirtual 721, 3) := by decide +kernel
theorem d_Mod_readWords_79 : decode b_Mod_readWords 79 = .ok (.lastore, 1) := by decide +kernel
theorem d_Mod_readWords_80 : decode b_Mod_readWords 80 = .ok (.iinc 4 1, 3) := by decide +kernel
theorem d_Mod_readWords_83 : decode b_Mod_readWords 83 = .ok (.goto (-29), 3) := by decide +kernel
theorem d_Mod_readWords_48 : decode b_Mod_readWords 48 = .ok (.putfield 701, 3) := by decide +kernel
theorem d_Mod_readWords_51 : decode b_Mod_readWords 51 = .ok (.iconst 0, 1) := by decide +kernel
theorem d_Mod_readWords_52 : decode b_Mod_readWords 52 = .ok (.istore 4, 2) := by decide +kernel
theorem d_Mod_readWords_34 : decode b_Mod_readWords 34 = .ok (.aload_n 0, 1) := by decide +kernel
theorem d_Mod_readWords_35 : decode b_Mod_readWords 35 = .ok (.aload_n 0, 1) := by decide +kernel
theorem d_Mod_readWords_36 : decode b_Mod_readWords 36 = .ok (.getfield 550, 3) := by decide +kernel
theorem d_Mod_readWords_39 : decode b_Mod_readWords 39 = .ok (.ifCond .ne 8, 3) := by decide +kernel
theorem d_Mod_readWords_47 : decode b_Mod_readWords 47 = .ok (.iconst 0, 1) := by decide +kernel
theorem d_Mod_readWords_42 : decode b_Mod_readWords 42 = .ok (.lload_n 2, 1) := by decide +kernel
theorem d_Mod_readWords_43 : decode b_Mod_readWords 43 = .ok (.l2i, 1) := by decide +kernel
theorem d_Mod_readWords_44 : decode b_Mod_readWords 44 = .ok (.goto 4, 3) := by decide +kernel
theorem d_Mod_readWords_29 : decode b_Mod_readWords 29 = .ok (.aload_n 0, 1) := by decide +kernel
theorem d_Mod_readWords_30 : decode b_Mod_readWords 30 = .ok (.iconst 4, 1) := by decide +kernel
theorem d_Mod_readWords_31 : decode b_Mod_readWords 31 = .ok (.putfield 550, 3) := by decide +kernel
theorem d_Mod_readWords_0 : decode b_Mod_readWords 0 = .ok (.aload_n 0, 1) := by decide +kernel
theorem d_Mod_readWords_1 : decode b_Mod_readWords 1 = .ok (.aload_n 0, 1) := by decide +kernel
theorem d_Mod_readWords_2 : decode b_Mod_readWords 2 = .ok (.getfield 608, 3) := by decide +kernel
theorem d_Mod_readWords_5 : decode b_Mod_readWords 5 = .ok (.invokevirtual 571, 3) := by decide +kernel
theorem d_Mod_readWords_8 : decode b_Mod_readWords 8 = .ok (.lstore_n 2, 1) := by decide +kernel
theorem d_Mod_readWords_9 : decode b_Mod_readWords 9 = .ok (.aload_n 0, 1) := by decide +kernel
theorem d_Mod_readWords_10 : decode b_Mod_readWords 10 = .ok (.getfield 550, 3) := by decide +kernel
theorem d_Mod_readWords_13 : decode b_Mod_readWords 13 = .ok (.ifCond .ne 21, 3) := by decide +kernel
theorem d_Mod_readWords_16 : decode b_Mod_readWords 16 = .ok (.lload_n 2, 1) := by decide +kernel
theorem d_Mod_readWords_17 : decode b_Mod_readWords 17 = .ok (.lconst 0, 1) := by decide +kernel
theorem d_Mod_readWords_18 : decode b_Mod_readWords 18 = .ok (.lcmp, 1) := by decide +kernel
theorem d_Mod_readWords_19 : decode b_Mod_readWords 19 = .ok (.ifCond .lt 10, 3) := by decide +kernel
theorem d_Mod_readWords_22 : decode b_Mod_readWords 22 = .ok (.lload_n 2, 1) := by decide +kernel
theorem d_Mod_readWords_23 : decode b_Mod_readWords 23 = .ok (.iload_n 1, 1) := by decide +kernel
theorem d_Mod_readWords_24 : decode b_Mod_readWords 24 = .ok (.i2l, 1) := by decide +kernel
theorem d_Mod_readWords_25 : decode b_Mod_readWords 25 = .ok (.lcmp, 1) := by decide +kernel
theorem d_Mod_readWords_26 : decode b_Mod_readWords 26 = .ok (.ifCond .le 8, 3) := by decide +kernel
section
variable (l : Launch) (dC : Nat → ClassId) (dI : Nat → Nat → Nat) (cI cB cJ cZ : ClassId)
set_option maxRecDepth 100000 in
set_option maxHeartbeats 4000000 in
set_option maxRecDepth 100000 in
theorem t_Mod_readDictionary_351 {p : Program} {l : Launch} {e : Env} {R : Room} {s : State} {m : MethodId} {args : Array Value} {below : List Frame} {meth : Method} {c : Code} {cells slots : Nat} {Q : State → Prop} {dC : Nat → ClassId} {dI : Nat → Nat → Nat} {cI cB cJ cZ : ClassId} {A : Nat → Prop} {ad : Nat → Nat} {post : St → Prop} {rec247 : Int32 → Int64 → Int32 → Int32 → St → Prop} {rec351 : Int32 → Int64 → Int32 → Int32 → Int32 → Int32 → Int32 → Int32 → St → Prop} (hx : p.tables.exec = Jvm.exec) (hb : c.code = b_Mod_readDictionary) (hml : c.maxLocals = 10) (hown : s.vm.findClass R_Mod = some m.cls) (hT : ∀ w ∈ TG, w.before args s = true) (hK : va_K (dC, dI) CL (TY cI cB cJ cZ) s) (hN : NW s) (hA : ∀ q : Nat, s.heap.size ≤ q → A q) (hRc : cells ≤ R.cells) (hRs : slots ≤ R.slots) (hRf : 3 ≤ R.frames) (hRl : 84 ≤ R.locals) (hret : ∀ (x : St) (H : Heap) (locs : List Loc) (pc : Nat) (ls : Array Slot), decode b_Mod_readDictionary pc = .ok (.return_, 1) → post x → Wd dC dI cI cB cJ cZ ad stM kcM 115 A x H → va_S A s.heap H locs → W p l e R s m args below meth c H locs cells slots Q (F0 m pc ls [])) (hrec247 : ∀ (l1 : Int32) (l2 : Int64) (l4 : Int32) (l5 : Int32) (x : St) (H : Heap) (locs : List Loc) (ls : Array Slot), rec247 l1 l2 l4 l5 x → Wd dC dI cI cB cJ cZ ad stM kcM 115 A x H → va_S A s.heap H locs → lv_has ls 10 [(0, .ref (ad 0)), (1, .int l1), (2, .long l2), (4, .int l4), (5, .int l5)] → W p l e R s m args below meth c H locs cells slots Q (F0 m 247 ls [])) (hrec351 : ∀ (l1 : Int32) (l2 : Int64) (l4 : Int32) (l5 : Int32) (l6 : Int32) (l7 : Int32) (l8 : Int32) (l9 : Int32) (x : St) (H : Heap) (locs : List Loc) (ls : Array Slot), rec351 l1 l2 l4 l5 l6 l7 l8 l9 x → Wd dC dI cI cB cJ cZ ad stM kcM 115 A x H → va_S A s.heap H locs → lv_has ls 10 [(0, .ref (ad 0)), (1, .int l1), (2, .long l2), (4, .int l4), (5, .int l5), (6, .int l6), (7, .int l7), (8, .int l8), (9, .int l9)] → W p l e R s m args below meth c H locs cells slots Q (F0 m 351 ls [])) : ∀ (l1 : Int32) (l2 : Int64) (l4 : Int32) (l5 : Int32) (l6 : Int32) (l7 : Int32) (l8 : Int32) (l9 : Int32) (x : St) (H : Heap) (locs : List Loc) (ls : Array Slot), j_Mod_readDictionary_351 post rec247 rec351 l1 l2 l4 l5 l6 l7 l8 l9 x → Wd dC dI cI cB cJ cZ ad stM kcM 115 A x H → va_S A s.heap H locs → lv_has ls 10 [(0, .ref (ad 0)), (1, .int l1), (2, .long l2), (4, .int l4), (5, .int l5), (6, .int l6), (7, .int l7), (8, .int l8), (9, .int l9)] → W p l e R s m args below meth c H locs cells slots Q (F0 m 351 ls []) := by
  intro l1 l2 l4 l5 l6 l7 l8 l9 x H locs ls  hw hW hS hl
  unfold j_Mod_readDictionary_351 at hw
  refine lv_iload hx hb d_Mod_readDictionary_351 (lv_at hl 8 rfl) ?_
  refine lv_iload hx hb d_Mod_readDictionary_353 (lv_at hl 7 rfl) ?_
  refine lv_icmp_ge (tgt := 396) hx hb d_Mod_readDictionary_355 (by decide) (fun c1355 => ?_) (fun c1355 => ?_)
  · have hw := hw.1 c1355
    refine lv_aload_n hx hb d_Mod_readDictionary_396 rfl (lv_at hl 0 rfl) ?_
    refine lv_dup hx hb d_Mod_readDictionary_397 rfl ?_
    refine w_geti (k := 58) (t := 12) (C := R_Mod) (T := F_Mod) (N := 167) hx hb hT hown hK hW ko_0.1 ko_0.2 (by decide) in_Mod rfl rfl (by decide) rfl fr_Mod_58 w_8_234 d_Mod_readDictionary_398 ?_
    refine lv_iconst (v := 1) hx hb d_Mod_readDictionary_401 (by decide) ?_
    refine lv_iadd hx hb d_Mod_readDictionary_402 ?_
    refine w_puti (ty := .int) (k := 58) (t := 12) (C := R_Mod) (T := F_Mod) (N := 167) hx hb hT hown hK hW hS ko_0.1 ko_0.2 (by decide) in_Mod t_Mod t_Mod_ok n_Mod rfl rfl (by decide) rfl fr_Mod_58 w_8_234 (by decide +kernel) rfl rfl d_Mod_readDictionary_403 (fun H locs hW hS => ?_)
    obtain ⟨x1356, ex1356⟩ : ∃ y : St, y = setI x 0 58 ((fI x 0 58) + 1) := ⟨_, rfl⟩
    rw [← ex1356] at hW
    have hw := hw x1356 ex1356
    refine lv_aload_n hx hb d_Mod_readDictionary_406 rfl (lv_at hl 0 rfl) ?_
    refine w_getf (q := 34) (k := 53) (t := 12) (C := R_Mod) (T := F_Mod) (N := 167) hx hb hT hown hK hW ko_0.1 ko_0.2 (by decide) in_Mod rfl rfl (by decide) rfl fr_Mod_53 w_8_229 d_Mod_readDictionary_407 rfl ?_
    refine lv_aload_n hx hb d_Mod_readDictionary_410 rfl (lv_at hl 0 rfl) ?_
    refine w_geti (k := 58) (t := 12) (C := R_Mod) (T := F_Mod) (N := 167) hx hb hT hown hK hW ko_0.1 ko_0.2 (by decide) in_Mod rfl rfl (by decide) rfl fr_Mod_58 w_8_234 d_Mod_readDictionary_411 ?_
    refine lv_aload_n hx hb d_Mod_readDictionary_414 rfl (lv_at hl 0 rfl) ?_
    refine w_getf (q := 34) (k := 53) (t := 12) (C := R_Mod) (T := F_Mod) (N := 167) hx hb hT hown hK hW ko_0.1 ko_0.2 (by decide) in_Mod rfl rfl (by decide) rfl fr_Mod_53 w_8_229 d_Mod_readDictionary_415 rfl ?_
    refine lv_aload_n hx hb d_Mod_readDictionary_418 rfl (lv_at hl 0 rfl) ?_
    refine w_geti (k := 58) (t := 12) (C := R_Mod) (T := F_Mod) (N := 167) hx hb hT hown hK hW ko_0.1 ko_0.2 (by decide) in_Mod rfl rfl (by decide) rfl fr_Mod_58 w_8_234 d_Mod_readDictionary_419 ?_
    refine lv_iconst (v := 1) hx hb d_Mod_readDictionary_422 (by decide) ?_
    refine lv_isub hx hb d_Mod_readDictionary_423 ?_
    obtain ⟨hi, hw⟩ := hw
    refine w_iald (o := 34) hx hb hK hW ko_34.1 ko_34.2 hi d_Mod_readDictionary_424 ?_
    refine lv_iload hx hb d_Mod_readDictionary_425 (lv_at hl 7 rfl) ?_
    refine lv_iadd hx hb d_Mod_readDictionary_427 ?_
    obtain ⟨hi, hw⟩ := hw
    refine w_iast (o := 34) hx hb hK hW hS ko_34.1 ko_34.2 hi d_Mod_readDictionary_428 (fun H locs hW hS => ?_)
    obtain ⟨x1357, ex1357⟩ : ∃ y : St, y = setA x1356 34 (fI x1356 0 58) ((rA x1356 34 ((fI x1356 0 58) - 1)) + l8) := ⟨_, rfl⟩
    rw [← ex1357] at hW
    have hw := hw x1357 ex1357
    refine lv_iinc (v := (l5 + 1)) (lv' := [(5, .int (l5 + 1)), (0, .ref (ad 0)), (1, .int l1), (2, .long l2), (4, .int l4), (6, .int l6), (7, .int l7), (8, .int l8), (9, .int l9)]) hx hb d_Mod_readDictionary_429 hl (k := 4) rfl rfl (by decide) rfl (fun ls hl => ?_)
    refine lv_goto (tgt := 247) hx hb d_Mod_readDictionary_432 (by decide) ?_
    exact hrec247 l1 l2 l4 (l5 + 1) x1357 H locs ls  hw hW hS (lv_sub hl [1, 2, 3, 4, 0] rfl)
  · have hw := hw.2 c1355
    refine lv_aload_n hx hb d_Mod_readDictionary_358 rfl (lv_at hl 0 rfl) ?_
    refine w_getf (q := 37) (k := 56) (t := 12) (C := R_Mod) (T := F_Mod) (N := 167) hx hb hT hown hK hW ko_0.1 ko_0.2 (by decide) in_Mod rfl rfl (by decide) rfl fr_Mod_56 w_8_232 d_Mod_readDictionary_359 rfl ?_
    refine lv_aload_n hx hb d_Mod_readDictionary_362 rfl (lv_at hl 0 rfl) ?_
    refine w_getf (q := 34) (k := 53) (t := 12) (C := R_Mod) (T := F_Mod) (N := 167) hx hb hT hown hK hW ko_0.1 ko_0.2 (by decide) in_Mod rfl rfl (by decide) rfl fr_Mod_53 w_8_229 d_Mod_readDictionary_363 rfl ?_
    refine lv_aload_n hx hb d_Mod_readDictionary_366 rfl (lv_at hl 0 rfl) ?_
    refine w_geti (k := 58) (t := 12) (C := R_Mod) (T := F_Mod) (N := 167) hx hb hT hown hK hW ko_0.1 ko_0.2 (by decide) in_Mod rfl rfl (by decide) rfl fr_Mod_58 w_8_234 d_Mod_readDictionary_367 ?_
    obtain ⟨hi, hw⟩ := hw
    refine w_iald (o := 34) hx hb hK hW ko_34.1 ko_34.2 hi d_Mod_readDictionary_370 ?_
    refine lv_iload hx hb d_Mod_readDictionary_371 (lv_at hl 8 rfl) ?_
    refine lv_iadd hx hb d_Mod_readDictionary_373 ?_
    refine lv_aload_n hx hb d_Mod_readDictionary_374 rfl (lv_at hl 0 rfl) ?_
    refine w_getf (q := 38) (k := 57) (t := 12) (C := R_Mod) (T := F_Mod) (N := 167) hx hb hT hown hK hW ko_0.1 ko_0.2 (by decide) in_Mod rfl rfl (by decide) rfl fr_Mod_57 w_8_233 d_Mod_readDictionary_375 rfl ?_
    refine lv_aload_n hx hb d_Mod_readDictionary_378 rfl (lv_at hl 0 rfl) ?_
    refine w_getf (q := 35) (k := 54) (t := 12) (C := R_Mod) (T := F_Mod) (N := 167) hx hb hT hown hK hW ko_0.1 ko_0.2 (by decide) in_Mod rfl rfl (by decide) rfl fr_Mod_54 w_8_230 d_Mod_readDictionary_379 rfl ?_
    refine lv_iload hx hb d_Mod_readDictionary_382 (lv_at hl 5 rfl) ?_
    obtain ⟨hi, hw⟩ := hw
    refine w_iald (o := 35) hx hb hK hW ko_35.1 ko_35.2 hi d_Mod_readDictionary_384 ?_
    refine lv_iload hx hb d_Mod_readDictionary_385 (lv_at hl 8 rfl) ?_
    refine lv_iadd hx hb d_Mod_readDictionary_387 ?_
    obtain ⟨hi, hw⟩ := hw
    refine w_iald (o := 38) hx hb hK hW ko_38.1 ko_38.2 hi d_Mod_readDictionary_388 ?_
    obtain ⟨hi, hw⟩ := hw
    refine w_iast (o := 37) hx hb hK hW hS ko_37.1 ko_37.2 hi d_Mod_readDictionary_389 (fun H locs hW hS => ?_)
    obtain ⟨x1358, ex1358⟩ : ∃ y : St, y = setA x 37 ((rA x 34 (fI x 0 58)) + l9) (rA x 38 ((rA x 35 l6) + l9)) := ⟨_, rfl⟩
    rw [← ex1358] at hW
    have hw := hw x1358 ex1358
    refine lv_iinc (v := (l9 + 1)) (lv' := [(9, .int (l9 + 1)), (0, .ref (ad 0)), (1, .int l1), (2, .long l2), (4, .int l4), (5, .int l5), (6, .int l6), (7, .int l7), (8, .int l8)]) hx hb d_Mod_readDictionary_390 hl (k := 8) rfl rfl (by decide) rfl (fun ls hl => ?_)
    refine lv_goto (tgt := 351) hx hb d_Mod_readDictionary_393 (by decide) ?_
    exact hrec351 l1 l2 l4 l5 l6 l7 l8 (l9 + 1) x1358 H locs ls  hw hW hS (lv_sub hl [1, 2, 3, 4, 5, 6, 7, 8, 0] rfl)
set_option maxHeartbeats 4000000 in
set_option maxRecDepth 100000 in
theorem tl_Mod_readDictionary_351 {p : Program} {l : Launch} {e : Env} {R : Room} {s : State} {m : MethodId} {args : Array Value} {below : List Frame} {meth : Method} {c : Code} {cells slots : Nat} {Q : State → Prop} {dC : Nat → ClassId} {dI : Nat → Nat → Nat} {cI cB cJ cZ : ClassId} {A : Nat → Prop} {ad : Nat → Nat} {post : St → Prop} {rec247 : Int32 → Int64 → Int32 → Int32 → St → Prop} (hx : p.tables.exec = Jvm.exec) (hb : c.code = b_Mod_readDictionary) (hml : c.maxLocals = 10) (hown : s.vm.findClass R_Mod = some m.cls) (hT : ∀ w ∈ TG, w.before args s = true) (hK : va_K (dC, dI) CL (TY cI cB cJ cZ) s) (hN : NW s) (hA : ∀ q : Nat, s.heap.size ≤ q → A q) (hRc : cells ≤ R.cells) (hRs : slots ≤ R.slots) (hRf : 3 ≤ R.frames) (hRl : 84 ≤ R.locals) (hret : ∀ (x : St) (H : Heap) (locs : List Loc) (pc : Nat) (ls : Array Slot), decode b_Mod_readDictionary pc = .ok (.return_, 1) → post x → Wd dC dI cI cB cJ cZ ad stM kcM 115 A x H → va_S A s.heap H locs → W p l e R s m args below meth c H locs cells slots Q (F0 m pc ls [])) (hrec247 : ∀ (l1 : Int32) (l2 : Int64) (l4 : Int32) (l5 : Int32) (x : St) (H : Heap) (locs : List Loc) (ls : Array Slot), rec247 l1 l2 l4 l5 x → Wd dC dI cI cB cJ cZ ad stM kcM 115 A x H → va_S A s.heap H locs → lv_has ls 10 [(0, .ref (ad 0)), (1, .int l1), (2, .long l2), (4, .int l4), (5, .int l5)] → W p l e R s m args below meth c H locs cells slots Q (F0 m 247 ls [])) : ∀ n : Nat, ∀ (l1 : Int32) (l2 : Int64) (l4 : Int32) (l5 : Int32) (l6 : Int32) (l7 : Int32) (l8 : Int32) (l9 : Int32) (x : St) (H : Heap) (locs : List Loc) (ls : Array Slot), wl_Mod_readDictionary_351 post rec247 n l1 l2 l4 l5 l6 l7 l8 l9 x → Wd dC dI cI cB cJ cZ ad stM kcM 115 A x H → va_S A s.heap H locs → lv_has ls 10 [(0, .ref (ad 0)), (1, .int l1), (2, .long l2), (4, .int l4), (5, .int l5), (6, .int l6), (7, .int l7), (8, .int l8), (9, .int l9)] → W p l e R s m args below meth c H locs cells slots Q (F0 m 351 ls []) := by
  intro n
  induction n with
  | zero => intro l1 l2 l4 l5 l6 l7 l8 l9 x H locs ls  hw; exact hw.elim
  | succ n ih => intro l1 l2 l4 l5 l6 l7 l8 l9 x H locs ls  hw hW hS hl; exact t_Mod_readDictionary_351 hx hb hml hown hT hK hN hA hRc hRs hRf hRl hret hrec247 ih l1 l2 l4 l5 l6 l7 l8 l9 x H locs ls  hw hW hS hl
set_option maxRecDepth 100000 in
set_option maxHeartbeats 4000000 in
set_option maxRecDepth 100000 in
theorem t_Mod_readDictionary_341 {p : Program} {l : Launch} {e : Env} {R : Room} {s : State} {m : MethodId} {args : Array Value} {below : List Frame} {meth : Method} {c : Code} {cells slots : Nat} {Q : State → Prop} {dC : Nat → ClassId} {dI : Nat → Nat → Nat} {cI cB cJ cZ : ClassId} {A : Nat → Prop} {ad : Nat → Nat} {post : St → Prop} (hx : p.tables.exec = Jvm.exec) (hb : c.code = b_Mod_readDictionary) (hml : c.maxLocals = 10) (hown : s.vm.findClass R_Mod = some m.cls) (hT : ∀ w ∈ TG, w.before args s = true) (hK : va_K (dC, dI) CL (TY cI cB cJ cZ) s) (hN : NW s) (hA : ∀ q : Nat, s.heap.size ≤ q → A q) (hRc : cells ≤ R.cells) (hRs : slots ≤ R.slots) (hRf : 3 ≤ R.frames) (hRl : 84 ≤ R.locals) (hret : ∀ (x : St) (H : Heap) (locs : List Loc) (pc : Nat) (ls : Array Slot), decode b_Mod_readDictionary pc = .ok (.return_, 1) → post x → Wd dC dI cI cB cJ cZ ad stM kcM 115 A x H → va_S A s.heap H locs → W p l e R s m args below meth c H locs cells slots Q (F0 m pc ls []))  : ∀ (l1 : Int32) (l2 : Int64) (l4 : Int32) (l5 : Int32) (l6 : Int32) (l7 : Int32) (l8 : Int32) (x : St) (H : Heap) (locs : List Loc) (ls : Array Slot), j_Mod_readDictionary_341 post l1 l2 l4 l5 l6 l7 l8 x → Wd dC dI cI cB cJ cZ ad stM kcM 115 A x H → va_S A s.heap H locs → lv_has ls 10 [(0, .ref (ad 0)), (1, .int l1), (2, .long l2), (4, .int l4), (5, .int l5), (6, .int l6), (7, .int l7), (8, .int l8)] → W p l e R s m args below meth c H locs cells slots Q (F0 m 341 ls []) := by
  intro l1 l2 l4 l5 l6 l7 l8 x H locs ls  hw hW hS hl
  unfold j_Mod_readDictionary_341 at hw
  refine lv_aload_n hx hb d_Mod_readDictionary_341 rfl (lv_at hl 0 rfl) ?_
  refine lv_bipush (v := 7) hx hb d_Mod_readDictionary_342 (by decide) ?_
  refine w_puti (ty := .int) (k := 69) (t := 12) (C := R_Mod) (T := F_Mod) (N := 167) hx hb hT hown hK hW hS ko_0.1 ko_0.2 (by decide) in_Mod t_Mod t_Mod_ok n_Mod rfl rfl (by decide) rfl fr_Mod_69 w_9_5 (by decide +kernel) rfl rfl d_Mod_readDictionary_344 (fun H locs hW hS => ?_)
  obtain ⟨x1359, ex1359⟩ : ∃ y : St, y = setI x 0 69 7 := ⟨_, rfl⟩
  rw [← ex1359] at hW
  have hw := hw x1359 ex1359
  exact hret x1359 H locs 347 ls d_Mod_readDictionary_347 hw hW hS
set_option maxRecDepth 100000 in
set_option maxHeartbeats 4000000 in
set_option maxRecDepth 100000 in
theorem t_Mod_readDictionary_316 {p : Program} {l : Launch} {e : Env} {R : Room} {s : State} {m : MethodId} {args : Array Value} {below : List Frame} {meth : Method} {c : Code} {cells slots : Nat} {Q : State → Prop} {dC : Nat → ClassId} {dI : Nat → Nat → Nat} {cI cB cJ cZ : ClassId} {A : Nat → Prop} {ad : Nat → Nat} {post : St → Prop} {rec247 : Int32 → Int64 → Int32 → Int32 → St → Prop} (hx : p.tables.exec = Jvm.exec) (hb : c.code = b_Mod_readDictionary) (hml : c.maxLocals = 10) (hown : s.vm.findClass R_Mod = some m.cls) (hT : ∀ w ∈ TG, w.before args s = true) (hK : va_K (dC, dI) CL (TY cI cB cJ cZ) s) (hN : NW s) (hA : ∀ q : Nat, s.heap.size ≤ q → A q) (hRc : cells ≤ R.cells) (hRs : slots ≤ R.slots) (hRf : 3 ≤ R.frames) (hRl : 84 ≤ R.locals) (hret : ∀ (x : St) (H : Heap) (locs : List Loc) (pc : Nat) (ls : Array Slot), decode b_Mod_readDictionary pc = .ok (.return_, 1) → post x → Wd dC dI cI cB cJ cZ ad stM kcM 115 A x H → va_S A s.heap H locs → W p l e R s m args below meth c H locs cells slots Q (F0 m pc ls [])) (hrec247 : ∀ (l1 : Int32) (l2 : Int64) (l4 : Int32) (l5 : Int32) (x : St) (H : Heap) (locs : List Loc) (ls : Array Slot), rec247 l1 l2 l4 l5 x → Wd dC dI cI cB cJ cZ ad stM kcM 115 A x H → va_S A s.heap H locs → lv_has ls 10 [(0, .ref (ad 0)), (1, .int l1), (2, .long l2), (4, .int l4), (5, .int l5)] → W p l e R s m args below meth c H locs cells slots Q (F0 m 247 ls [])) : ∀ (l1 : Int32) (l2 : Int64) (l4 : Int32) (l5 : Int32) (l6 : Int32) (l7 : Int32) (s0 : Int32) (x : St) (H : Heap) (locs : List Loc) (ls : Array Slot), j_Mod_readDictionary_316 post rec247 l1 l2 l4 l5 l6 l7 s0 x → Wd dC dI cI cB cJ cZ ad stM kcM 115 A x H → va_S A s.heap H locs → lv_has ls 10 [(0, .ref (ad 0)), (1, .int l1), (2, .long l2), (4, .int l4), (5, .int l5), (6, .int l6), (7, .int l7)] → W p l e R s m args below meth c H locs cells slots Q (F0 m 316 ls [.int s0]) := by
  intro l1 l2 l4 l5 l6 l7 s0 x H locs ls  hw hW hS hl
  unfold j_Mod_readDictionary_316 at hw
  refine lv_istore (lv' := [(8, .int s0), (0, .ref (ad 0)), (1, .int l1), (2, .long l2), (4, .int l4), (5, .int l5), (6, .int l6), (7, .int l7)]) hx hb d_Mod_readDictionary_316 hl (by decide) rfl (fun ls hl => ?_)
  refine lv_iload hx hb d_Mod_readDictionary_318 (lv_at hl 7 rfl) ?_
  refine lv_if_eq (tgt := 341) hx hb d_Mod_readDictionary_320 (by decide) (fun c1360 => ?_) (fun c1360 => ?_)
  · have hw := hw.1 c1360
    exact t_Mod_readDictionary_341 hx hb hml hown hT hK hN hA hRc hRs hRf hRl hret  l1 l2 l4 l5 l6 l7 s0 x H locs ls  hw hW hS (lv_sub hl [1, 2, 3, 4, 5, 6, 7, 0] rfl)
  · have hw := hw.2 c1360
    refine lv_aload_n hx hb d_Mod_readDictionary_323 rfl (lv_at hl 1 rfl) ?_
    refine w_getf (q := 34) (k := 53) (t := 12) (C := R_Mod) (T := F_Mod) (N := 167) hx hb hT hown hK hW ko_0.1 ko_0.2 (by decide) in_Mod rfl rfl (by decide) rfl fr_Mod_53 w_8_229 d_Mod_readDictionary_324 rfl ?_
    refine lv_aload_n hx hb d_Mod_readDictionary_327 rfl (lv_at hl 1 rfl) ?_
    refine w_geti (k := 58) (t := 12) (C := R_Mod) (T := F_Mod) (N := 167) hx hb hT hown hK hW ko_0.1 ko_0.2 (by decide) in_Mod rfl rfl (by decide) rfl fr_Mod_58 w_8_234 d_Mod_readDictionary_328 ?_
    obtain ⟨hi, hw⟩ := hw
    refine w_iald (o := 34) hx hb hK hW ko_34.1 ko_34.2 hi d_Mod_readDictionary_331 ?_
    refine lv_iload hx hb d_Mod_readDictionary_332 (lv_at hl 0 rfl) ?_
    refine lv_iadd hx hb d_Mod_readDictionary_334 ?_
    refine lv_sipush (v := 20000) hx hb d_Mod_readDictionary_335 (by decide) ?_
    refine lv_icmp_le (tgt := 348) hx hb d_Mod_readDictionary_338 (by decide) (fun c1361 => ?_) (fun c1361 => ?_)
    · have hw := hw.1 c1361
      refine lv_iconst (v := 0) hx hb d_Mod_readDictionary_348 (by decide) ?_
      refine lv_istore (lv' := [(9, .int 0), (8, .int s0), (0, .ref (ad 0)), (1, .int l1), (2, .long l2), (4, .int l4), (5, .int l5), (6, .int l6), (7, .int l7)]) hx hb d_Mod_readDictionary_349 hl (by decide) rfl (fun ls hl => ?_)
      obtain ⟨n, hw⟩ := hw
      exact tl_Mod_readDictionary_351 hx hb hml hown hT hK hN hA hRc hRs hRf hRl hret hrec247 n l1 l2 l4 l5 l6 l7 s0 0 x H locs ls  hw hW hS (lv_sub hl [2, 3, 4, 5, 6, 7, 8, 1, 0] rfl)
    · have hw := hw.2 c1361
      exact t_Mod_readDictionary_341 hx hb hml hown hT hK hN hA hRc hRs hRf hRl hret  l1 l2 l4 l5 l6 l7 s0 x H locs ls  hw hW hS (lv_sub hl [1, 2, 3, 4, 5, 6, 7, 0] rfl)
set_option maxRecDepth 100000 in
set_option maxHeartbeats 4000000 in
set_option maxRecDepth 100000 in
theorem t_Mod_readDictionary_288 {p : Program} {l : Launch} {e : Env} {R : Room} {s : State} {m : MethodId} {args : Array Value} {below : List Frame} {meth : Method} {c : Code} {cells slots : Nat} {Q : State → Prop} {dC : Nat → ClassId} {dI : Nat → Nat → Nat} {cI cB cJ cZ : ClassId} {A : Nat → Prop} {ad : Nat → Nat} {post : St → Prop} {rec247 : Int32 → Int64 → Int32 → Int32 → St → Prop} (hx : p.tables.exec = Jvm.exec) (hb : c.code = b_Mod_readDictionary) (hml : c.maxLocals = 10) (hown : s.vm.findClass R_Mod = some m.cls) (hT : ∀ w ∈ TG, w.before args s = true) (hK : va_K (dC, dI) CL (TY cI cB cJ cZ) s) (hN : NW s) (hA : ∀ q : Nat, s.heap.size ≤ q → A q) (hRc : cells ≤ R.cells) (hRs : slots ≤ R.slots) (hRf : 3 ≤ R.frames) (hRl : 84 ≤ R.locals) (hret : ∀ (x : St) (H : Heap) (locs : List Loc) (pc : Nat) (ls : Array Slot), decode b_Mod_readDictionary pc = .ok (.return_, 1) → post x → Wd dC dI cI cB cJ cZ ad stM kcM 115 A x H → va_S A s.heap H locs → W p l e R s m args below meth c H locs cells slots Q (F0 m pc ls [])) (hrec247 : ∀ (l1 : Int32) (l2 : Int64) (l4 : Int32) (l5 : Int32) (x : St) (H : Heap) (locs : List Loc) (ls : Array Slot), rec247 l1 l2 l4 l5 x → Wd dC dI cI cB cJ cZ ad stM kcM 115 A x H → va_S A s.heap H locs → lv_has ls 10 [(0, .ref (ad 0)), (1, .int l1), (2, .long l2), (4, .int l4), (5, .int l5)] → W p l e R s m args below meth c H locs cells slots Q (F0 m 247 ls [])) : ∀ (l1 : Int32) (l2 : Int64) (l4 : Int32) (l5 : Int32) (l6 : Int32) (s0 : Int32) (x : St) (H : Heap) (locs : List Loc) (ls : Array Slot), j_Mod_readDictionary_288 post rec247 l1 l2 l4 l5 l6 s0 x → Wd dC dI cI cB cJ cZ ad stM kcM 115 A x H → va_S A s.heap H locs → lv_has ls 10 [(0, .ref (ad 0)), (1, .int l1), (2, .long l2), (4, .int l4), (5, .int l5), (6, .int l6)] → W p l e R s m args below meth c H locs cells slots Q (F0 m 288 ls [.int s0]) := by
  intro l1 l2 l4 l5 l6 s0 x H locs ls  hw hW hS hl
  unfold j_Mod_readDictionary_288 at hw
  refine lv_istore (lv' := [(7, .int s0), (0, .ref (ad 0)), (1, .int l1), (2, .long l2), (4, .int l4), (5, .int l5), (6, .int l6)]) hx hb d_Mod_readDictionary_288 hl (by decide) rfl (fun ls hl => ?_)
  refine lv_iload hx hb d_Mod_readDictionary_290 (lv_at hl 0 rfl) ?_
  refine lv_if_eq (tgt := 315) hx hb d_Mod_readDictionary_292 (by decide) (fun c1362 => ?_) (fun c1362 => ?_)
  · have hw := hw.1 c1362
    refine lv_iconst (v := 0) hx hb d_Mod_readDictionary_315 (by decide) ?_
    exact t_Mod_readDictionary_316 hx hb hml hown hT hK hN hA hRc hRs hRf hRl hret hrec247 l1 l2 l4 l5 l6 s0 0 x H locs ls  hw hW hS (lv_sub hl [1, 2, 3, 4, 5, 6, 0] rfl)
  · have hw := hw.2 c1362
    refine lv_aload_n hx hb d_Mod_readDictionary_295 rfl (lv_at hl 1 rfl) ?_
    refine w_getf (q := 35) (k := 54) (t := 12) (C := R_Mod) (T := F_Mod) (N := 167) hx hb hT hown hK hW ko_0.1 ko_0.2 (by decide) in_Mod rfl rfl (by decide) rfl fr_Mod_54 w_8_230 d_Mod_readDictionary_296 rfl ?_
    refine lv_iload hx hb d_Mod_readDictionary_299 (lv_at hl 6 rfl) ?_
    refine lv_iconst (v := 1) hx hb d_Mod_readDictionary_301 (by decide) ?_
    refine lv_iadd hx hb d_Mod_readDictionary_302 ?_
    obtain ⟨hi, hw⟩ := hw
    refine w_iald (o := 35) hx hb hK hW ko_35.1 ko_35.2 hi d_Mod_readDictionary_303 ?_
    refine lv_aload_n hx hb d_Mod_readDictionary_304 rfl (lv_at hl 1 rfl) ?_
    refine w_getf (q := 35) (k := 54) (t := 12) (C := R_Mod) (T := F_Mod) (N := 167) hx hb hT hown hK hW ko_0.1 ko_0.2 (by decide) in_Mod rfl rfl (by decide) rfl fr_Mod_54 w_8_230 d_Mod_readDictionary_305 rfl ?_
    refine lv_iload hx hb d_Mod_readDictionary_308 (lv_at hl 6 rfl) ?_
    obtain ⟨hi, hw⟩ := hw
    refine w_iald (o := 35) hx hb hK hW ko_35.1 ko_35.2 hi d_Mod_readDictionary_310 ?_
    refine lv_isub hx hb d_Mod_readDictionary_311 ?_
    refine lv_goto (tgt := 316) hx hb d_Mod_readDictionary_312 (by decide) ?_
    exact t_Mod_readDictionary_316 hx hb hml hown hT hK hN hA hRc hRs hRf hRl hret hrec247 l1 l2 l4 l5 l6 s0 ((rA x 35 (l6 + 1)) - (rA x 35 l6)) x H locs ls  hw hW hS (lv_sub hl [1, 2, 3, 4, 5, 6, 0] rfl)
set_option maxRecDepth 100000 in
set_option maxHeartbeats 4000000 in
set_option maxRecDepth 100000 in
theorem t_Mod_readDictionary_287 {p : Program} {l : Launch} {e : Env} {R : Room} {s : State} {m : MethodId} {args : Array Value} {below : List Frame} {meth : Method} {c : Code} {cells slots : Nat} {Q : State → Prop} {dC : Nat → ClassId} {dI : Nat → Nat → Nat} {cI cB cJ cZ : ClassId} {A : Nat → Prop} {ad : Nat → Nat} {post : St → Prop} {rec247 : Int32 → Int64 → Int32 → Int32 → St → Prop} (hx : p.tables.exec = Jvm.exec) (hb : c.code = b_Mod_readDictionary) (hml : c.maxLocals = 10) (hown : s.vm.findClass R_Mod = some m.cls) (hT : ∀ w ∈ TG, w.before args s = true) (hK : va_K (dC, dI) CL (TY cI cB cJ cZ) s) (hN : NW s) (hA : ∀ q : Nat, s.heap.size ≤ q → A q) (hRc : cells ≤ R.cells) (hRs : slots ≤ R.slots) (hRf : 3 ≤ R.frames) (hRl : 84 ≤ R.locals) (hret : ∀ (x : St) (H : Heap) (locs : List Loc) (pc : Nat) (ls : Array Slot), decode b_Mod_readDictionary pc = .ok (.return_, 1) → post x → Wd dC dI cI cB cJ cZ ad stM kcM 115 A x H → va_S A s.heap H locs → W p l e R s m args below meth c H locs cells slots Q (F0 m pc ls [])) (hrec247 : ∀ (l1 : Int32) (l2 : Int64) (l4 : Int32) (l5 : Int32) (x : St) (H : Heap) (locs : List Loc) (ls : Array Slot), rec247 l1 l2 l4 l5 x → Wd dC dI cI cB cJ cZ ad stM kcM 115 A x H → va_S A s.heap H locs → lv_has ls 10 [(0, .ref (ad 0)), (1, .int l1), (2, .long l2), (4, .int l4), (5, .int l5)] → W p l e R s m args below meth c H locs cells slots Q (F0 m 247 ls [])) : ∀ (l1 : Int32) (l2 : Int64) (l4 : Int32) (l5 : Int32) (l6 : Int32) (x : St) (H : Heap) (locs : List Loc) (ls : Array Slot), j_Mod_readDictionary_287 post rec247 l1 l2 l4 l5 l6 x → Wd dC dI cI cB cJ cZ ad stM kcM 115 A x H → va_S A s.heap H locs → lv_has ls 10 [(0, .ref (ad 0)), (1, .int l1), (2, .long l2), (4, .int l4), (5, .int l5), (6, .int l6)] → W p l e R s m args below meth c H locs cells slots Q (F0 m 287 ls []) := by
  intro l1 l2 l4 l5 l6 x H locs ls  hw hW hS hl
  unfold j_Mod_readDictionary_287 at hw
  refine lv_iconst (v := 0) hx hb d_Mod_readDictionary_287 (by decide) ?_
  exact t_Mod_readDictionary_288 hx hb hml hown hT hK hN hA hRc hRs hRf hRl hret hrec247 l1 l2 l4 l5 l6 0 x H locs ls  hw hW hS (lv_sub hl [0, 1, 2, 3, 4, 5] rfl)
set_option maxRecDepth 100000 in
set_option maxHeartbeats 4000000 in
set_option maxRecDepth 100000 in
theorem t_Mod_readDictionary_247 {p : Program} {l : Launch} {e : Env} {R : Room} {s : State} {m : MethodId} {args : Array Value} {below : List Frame} {meth : Method} {c : Code} {cells slots : Nat} {Q : State → Prop} {dC : Nat → ClassId} {dI : Nat → Nat → Nat} {cI cB cJ cZ : ClassId} {A : Nat → Prop} {ad : Nat → Nat} {post : St → Prop} {rec247 : Int32 → Int64 → Int32 → Int32 → St → Prop} (hx : p.tables.exec = Jvm.exec) (hb : c.code = b_Mod_readDictionary) (hml : c.maxLocals = 10) (hown : s.vm.findClass R_Mod = some m.cls) (hT : ∀ w ∈ TG, w.before args s = true) (hK : va_K (dC, dI) CL (TY cI cB cJ cZ) s) (hN : NW s) (hA : ∀ q : Nat, s.heap.size ≤ q → A q) (hRc : cells ≤ R.cells) (hRs : slots ≤ R.slots) (hRf : 3 ≤ R.frames) (hRl : 84 ≤ R.locals) (hret : ∀ (x : St) (H : Heap) (locs : List Loc) (pc : Nat) (ls : Array Slot), decode b_Mod_readDictionary pc = .ok (.return_, 1) → post x → Wd dC dI cI cB cJ cZ ad stM kcM 115 A x H → va_S A s.heap H locs → W p l e R s m args below meth c H locs cells slots Q (F0 m pc ls [])) (hrec247 : ∀ (l1 : Int32) (l2 : Int64) (l4 : Int32) (l5 : Int32) (x : St) (H : Heap) (locs : List Loc) (ls : Array Slot), rec247 l1 l2 l4 l5 x → Wd dC dI cI cB cJ cZ ad stM kcM 115 A x H → va_S A s.heap H locs → lv_has ls 10 [(0, .ref (ad 0)), (1, .int l1), (2, .long l2), (4, .int l4), (5, .int l5)] → W p l e R s m args below meth c H locs cells slots Q (F0 m 247 ls [])) : ∀ (l1 : Int32) (l2 : Int64) (l4 : Int32) (l5 : Int32) (x : St) (H : Heap) (locs : List Loc) (ls : Array Slot), j_Mod_readDictionary_247 post rec247 l1 l2 l4 l5 x → Wd dC dI cI cB cJ cZ ad stM kcM 115 A x H → va_S A s.heap H locs → lv_has ls 10 [(0, .ref (ad 0)), (1, .int l1), (2, .long l2), (4, .int l4), (5, .int l5)] → W p l e R s m args below meth c H locs cells slots Q (F0 m 247 ls []) := by
  intro l1 l2 l4 l5 x H locs ls  hw hW hS hl
  unfold j_Mod_readDictionary_247 at hw
  refine lv_iload hx hb d_Mod_readDictionary_247 (lv_at hl 4 rfl) ?_
  refine lv_iload_n hx hb d_Mod_readDictionary_249 rfl (lv_at hl 1 rfl) ?_
  refine lv_icmp_ge (tgt := 435) hx hb d_Mod_readDictionary_250 (by decide) (fun c1363 => ?_) (fun c1363 => ?_)
  · have hw := hw.1 c1363
    exact hret x H locs 435 ls d_Mod_readDictionary_435 hw hW hS
  · have hw := hw.2 c1363
    refine lv_aload_n hx hb d_Mod_readDictionary_253 rfl (lv_at hl 0 rfl) ?_
    refine w_geti (k := 69) (t := 12) (C := R_Mod) (T := F_Mod) (N := 167) hx hb hT hown hK hW ko_0.1 ko_0.2 (by decide) in_Mod rfl rfl (by decide) rfl fr_Mod_69 w_9_5 d_Mod_readDictionary_254 ?_
    refine lv_if_ne (tgt := 435) hx hb d_Mod_readDictionary_257 (by decide) (fun c1364 => ?_) (fun c1364 => ?_)
    · have hw := hw.1 c1364
      exact hret x H locs 435 ls d_Mod_readDictionary_435 hw hW hS
    · have hw := hw.2 c1364
      refine lv_aload_n hx hb d_Mod_readDictionary_260 rfl (lv_at hl 0 rfl) ?_
      refine w_getf (q := 44) (k := 72) (t := 12) (C := R_Mod) (T := F_Mod) (N := 167) hx hb hT hown hK hW ko_0.1 ko_0.2 (by decide) in_Mod rfl rfl (by decide) rfl fr_Mod_72 w_9_8 d_Mod_readDictionary_261 rfl ?_
      refine lv_iload hx hb d_Mod_readDictionary_264 (lv_at hl 4 rfl) ?_
      obtain ⟨hi, hw⟩ := hw
      refine w_iald (o := 44) hx hb hK hW ko_44.1 ko_44.2 hi d_Mod_readDictionary_266 ?_
      refine lv_topi (fun v1365 ev1365 => ?_)
      have hw := hw v1365 ev1365
      refine lv_istore (lv' := [(6, .int v1365), (0, .ref (ad 0)), (1, .int l1), (2, .long l2), (4, .int l4), (5, .int l5)]) hx hb d_Mod_readDictionary_267 hl (by decide) rfl (fun ls hl => ?_)
      refine lv_iload hx hb d_Mod_readDictionary_269 (lv_at hl 0 rfl) ?_
      refine lv_if_lt (tgt := 287) hx hb d_Mod_readDictionary_271 (by decide) (fun c1366 => ?_) (fun c1366 => ?_)
      · have hw := hw.1 c1366
        exact t_Mod_readDictionary_287 hx hb hml hown hT hK hN hA hRc hRs hRf hRl hret hrec247 l1 l2 l4 l5 v1365 x H locs ls  hw hW hS (lv_sub hl [1, 2, 3, 4, 5, 0] rfl)
      · have hw := hw.2 c1366
        refine lv_iload hx hb d_Mod_readDictionary_274 (lv_at hl 0 rfl) ?_
        refine lv_aload_n hx hb d_Mod_readDictionary_276 rfl (lv_at hl 1 rfl) ?_
        refine w_geti (k := 59) (t := 12) (C := R_Mod) (T := F_Mod) (N := 167) hx hb hT hown hK hW ko_0.1 ko_0.2 (by decide) in_Mod rfl rfl (by decide) rfl fr_Mod_59 w_8_235 d_Mod_readDictionary_277 ?_
        refine lv_icmp_ge (tgt := 287) hx hb d_Mod_readDictionary_280 (by decide) (fun c1367 => ?_) (fun c1367 => ?_)
        · have hw := hw.1 c1367
          exact t_Mod_readDictionary_287 hx hb hml hown hT hK hN hA hRc hRs hRf hRl hret hrec247 l1 l2 l4 l5 v1365 x H locs ls  hw hW hS (lv_sub hl [1, 2, 3, 4, 5, 0] rfl)
        · have hw := hw.2 c1367
          refine lv_iconst (v := 1) hx hb d_Mod_readDictionary_283 (by decide) ?_
          refine lv_goto (tgt := 288) hx hb d_Mod_readDictionary_284 (by decide) ?_
          exact t_Mod_readDictionary_288 hx hb hml hown hT hK hN hA hRc hRs hRf hRl hret hrec247 l1 l2 l4 l5 v1365 1 x H locs ls  hw hW hS (lv_sub hl [1, 2, 3, 4, 5, 0] rfl)
set_option maxHeartbeats 4000000 in
set_option maxRecDepth 100000 in
theorem tl_Mod_readDictionary_247 {p : Program} {l : Launch} {e : Env} {R : Room} {s : State} {m : MethodId} {args : Array Value} {below : List Frame} {meth : Method} {c : Code} {cells slots : Nat} {Q : State → Prop} {dC : Nat → ClassId} {dI : Nat → Nat → Nat} {cI cB cJ cZ : ClassId} {A : Nat → Prop} {ad : Nat → Nat} {post : St → Prop} (hx : p.tables.exec = Jvm.exec) (hb : c.code = b_Mod_readDictionary) (hml : c.maxLocals = 10) (hown : s.vm.findClass R_Mod = some m.cls) (hT : ∀ w ∈ TG, w.before args s = true) (hK : va_K (dC, dI) CL (TY cI cB cJ cZ) s) (hN : NW s) (hA : ∀ q : Nat, s.heap.size ≤ q → A q) (hRc : cells ≤ R.cells) (hRs : slots ≤ R.slots) (hRf : 3 ≤ R.frames) (hRl : 84 ≤ R.locals) (hret : ∀ (x : St) (H : Heap) (locs : List Loc) (pc : Nat) (ls : Array Slot), decode b_Mod_readDictionary pc = .ok (.return_, 1) → post x → Wd dC dI cI cB cJ cZ ad stM kcM 115 A x H → va_S A s.heap H locs → W p l e R s m args below meth c H locs cells slots Q (F0 m pc ls []))  : ∀ n : Nat, ∀ (l1 : Int32) (l2 : Int64) (l4 : Int32) (l5 : Int32) (x : St) (H : Heap) (locs : List Loc) (ls : Array Slot), wl_Mod_readDictionary_247 post n l1 l2 l4 l5 x → Wd dC dI cI cB cJ cZ ad stM kcM 115 A x H → va_S A s.heap H locs → lv_has ls 10 [(0, .ref (ad 0)), (1, .int l1), (2, .long l2), (4, .int l4), (5, .int l5)] → W p l e R s m args below meth c H locs cells slots Q (F0 m 247 ls []) := by
  intro n
  induction n with
  | zero => intro l1 l2 l4 l5 x H locs ls  hw; exact hw.elim
  | succ n ih => intro l1 l2 l4 l5 x H locs ls  hw hW hS hl; exact t_Mod_readDictionary_247 hx hb hml hown hT hK hN hA hRc hRs hRf hRl hret  ih l1 l2 l4 l5 x H locs ls  hw hW hS hl
set_option maxRecDepth 100000 in
set_option maxHeartbeats 4000000 in
set_option maxRecDepth 100000 in
theorem t_Mod_readDictionary_244 {p : Program} {l : Launch} {e : Env} {R : Room} {s : State} {m : MethodId} {args : Array Value} {below : List Frame} {meth : Method} {c : Code} {cells slots : Nat} {Q : State → Prop} {dC : Nat → ClassId} {dI : Nat → Nat → Nat} {cI cB cJ cZ : ClassId} {A : Nat → Prop} {ad : Nat → Nat} {post : St → Prop} (hx : p.tables.exec = Jvm.exec) (hb : c.code = b_Mod_readDictionary) (hml : c.maxLocals = 10) (hown : s.vm.findClass R_Mod = some m.cls) (hT : ∀ w ∈ TG, w.before args s = true) (hK : va_K (dC, dI) CL (TY cI cB cJ cZ) s) (hN : NW s) (hA : ∀ q : Nat, s.heap.size ≤ q → A q) (hRc : cells ≤ R.cells) (hRs : slots ≤ R.slots) (hRf : 3 ≤ R.frames) (hRl : 84 ≤ R.locals) (hret : ∀ (x : St) (H : Heap) (locs : List Loc) (pc : Nat) (ls : Array Slot), decode b_Mod_readDictionary pc = .ok (.return_, 1) → post x → Wd dC dI cI cB cJ cZ ad stM kcM 115 A x H → va_S A s.heap H locs → W p l e R s m args below meth c H locs cells slots Q (F0 m pc ls []))  : ∀ (l1 : Int32) (l2 : Int64) (l4 : Int32) (x : St) (H : Heap) (locs : List Loc) (ls : Array Slot), j_Mod_readDictionary_244 post l1 l2 l4 x → Wd dC dI cI cB cJ cZ ad stM kcM 115 A x H → va_S A s.heap H locs → lv_has ls 10 [(0, .ref (ad 0)), (1, .int l1), (2, .long l2), (4, .int l4)] → W p l e R s m args below meth c H locs cells slots Q (F0 m 244 ls []) := by
  intro l1 l2 l4 x H locs ls  hw hW hS hl
  unfold j_Mod_readDictionary_244 at hw
  refine lv_iconst (v := 0) hx hb d_Mod_readDictionary_244 (by decide) ?_
  refine lv_istore (lv' := [(5, .int 0), (0, .ref (ad 0)), (1, .int l1), (2, .long l2), (4, .int l4)]) hx hb d_Mod_readDictionary_245 hl (by decide) rfl (fun ls hl => ?_)
  obtain ⟨n, hw⟩ := hw
  exact tl_Mod_readDictionary_247 hx hb hml hown hT hK hN hA hRc hRs hRf hRl hret  n l1 l2 l4 0 x H locs ls  hw hW hS (lv_sub hl [1, 2, 3, 4, 0] rfl)
set_option maxRecDepth 100000 in
set_option maxHeartbeats 4000000 in
set_option maxRecDepth 100000 in
theorem t_Mod_readDictionary_176 {p : Program} {l : Launch} {e : Env} {R : Room} {s : State} {m : MethodId} {args : Array Value} {below : List Frame} {meth : Method} {c : Code} {cells slots : Nat} {Q : State → Prop} {dC : Nat → ClassId} {dI : Nat → Nat → Nat} {cI cB cJ cZ : ClassId} {A : Nat → Prop} {ad : Nat → Nat} {post : St → Prop} (hx : p.tables.exec = Jvm.exec) (hb : c.code = b_Mod_readDictionary) (hml : c.maxLocals = 10) (hown : s.vm.findClass R_Mod = some m.cls) (hT : ∀ w ∈ TG, w.before args s = true) (hK : va_K (dC, dI) CL (TY cI cB cJ cZ) s) (hN : NW s) (hA : ∀ q : Nat, s.heap.size ≤ q → A q) (hRc : cells ≤ R.cells) (hRs : slots ≤ R.slots) (hRf : 3 ≤ R.frames) (hRl : 84 ≤ R.locals) (hret : ∀ (x : St) (H : Heap) (locs : List Loc) (pc : Nat) (ls : Array Slot), decode b_Mod_readDictionary pc = .ok (.return_, 1) → post x → Wd dC dI cI cB cJ cZ ad stM kcM 115 A x H → va_S A s.heap H locs → W p l e R s m args below meth c H locs cells slots Q (F0 m pc ls []))  : ∀ (l1 : Int32) (l2 : Int64) (l4 : Int32) (x : St) (H : Heap) (locs : List Loc) (ls : Array Slot), j_Mod_readDictionary_176 post l1 l2 l4 x → Wd dC dI cI cB cJ cZ ad stM kcM 115 A x H → va_S A s.heap H locs → lv_has ls 10 [(0, .ref (ad 0)), (1, .int l1), (2, .long l2), (4, .int l4)] → W p l e R s m args below meth c H locs cells slots Q (F0 m 176 ls []) := by
  intro l1 l2 l4 x H locs ls  hw hW hS hl
  unfold j_Mod_readDictionary_176 at hw
  refine lv_aload_n hx hb d_Mod_readDictionary_176 rfl (lv_at hl 0 rfl) ?_
  refine w_geti (k := 69) (t := 12) (C := R_Mod) (T := F_Mod) (N := 167) hx hb hT hown hK hW ko_0.1 ko_0.2 (by decide) in_Mod rfl rfl (by decide) rfl fr_Mod_69 w_9_5 d_Mod_readDictionary_177 ?_
  refine lv_if_eq (tgt := 184) hx hb d_Mod_readDictionary_180 (by decide) (fun c1368 => ?_) (fun c1368 => ?_)
  · have hw := hw.1 c1368
    refine lv_aload_n hx hb d_Mod_readDictionary_184 rfl (lv_at hl 0 rfl) ?_
    refine w_getf (q := 41) (k := 62) (t := 12) (C := R_Mod) (T := F_Mod) (N := 167) hx hb hT hown hK hW ko_0.1 ko_0.2 (by decide) in_Mod rfl rfl (by decide) rfl fr_Mod_62 w_8_238 d_Mod_readDictionary_185 rfl ?_
    refine lv_aload_n hx hb d_Mod_readDictionary_188 rfl (lv_at hl 0 rfl) ?_
    refine w_geti (k := 67) (t := 12) (C := R_Mod) (T := F_Mod) (N := 167) hx hb hT hown hK hW ko_0.1 ko_0.2 (by decide) in_Mod rfl rfl (by decide) rfl fr_Mod_67 w_9_3 d_Mod_readDictionary_189 ?_
    obtain ⟨hi, hw⟩ := hw
    refine w_iald (o := 41) hx hb hK hW ko_41.1 ko_41.2 hi d_Mod_readDictionary_192 ?_
    refine lv_topi (fun v1369 ev1369 => ?_)
    have hw := hw v1369 ev1369
    refine lv_istore (lv' := [(4, .int v1369), (0, .ref (ad 0)), (1, .int l1), (2, .long l2)]) hx hb d_Mod_readDictionary_193 hl (by decide) rfl (fun ls hl => ?_)
    refine lv_aload_n hx hb d_Mod_readDictionary_195 rfl (lv_at hl 1 rfl) ?_
    refine lv_dup hx hb d_Mod_readDictionary_196 rfl ?_
    refine w_geti (k := 67) (t := 12) (C := R_Mod) (T := F_Mod) (N := 167) hx hb hT hown hK hW ko_0.1 ko_0.2 (by decide) in_Mod rfl rfl (by decide) rfl fr_Mod_67 w_9_3 d_Mod_readDictionary_197 ?_
    refine lv_iconst (v := 1) hx hb d_Mod_readDictionary_200 (by decide) ?_
    refine lv_iadd hx hb d_Mod_readDictionary_201 ?_
    refine w_puti (ty := .int) (k := 67) (t := 12) (C := R_Mod) (T := F_Mod) (N := 167) hx hb hT hown hK hW hS ko_0.1 ko_0.2 (by decide) in_Mod t_Mod t_Mod_ok n_Mod rfl rfl (by decide) rfl fr_Mod_67 w_9_3 (by decide +kernel) rfl rfl d_Mod_readDictionary_202 (fun H locs hW hS => ?_)
    obtain ⟨x1370, ex1370⟩ : ∃ y : St, y = setI x 0 67 ((fI x 0 67) + 1) := ⟨_, rfl⟩
    rw [← ex1370] at hW
    have hw := hw x1370 ex1370
    refine lv_aload_n hx hb d_Mod_readDictionary_205 rfl (lv_at hl 1 rfl) ?_
    refine lv_aload_n hx hb d_Mod_readDictionary_206 rfl (lv_at hl 1 rfl) ?_
    refine w_getf (q := 44) (k := 72) (t := 12) (C := R_Mod) (T := F_Mod) (N := 167) hx hb hT hown hK hW ko_0.1 ko_0.2 (by decide) in_Mod rfl rfl (by decide) rfl fr_Mod_72 w_9_8 d_Mod_readDictionary_207 rfl ?_
    refine lv_iload_n hx hb d_Mod_readDictionary_210 rfl (lv_at hl 2 rfl) ?_
    refine lv_iload hx hb d_Mod_readDictionary_211 (lv_at hl 0 rfl) ?_
    refine lv_aload_n hx hb d_Mod_readDictionary_213 rfl (lv_at hl 1 rfl) ?_
    refine w_geti (k := 68) (t := 12) (C := R_Mod) (T := F_Mod) (N := 167) hx hb hT hown hK hW ko_0.1 ko_0.2 (by decide) in_Mod rfl rfl (by decide) rfl fr_Mod_68 w_9_4 d_Mod_readDictionary_214 ?_
    have hF := hW.free hS hA
    refine va_callv (va_runV (C := R_Mod) (As := [.ref (ad 44), .int l1, .int v1369, .int (fI x1370 0 68)]) (rest := []) ⟨hx, hb, hml, hown, hT⟩ (k_Mod_readRuns l dC dI cI cB cJ cZ ad H.size 44 l1 v1369 (fI x1370 0 68) x1370 ko_44 hw) ⟨callB_of 4 hT (gwt_in w_12_181) rfl rfl rfl (hT _ w_1_15) (hT _ w_12_178) (by decide +kernel) ⟨Nat.le_trans (Nat.le_of_ble_eq_true rfl) hRf, Nat.le_trans (Nat.le_of_ble_eq_true rfl) hRl⟩, hT _ w_12_180, hT _ ws_199⟩ ⟨PW.blind, va_recv hK hW.1 (ci := 12) (q0 := 0) rfl (pic_obj ko_0.1 ko_0.2 (by decide)), PW.at _ hW hK hN⟩ rfl rfl hl.1 rfl (lv_room (Nat.le_of_ble_eq_true rfl)) d_Mod_readDictionary_217 ⟨hRc, hRs⟩) hS (fun q _ h => hF q h) hF (fun  x1371 t H locs ht hvm hw hB hz1 hk1 hS => ?_)
    have hW := Wd.back hB ht hF
    clear hB ht hF hz1 hk1 hvm
    refine lv_aload_n hx hb d_Mod_readDictionary_220 rfl (lv_at hl 1 rfl) ?_
    refine w_geti (k := 69) (t := 12) (C := R_Mod) (T := F_Mod) (N := 167) hx hb hT hown hK hW ko_0.1 ko_0.2 (by decide) in_Mod rfl rfl (by decide) rfl fr_Mod_69 w_9_5 d_Mod_readDictionary_221 ?_
    refine lv_if_ne (tgt := 244) hx hb d_Mod_readDictionary_224 (by decide) (fun c1372 => ?_) (fun c1372 => ?_)
    · have hw := hw.1 c1372
      exact t_Mod_readDictionary_244 hx hb hml hown hT hK hN hA hRc hRs hRf hRl hret  l1 l2 v1369 x1371 H locs ls  hw hW hS (lv_sub hl [1, 2, 3, 0] rfl)
    · have hw := hw.2 c1372
      refine lv_aload_n hx hb d_Mod_readDictionary_227 rfl (lv_at hl 1 rfl) ?_
      refine w_geti (k := 67) (t := 12) (C := R_Mod) (T := F_Mod) (N := 167) hx hb hT hown hK hW ko_0.1 ko_0.2 (by decide) in_Mod rfl rfl (by decide) rfl fr_Mod_67 w_9_3 d_Mod_readDictionary_228 ?_
      refine lv_aload_n hx hb d_Mod_readDictionary_231 rfl (lv_at hl 1 rfl) ?_
      refine w_geti (k := 68) (t := 12) (C := R_Mod) (T := F_Mod) (N := 167) hx hb hT hown hK hW ko_0.1 ko_0.2 (by decide) in_Mod rfl rfl (by decide) rfl fr_Mod_68 w_9_4 d_Mod_readDictionary_232 ?_
      refine lv_icmp_ge (tgt := 244) hx hb d_Mod_readDictionary_235 (by decide) (fun c1373 => ?_) (fun c1373 => ?_)
      · have hw := hw.1 c1373
        exact t_Mod_readDictionary_244 hx hb hml hown hT hK hN hA hRc hRs hRf hRl hret  l1 l2 v1369 x1371 H locs ls  hw hW hS (lv_sub hl [1, 2, 3, 0] rfl)
      · have hw := hw.2 c1373
        refine lv_aload_n hx hb d_Mod_readDictionary_238 rfl (lv_at hl 1 rfl) ?_
        refine lv_bipush (v := 6) hx hb d_Mod_readDictionary_239 (by decide) ?_
        refine w_puti (ty := .int) (k := 69) (t := 12) (C := R_Mod) (T := F_Mod) (N := 167) hx hb hT hown hK hW hS ko_0.1 ko_0.2 (by decide) in_Mod t_Mod t_Mod_ok n_Mod rfl rfl (by decide) rfl fr_Mod_69 w_9_5 (by decide +kernel) rfl rfl d_Mod_readDictionary_241 (fun H locs hW hS => ?_)
        obtain ⟨x1374, ex1374⟩ : ∃ y : St, y = setI x1371 0 69 6 := ⟨_, rfl⟩
        rw [← ex1374] at hW
        have hw := hw x1374 ex1374
        exact t_Mod_readDictionary_244 hx hb hml hown hT hK hN hA hRc hRs hRf hRl hret  l1 l2 v1369 x1374 H locs ls  hw hW hS (lv_sub hl [1, 2, 3, 0] rfl)
  · have hw := hw.2 c1368
    exact hret x H locs 183 ls d_Mod_readDictionary_183 hw hW hS
set_option maxRecDepth 100000 in
set_option maxHeartbeats 4000000 in
set_option maxRecDepth 100000 in
theorem t_Mod_readDictionary_99 {p : Program} {l : Launch} {e : Env} {R : Room} {s : State} {m : MethodId} {args : Array Value} {below : List Frame} {meth : Method} {c : Code} {cells slots : Nat} {Q : State → Prop} {dC : Nat → ClassId} {dI : Nat → Nat → Nat} {cI cB cJ cZ : ClassId} {A : Nat → Prop} {ad : Nat → Nat} {post : St → Prop} {rec99 : Int32 → Int64 → Int32 → St → Prop} (hx : p.tables.exec = Jvm.exec) (hb : c.code = b_Mod_readDictionary) (hml : c.maxLocals = 10) (hown : s.vm.findClass R_Mod = some m.cls) (hT : ∀ w ∈ TG, w.before args s = true) (hK : va_K (dC, dI) CL (TY cI cB cJ cZ) s) (hN : NW s) (hA : ∀ q : Nat, s.heap.size ≤ q → A q) (hRc : cells ≤ R.cells) (hRs : slots ≤ R.slots) (hRf : 3 ≤ R.frames) (hRl : 84 ≤ R.locals) (hret : ∀ (x : St) (H : Heap) (locs : List Loc) (pc : Nat) (ls : Array Slot), decode b_Mod_readDictionary pc = .ok (.return_, 1) → post x → Wd dC dI cI cB cJ cZ ad stM kcM 115 A x H → va_S A s.heap H locs → W p l e R s m args below meth c H locs cells slots Q (F0 m pc ls [])) (hrec99 : ∀ (l1 : Int32) (l2 : Int64) (l4 : Int32) (x : St) (H : Heap) (locs : List Loc) (ls : Array Slot), rec99 l1 l2 l4 x → Wd dC dI cI cB cJ cZ ad stM kcM 115 A x H → va_S A s.heap H locs → lv_has ls 10 [(0, .ref (ad 0)), (1, .int l1), (2, .long l2), (4, .int l4)] → W p l e R s m args below meth c H locs cells slots Q (F0 m 99 ls [])) : ∀ (l1 : Int32) (l2 : Int64) (l4 : Int32) (x : St) (H : Heap) (locs : List Loc) (ls : Array Slot), j_Mod_readDictionary_99 post rec99 l1 l2 l4 x → Wd dC dI cI cB cJ cZ ad stM kcM 115 A x H → va_S A s.heap H locs → lv_has ls 10 [(0, .ref (ad 0)), (1, .int l1), (2, .long l2), (4, .int l4)] → W p l e R s m args below meth c H locs cells slots Q (F0 m 99 ls []) := by
  intro l1 l2 l4 x H locs ls  hw hW hS hl
  unfold j_Mod_readDictionary_99 at hw
  refine lv_iload hx hb d_Mod_readDictionary_99 (lv_at hl 3 rfl) ?_
  refine lv_aload_n hx hb d_Mod_readDictionary_101 rfl (lv_at hl 0 rfl) ?_
  refine w_getf (q := 35) (k := 54) (t := 12) (C := R_Mod) (T := F_Mod) (N := 167) hx hb hT hown hK hW ko_0.1 ko_0.2 (by decide) in_Mod rfl rfl (by decide) rfl fr_Mod_54 w_8_230 d_Mod_readDictionary_102 rfl ?_
  refine lv_aload_n hx hb d_Mod_readDictionary_105 rfl (lv_at hl 0 rfl) ?_
  refine w_geti (k := 59) (t := 12) (C := R_Mod) (T := F_Mod) (N := 167) hx hb hT hown hK hW ko_0.1 ko_0.2 (by decide) in_Mod rfl rfl (by decide) rfl fr_Mod_59 w_8_235 d_Mod_readDictionary_106 ?_
  obtain ⟨hi, hw⟩ := hw
  refine w_iald (o := 35) hx hb hK hW ko_35.1 ko_35.2 hi d_Mod_readDictionary_109 ?_
  refine lv_icmp_ge (tgt := 133) hx hb d_Mod_readDictionary_110 (by decide) (fun c1375 => ?_) (fun c1375 => ?_)
  · have hw := hw.1 c1375
    refine lv_aload_n hx hb d_Mod_readDictionary_133 rfl (lv_at hl 0 rfl) ?_
    refine lv_iconst (v := 0) hx hb d_Mod_readDictionary_134 (by decide) ?_
    refine w_puti (ty := .int) (k := 58) (t := 12) (C := R_Mod) (T := F_Mod) (N := 167) hx hb hT hown hK hW hS ko_0.1 ko_0.2 (by decide) in_Mod t_Mod t_Mod_ok n_Mod rfl rfl (by decide) rfl fr_Mod_58 w_8_234 (by decide +kernel) rfl rfl d_Mod_readDictionary_135 (fun H locs hW hS => ?_)
    obtain ⟨x1376, ex1376⟩ : ∃ y : St, y = setI x 0 58 0 := ⟨_, rfl⟩
    rw [← ex1376] at hW
    have hw := hw x1376 ex1376
    refine lv_aload_n hx hb d_Mod_readDictionary_138 rfl (lv_at hl 0 rfl) ?_
    refine w_geti (k := 67) (t := 12) (C := R_Mod) (T := F_Mod) (N := 167) hx hb hT hown hK hW ko_0.1 ko_0.2 (by decide) in_Mod rfl rfl (by decide) rfl fr_Mod_67 w_9_3 d_Mod_readDictionary_139 ?_
    refine lv_aload_n hx hb d_Mod_readDictionary_142 rfl (lv_at hl 0 rfl) ?_
    refine w_geti (k := 68) (t := 12) (C := R_Mod) (T := F_Mod) (N := 167) hx hb hT hown hK hW ko_0.1 ko_0.2 (by decide) in_Mod rfl rfl (by decide) rfl fr_Mod_68 w_9_4 d_Mod_readDictionary_143 ?_
    refine lv_icmp_lt (tgt := 157) hx hb d_Mod_readDictionary_146 (by decide) (fun c1377 => ?_) (fun c1377 => ?_)
    · have hw := hw.1 c1377
      refine lv_aload_n hx hb d_Mod_readDictionary_157 rfl (lv_at hl 0 rfl) ?_
      refine w_getf (q := 41) (k := 62) (t := 12) (C := R_Mod) (T := F_Mod) (N := 167) hx hb hT hown hK hW ko_0.1 ko_0.2 (by decide) in_Mod rfl rfl (by decide) rfl fr_Mod_62 w_8_238 d_Mod_readDictionary_158 rfl ?_
      refine lv_aload_n hx hb d_Mod_readDictionary_161 rfl (lv_at hl 0 rfl) ?_
      refine w_geti (k := 67) (t := 12) (C := R_Mod) (T := F_Mod) (N := 167) hx hb hT hown hK hW ko_0.1 ko_0.2 (by decide) in_Mod rfl rfl (by decide) rfl fr_Mod_67 w_9_3 d_Mod_readDictionary_162 ?_
      obtain ⟨hi, hw⟩ := hw
      refine w_iald (o := 41) hx hb hK hW ko_41.1 ko_41.2 hi d_Mod_readDictionary_165 ?_
      refine lv_bipush (v := 32) hx hb d_Mod_readDictionary_166 (by decide) ?_
      refine lv_icmp_le (tgt := 176) hx hb d_Mod_readDictionary_168 (by decide) (fun c1378 => ?_) (fun c1378 => ?_)
      · have hw := hw.1 c1378
        exact t_Mod_readDictionary_176 hx hb hml hown hT hK hN hA hRc hRs hRf hRl hret  l1 l2 l4 x1376 H locs ls  hw hW hS (lv_sub hl [0, 1, 2, 3] rfl)
      · have hw := hw.2 c1378
        refine lv_aload_n hx hb d_Mod_readDictionary_171 rfl (lv_at hl 0 rfl) ?_
        refine lv_iconst (v := 5) hx hb d_Mod_readDictionary_172 (by decide) ?_
        refine w_puti (ty := .int) (k := 69) (t := 12) (C := R_Mod) (T := F_Mod) (N := 167) hx hb hT hown hK hW hS ko_0.1 ko_0.2 (by decide) in_Mod t_Mod t_Mod_ok n_Mod rfl rfl (by decide) rfl fr_Mod_69 w_9_5 (by decide +kernel) rfl rfl d_Mod_readDictionary_173 (fun H locs hW hS => ?_)
        obtain ⟨x1379, ex1379⟩ : ∃ y : St, y = setI x1376 0 69 5 := ⟨_, rfl⟩
        rw [← ex1379] at hW
        have hw := hw x1379 ex1379
        exact t_Mod_readDictionary_176 hx hb hml hown hT hK hN hA hRc hRs hRf hRl hret  l1 l2 l4 x1379 H locs ls  hw hW hS (lv_sub hl [0, 1, 2, 3] rfl)
    · have hw := hw.2 c1377
      refine lv_aload_n hx hb d_Mod_readDictionary_149 rfl (lv_at hl 0 rfl) ?_
      refine lv_iconst (v := 1) hx hb d_Mod_readDictionary_150 (by decide) ?_
      refine w_puti (ty := .int) (k := 69) (t := 12) (C := R_Mod) (T := F_Mod) (N := 167) hx hb hT hown hK hW hS ko_0.1 ko_0.2 (by decide) in_Mod t_Mod t_Mod_ok n_Mod rfl rfl (by decide) rfl fr_Mod_69 w_9_5 (by decide +kernel) rfl rfl d_Mod_readDictionary_151 (fun H locs hW hS => ?_)
      obtain ⟨x1380, ex1380⟩ : ∃ y : St, y = setI x1376 0 69 1 := ⟨_, rfl⟩
      rw [← ex1380] at hW
      have hw := hw x1380 ex1380
      refine lv_goto (tgt := 176) hx hb d_Mod_readDictionary_154 (by decide) ?_
      exact t_Mod_readDictionary_176 hx hb hml hown hT hK hN hA hRc hRs hRf hRl hret  l1 l2 l4 x1380 H locs ls  hw hW hS (lv_sub hl [0, 1, 2, 3] rfl)
  · have hw := hw.2 c1375
    refine lv_aload_n hx hb d_Mod_readDictionary_113 rfl (lv_at hl 0 rfl) ?_
    refine w_getf (q := 38) (k := 57) (t := 12) (C := R_Mod) (T := F_Mod) (N := 167) hx hb hT hown hK hW ko_0.1 ko_0.2 (by decide) in_Mod rfl rfl (by decide) rfl fr_Mod_57 w_8_233 d_Mod_readDictionary_114 rfl ?_
    refine lv_iload hx hb d_Mod_readDictionary_117 (lv_at hl 3 rfl) ?_
    refine lv_aload_n hx hb d_Mod_readDictionary_119 rfl (lv_at hl 0 rfl) ?_
    refine w_getf (q := 37) (k := 56) (t := 12) (C := R_Mod) (T := F_Mod) (N := 167) hx hb hT hown hK hW ko_0.1 ko_0.2 (by decide) in_Mod rfl rfl (by decide) rfl fr_Mod_56 w_8_232 d_Mod_readDictionary_120 rfl ?_
    refine lv_iload hx hb d_Mod_readDictionary_123 (lv_at hl 3 rfl) ?_
    obtain ⟨hi, hw⟩ := hw
    refine w_iald (o := 37) hx hb hK hW ko_37.1 ko_37.2 hi d_Mod_readDictionary_125 ?_
    obtain ⟨hi, hw⟩ := hw
    refine w_iast (o := 38) hx hb hK hW hS ko_38.1 ko_38.2 hi d_Mod_readDictionary_126 (fun H locs hW hS => ?_)
    obtain ⟨x1381, ex1381⟩ : ∃ y : St, y = setA x 38 l4 (rA x 37 l4) := ⟨_, rfl⟩
    rw [← ex1381] at hW
    have hw := hw x1381 ex1381
    refine lv_iinc (v := (l4 + 1)) (lv' := [(4, .int (l4 + 1)), (0, .ref (ad 0)), (1, .int l1), (2, .long l2)]) hx hb d_Mod_readDictionary_127 hl (k := 3) rfl rfl (by decide) rfl (fun ls hl => ?_)
    refine lv_goto (tgt := 99) hx hb d_Mod_readDictionary_130 (by decide) ?_
    exact hrec99 l1 l2 (l4 + 1) x1381 H locs ls  hw hW hS (lv_sub hl [1, 2, 3, 0] rfl)
set_option maxHeartbeats 4000000 in
set_option maxRecDepth 100000 in
theorem tl_Mod_readDictionary_99 {p : Program} {l : Launch} {e : Env} {R : Room} {s : State} {m : MethodId} {args : Array Value} {below : List Frame} {meth : Method} {c : Code} {cells slots : Nat} {Q : State → Prop} {dC : Nat → ClassId} {dI : Nat → Nat → Nat} {cI cB cJ cZ : ClassId} {A : Nat → Prop} {ad : Nat → Nat} {post : St → Prop} (hx : p.tables.exec = Jvm.exec) (hb : c.code = b_Mod_readDictionary) (hml : c.maxLocals = 10) (hown : s.vm.findClass R_Mod = some m.cls) (hT : ∀ w ∈ TG, w.before args s = true) (hK : va_K (dC, dI) CL (TY cI cB cJ cZ) s) (hN : NW s) (hA : ∀ q : Nat, s.heap.size ≤ q → A q) (hRc : cells ≤ R.cells) (hRs : slots ≤ R.slots) (hRf : 3 ≤ R.frames) (hRl : 84 ≤ R.locals) (hret : ∀ (x : St) (H : Heap) (locs : List Loc) (pc : Nat) (ls : Array Slot), decode b_Mod_readDictionary pc = .ok (.return_, 1) → post x → Wd dC dI cI cB cJ cZ ad stM kcM 115 A x H → va_S A s.heap H locs → W p l e R s m args below meth c H locs cells slots Q (F0 m pc ls []))  : ∀ n : Nat, ∀ (l1 : Int32) (l2 : Int64) (l4 : Int32) (x : St) (H : Heap) (locs : List Loc) (ls : Array Slot), wl_Mod_readDictionary_99 post n l1 l2 l4 x → Wd dC dI cI cB cJ cZ ad stM kcM 115 A x H → va_S A s.heap H locs → lv_has ls 10 [(0, .ref (ad 0)), (1, .int l1), (2, .long l2), (4, .int l4)] → W p l e R s m args below meth c H locs cells slots Q (F0 m 99 ls []) := by
  intro n
  induction n with
  | zero => intro l1 l2 l4 x H locs ls  hw; exact hw.elim
  | succ n ih => intro l1 l2 l4 x H locs ls  hw hW hS hl; exact t_Mod_readDictionary_99 hx hb hml hown hT hK hN hA hRc hRs hRf hRl hret  ih l1 l2 l4 x H locs ls  hw hW hS hl
set_option maxRecDepth 100000 in
set_option maxHeartbeats 4000000 in
set_option maxRecDepth 100000 in
theorem t_Mod_readDictionary_67 {p : Program} {l : Launch} {e : Env} {R : Room} {s : State} {m : MethodId} {args : Array Value} {below : List Frame} {meth : Method} {c : Code} {cells slots : Nat} {Q : State → Prop} {dC : Nat → ClassId} {dI : Nat → Nat → Nat} {cI cB cJ cZ : ClassId} {A : Nat → Prop} {ad : Nat → Nat} {post : St → Prop} {rec67 : Int32 → Int64 → Int32 → St → Prop} (hx : p.tables.exec = Jvm.exec) (hb : c.code = b_Mod_readDictionary) (hml : c.maxLocals = 10) (hown : s.vm.findClass R_Mod = some m.cls) (hT : ∀ w ∈ TG, w.before args s = true) (hK : va_K (dC, dI) CL (TY cI cB cJ cZ) s) (hN : NW s) (hA : ∀ q : Nat, s.heap.size ≤ q → A q) (hRc : cells ≤ R.cells) (hRs : slots ≤ R.slots) (hRf : 3 ≤ R.frames) (hRl : 84 ≤ R.locals) (hret : ∀ (x : St) (H : Heap) (locs : List Loc) (pc : Nat) (ls : Array Slot), decode b_Mod_readDictionary pc = .ok (.return_, 1) → post x → Wd dC dI cI cB cJ cZ ad stM kcM 115 A x H → va_S A s.heap H locs → W p l e R s m args below meth c H locs cells slots Q (F0 m pc ls [])) (hrec67 : ∀ (l1 : Int32) (l2 : Int64) (l4 : Int32) (x : St) (H : Heap) (locs : List Loc) (ls : Array Slot), rec67 l1 l2 l4 x → Wd dC dI cI cB cJ cZ ad stM kcM 115 A x H → va_S A s.heap H locs → lv_has ls 10 [(0, .ref (ad 0)), (1, .int l1), (2, .long l2), (4, .int l4)] → W p l e R s m args below meth c H locs cells slots Q (F0 m 67 ls [])) : ∀ (l1 : Int32) (l2 : Int64) (l4 : Int32) (x : St) (H : Heap) (locs : List Loc) (ls : Array Slot), j_Mod_readDictionary_67 post rec67 l1 l2 l4 x → Wd dC dI cI cB cJ cZ ad stM kcM 115 A x H → va_S A s.heap H locs → lv_has ls 10 [(0, .ref (ad 0)), (1, .int l1), (2, .long l2), (4, .int l4)] → W p l e R s m args below meth c H locs cells slots Q (F0 m 67 ls []) := by
  intro l1 l2 l4 x H locs ls  hw hW hS hl
  unfold j_Mod_readDictionary_67 at hw
  refine lv_iload hx hb d_Mod_readDictionary_67 (lv_at hl 3 rfl) ?_
  refine lv_aload_n hx hb d_Mod_readDictionary_69 rfl (lv_at hl 0 rfl) ?_
  refine w_geti (k := 59) (t := 12) (C := R_Mod) (T := F_Mod) (N := 167) hx hb hT hown hK hW ko_0.1 ko_0.2 (by decide) in_Mod rfl rfl (by decide) rfl fr_Mod_59 w_8_235 d_Mod_readDictionary_70 ?_
  refine lv_icmp_gt (tgt := 96) hx hb d_Mod_readDictionary_73 (by decide) (fun c1382 => ?_) (fun c1382 => ?_)
  · have hw := hw.1 c1382
    refine lv_iconst (v := 0) hx hb d_Mod_readDictionary_96 (by decide) ?_
    refine lv_istore (lv' := [(4, .int 0), (0, .ref (ad 0)), (1, .int l1), (2, .long l2)]) hx hb d_Mod_readDictionary_97 hl (by decide) rfl (fun ls hl => ?_)
    obtain ⟨n, hw⟩ := hw
    exact tl_Mod_readDictionary_99 hx hb hml hown hT hK hN hA hRc hRs hRf hRl hret  n l1 l2 0 x H locs ls  hw hW hS (lv_sub hl [1, 2, 3, 0] rfl)
  · have hw := hw.2 c1382
    refine lv_aload_n hx hb d_Mod_readDictionary_76 rfl (lv_at hl 0 rfl) ?_
    refine w_getf (q := 35) (k := 54) (t := 12) (C := R_Mod) (T := F_Mod) (N := 167) hx hb hT hown hK hW ko_0.1 ko_0.2 (by decide) in_Mod rfl rfl (by decide) rfl fr_Mod_54 w_8_230 d_Mod_readDictionary_77 rfl ?_
    refine lv_iload hx hb d_Mod_readDictionary_80 (lv_at hl 3 rfl) ?_
    refine lv_aload_n hx hb d_Mod_readDictionary_82 rfl (lv_at hl 0 rfl) ?_
    refine w_getf (q := 34) (k := 53) (t := 12) (C := R_Mod) (T := F_Mod) (N := 167) hx hb hT hown hK hW ko_0.1 ko_0.2 (by decide) in_Mod rfl rfl (by decide) rfl fr_Mod_53 w_8_229 d_Mod_readDictionary_83 rfl ?_
    refine lv_iload hx hb d_Mod_readDictionary_86 (lv_at hl 3 rfl) ?_
    obtain ⟨hi, hw⟩ := hw
    refine w_iald (o := 34) hx hb hK hW ko_34.1 ko_34.2 hi d_Mod_readDictionary_88 ?_
    obtain ⟨hi, hw⟩ := hw
    refine w_iast (o := 35) hx hb hK hW hS ko_35.1 ko_35.2 hi d_Mod_readDictionary_89 (fun H locs hW hS => ?_)
    obtain ⟨x1383, ex1383⟩ : ∃ y : St, y = setA x 35 l4 (rA x 34 l4) := ⟨_, rfl⟩
    rw [← ex1383] at hW
    have hw := hw x1383 ex1383
    refine lv_iinc (v := (l4 + 1)) (lv' := [(4, .int (l4 + 1)), (0, .ref (ad 0)), (1, .int l1), (2, .long l2)]) hx hb d_Mod_readDictionary_90 hl (k := 3) rfl rfl (by decide) rfl (fun ls hl => ?_)
    refine lv_goto (tgt := 67) hx hb d_Mod_readDictionary_93 (by decide) ?_
    exact hrec67 l1 l2 (l4 + 1) x1383 H locs ls  hw hW hS (lv_sub hl [1, 2, 3, 0] rfl)
set_option maxHeartbeats 4000000 in
set_option maxRecDepth 100000 in
theorem tl_Mod_readDictionary_67 {p : Program} {l : Launch} {e : Env} {R : Room} {s : State} {m : MethodId} {args : Array Value} {below : List Frame} {meth : Method} {c : Code} {cells slots : Nat} {Q : State → Prop} {dC : Nat → ClassId} {dI : Nat → Nat → Nat} {cI cB cJ cZ : ClassId} {A : Nat → Prop} {ad : Nat → Nat} {post : St → Prop} (hx : p.tables.exec = Jvm.exec) (hb : c.code = b_Mod_readDictionary) (hml : c.maxLocals = 10) (hown : s.vm.findClass R_Mod = some m.cls) (hT : ∀ w ∈ TG, w.before args s = true) (hK : va_K (dC, dI) CL (TY cI cB cJ cZ) s) (hN : NW s) (hA : ∀ q : Nat, s.heap.size ≤ q → A q) (hRc : cells ≤ R.cells) (hRs : slots ≤ R.slots) (hRf : 3 ≤ R.frames) (hRl : 84 ≤ R.locals) (hret : ∀ (x : St) (H : Heap) (locs : List Loc) (pc : Nat) (ls : Array Slot), decode b_Mod_readDictionary pc = .ok (.return_, 1) → post x → Wd dC dI cI cB cJ cZ ad stM kcM 115 A x H → va_S A s.heap H locs → W p l e R s m args below meth c H locs cells slots Q (F0 m pc ls []))  : ∀ n : Nat, ∀ (l1 : Int32) (l2 : Int64) (l4 : Int32) (x : St) (H : Heap) (locs : List Loc) (ls : Array Slot), wl_Mod_readDictionary_67 post n l1 l2 l4 x → Wd dC dI cI cB cJ cZ ad stM kcM 115 A x H → va_S A s.heap H locs → lv_has ls 10 [(0, .ref (ad 0)), (1, .int l1), (2, .long l2), (4, .int l4)] → W p l e R s m args below meth c H locs cells slots Q (F0 m 67 ls []) := by
  intro n
  induction n with
  | zero => intro l1 l2 l4 x H locs ls  hw; exact hw.elim
  | succ n ih => intro l1 l2 l4 x H locs ls  hw hW hS hl; exact t_Mod_readDictionary_67 hx hb hml hown hT hK hN hA hRc hRs hRf hRl hret  ih l1 l2 l4 x H locs ls  hw hW hS hl
set_option maxRecDepth 100000 in
set_option maxHeartbeats 4000000 in
set_option maxRecDepth 100000 in
theorem t_Mod_readDictionary_34 {p : Program} {l : Launch} {e : Env} {R : Room} {s : State} {m : MethodId} {args : Array Value} {below : List Frame} {meth : Method} {c : Code} {cells slots : Nat} {Q : State → Prop} {dC : Nat → ClassId} {dI : Nat → Nat → Nat} {cI cB cJ cZ : ClassId} {A : Nat → Prop} {ad : Nat → Nat} {post : St → Prop} (hx : p.tables.exec = Jvm.exec) (hb : c.code = b_Mod_readDictionary) (hml : c.maxLocals = 10) (hown : s.vm.findClass R_Mod = some m.cls) (hT : ∀ w ∈ TG, w.before args s = true) (hK : va_K (dC, dI) CL (TY cI cB cJ cZ) s) (hN : NW s) (hA : ∀ q : Nat, s.heap.size ≤ q → A q) (hRc : cells ≤ R.cells) (hRs : slots ≤ R.slots) (hRf : 3 ≤ R.frames) (hRl : 84 ≤ R.locals) (hret : ∀ (x : St) (H : Heap) (locs : List Loc) (pc : Nat) (ls : Array Slot), decode b_Mod_readDictionary pc = .ok (.return_, 1) → post x → Wd dC dI cI cB cJ cZ ad stM kcM 115 A x H → va_S A s.heap H locs → W p l e R s m args below meth c H locs cells slots Q (F0 m pc ls []))  : ∀ (l1 : Int32) (l2 : Int64) (x : St) (H : Heap) (locs : List Loc) (ls : Array Slot), j_Mod_readDictionary_34 post l1 l2 x → Wd dC dI cI cB cJ cZ ad stM kcM 115 A x H → va_S A s.heap H locs → lv_has ls 10 [(0, .ref (ad 0)), (1, .int l1), (2, .long l2)] → W p l e R s m args below meth c H locs cells slots Q (F0 m 34 ls []) := by
  intro l1 l2 x H locs ls  hw hW hS hl
  unfold j_Mod_readDictionary_34 at hw
  refine lv_aload_n hx hb d_Mod_readDictionary_34 rfl (lv_at hl 0 rfl) ?_
  refine w_geti (k := 69) (t := 12) (C := R_Mod) (T := F_Mod) (N := 167) hx hb hT hown hK hW ko_0.1 ko_0.2 (by decide) in_Mod rfl rfl (by decide) rfl fr_Mod_69 w_9_5 d_Mod_readDictionary_35 ?_
  refine lv_if_eq (tgt := 42) hx hb d_Mod_readDictionary_38 (by decide) (fun c1384 => ?_) (fun c1384 => ?_)
  · have hw := hw.1 c1384
    refine lv_aload_n hx hb d_Mod_readDictionary_42 rfl (lv_at hl 0 rfl) ?_
    refine lv_lload_n hx hb d_Mod_readDictionary_43 rfl (lv_at hl 2 rfl) ?_
    refine lv_l2i hx hb d_Mod_readDictionary_44 rfl ?_
    have hF := hW.free hS hA
    refine va_callv (va_runV (C := R_Mod) (As := [.int (l2 : Int64).toInt32]) (rest := []) ⟨hx, hb, hml, hown, hT⟩ (k_Mod_readPlain l dC dI cI cB cJ cZ ad H.size (l2 : Int64).toInt32 x  hw) ⟨callB_of 1 hT (gwt_in w_12_206) rfl rfl rfl (hT _ w_1_15) (hT _ w_12_203) (by decide +kernel) ⟨Nat.le_trans (Nat.le_of_ble_eq_true rfl) hRf, Nat.le_trans (Nat.le_of_ble_eq_true rfl) hRl⟩, hT _ w_12_205, hT _ ws_205⟩ ⟨PW.blind, va_recv hK hW.1 (ci := 12) (q0 := 0) rfl (pic_obj ko_0.1 ko_0.2 (by decide)), PW.at _ hW hK hN⟩ rfl rfl hl.1 rfl (lv_room (Nat.le_of_ble_eq_true rfl)) d_Mod_readDictionary_45 ⟨hRc, hRs⟩) hS (fun q _ h => hF q h) hF (fun  x1385 t H locs ht hvm hw hB hz1 hk1 hS => ?_)
    have hW := Wd.back hB ht hF
    clear hB ht hF hz1 hk1 hvm
    refine lv_aload_n hx hb d_Mod_readDictionary_48 rfl (lv_at hl 0 rfl) ?_
    refine w_geti (k := 69) (t := 12) (C := R_Mod) (T := F_Mod) (N := 167) hx hb hT hown hK hW ko_0.1 ko_0.2 (by decide) in_Mod rfl rfl (by decide) rfl fr_Mod_69 w_9_5 d_Mod_readDictionary_49 ?_
    refine lv_if_eq (tgt := 56) hx hb d_Mod_readDictionary_52 (by decide) (fun c1386 => ?_) (fun c1386 => ?_)
    · have hw := hw.1 c1386
      refine lv_aload_n hx hb d_Mod_readDictionary_56 rfl (lv_at hl 0 rfl) ?_
      refine lv_aload_n hx hb d_Mod_readDictionary_57 rfl (lv_at hl 0 rfl) ?_
      refine w_geti (k := 58) (t := 12) (C := R_Mod) (T := F_Mod) (N := 167) hx hb hT hown hK hW ko_0.1 ko_0.2 (by decide) in_Mod rfl rfl (by decide) rfl fr_Mod_58 w_8_234 d_Mod_readDictionary_58 ?_
      refine w_puti (ty := .int) (k := 59) (t := 12) (C := R_Mod) (T := F_Mod) (N := 167) hx hb hT hown hK hW hS ko_0.1 ko_0.2 (by decide) in_Mod t_Mod t_Mod_ok n_Mod rfl rfl (by decide) rfl fr_Mod_59 w_8_235 (by decide +kernel) rfl rfl d_Mod_readDictionary_61 (fun H locs hW hS => ?_)
      obtain ⟨x1387, ex1387⟩ : ∃ y : St, y = setI x1385 0 59 (fI x1385 0 58) := ⟨_, rfl⟩
      rw [← ex1387] at hW
      have hw := hw x1387 ex1387
      refine lv_iconst (v := 0) hx hb d_Mod_readDictionary_64 (by decide) ?_
      refine lv_istore (lv' := [(4, .int 0), (0, .ref (ad 0)), (1, .int l1), (2, .long l2)]) hx hb d_Mod_readDictionary_65 hl (by decide) rfl (fun ls hl => ?_)
      obtain ⟨n, hw⟩ := hw
      exact tl_Mod_readDictionary_67 hx hb hml hown hT hK hN hA hRc hRs hRf hRl hret  n l1 l2 0 x1387 H locs ls  hw hW hS (lv_sub hl [1, 2, 3, 0] rfl)
    · have hw := hw.2 c1386
      exact hret x1385 H locs 55 ls d_Mod_readDictionary_55 hw hW hS
  · have hw := hw.2 c1384
    exact hret x H locs 41 ls d_Mod_readDictionary_41 hw hW hS
set_option maxRecDepth 100000 in
set_option maxHeartbeats 4000000 in
set_option maxRecDepth 100000 in
theorem t_Mod_readDictionary_29 {p : Program} {l : Launch} {e : Env} {R : Room} {s : State} {m : MethodId} {args : Array Value} {below : List Frame} {meth : Method} {c : Code} {cells slots : Nat} {Q : State → Prop} {dC : Nat → ClassId} {dI : Nat → Nat → Nat} {cI cB cJ cZ : ClassId} {A : Nat → Prop} {ad : Nat → Nat} {post : St → Prop} (hx : p.tables.exec = Jvm.exec) (hb : c.code = b_Mod_readDictionary) (hml : c.maxLocals = 10) (hown : s.vm.findClass R_Mod = some m.cls) (hT : ∀ w ∈ TG, w.before args s = true) (hK : va_K (dC, dI) CL (TY cI cB cJ cZ) s) (hN : NW s) (hA : ∀ q : Nat, s.heap.size ≤ q → A q) (hRc : cells ≤ R.cells) (hRs : slots ≤ R.slots) (hRf : 3 ≤ R.frames) (hRl : 84 ≤ R.locals) (hret : ∀ (x : St) (H : Heap) (locs : List Loc) (pc : Nat) (ls : Array Slot), decode b_Mod_readDictionary pc = .ok (.return_, 1) → post x → Wd dC dI cI cB cJ cZ ad stM kcM 115 A x H → va_S A s.heap H locs → W p l e R s m args below meth c H locs cells slots Q (F0 m pc ls []))  : ∀ (l1 : Int32) (l2 : Int64) (x : St) (H : Heap) (locs : List Loc) (ls : Array Slot), j_Mod_readDictionary_29 post l1 l2 x → Wd dC dI cI cB cJ cZ ad stM kcM 115 A x H → va_S A s.heap H locs → lv_has ls 10 [(0, .ref (ad 0)), (1, .int l1), (2, .long l2)] → W p l e R s m args below meth c H locs cells slots Q (F0 m 29 ls []) := by
  intro l1 l2 x H locs ls  hw hW hS hl
  unfold j_Mod_readDictionary_29 at hw
  refine lv_aload_n hx hb d_Mod_readDictionary_29 rfl (lv_at hl 0 rfl) ?_
  refine lv_iconst (v := 4) hx hb d_Mod_readDictionary_30 (by decide) ?_
  refine w_puti (ty := .int) (k := 69) (t := 12) (C := R_Mod) (T := F_Mod) (N := 167) hx hb hT hown hK hW hS ko_0.1 ko_0.2 (by decide) in_Mod t_Mod t_Mod_ok n_Mod rfl rfl (by decide) rfl fr_Mod_69 w_9_5 (by decide +kernel) rfl rfl d_Mod_readDictionary_31 (fun H locs hW hS => ?_)
  obtain ⟨x1388, ex1388⟩ : ∃ y : St, y = setI x 0 69 4 := ⟨_, rfl⟩
  rw [← ex1388] at hW
  have hw := hw x1388 ex1388
  exact t_Mod_readDictionary_34 hx hb hml hown hT hK hN hA hRc hRs hRf hRl hret  l1 l2 x1388 H locs ls  hw hW hS (lv_sub hl [0, 1, 2] rfl)
set_option maxRecDepth 100000 in
set_option maxHeartbeats 4000000 in
set_option maxRecDepth 100000 in
theorem t_Mod_readDictionary_e {p : Program} {l : Launch} {e : Env} {R : Room} {s : State} {m : MethodId} {args : Array Value} {below : List Frame} {meth : Method} {c : Code} {cells slots : Nat} {Q : State → Prop} {dC : Nat → ClassId} {dI : Nat → Nat → Nat} {cI cB cJ cZ : ClassId} {A : Nat → Prop} {ad : Nat → Nat} {post : St → Prop} (hx : p.tables.exec = Jvm.exec) (hb : c.code = b_Mod_readDictionary) (hml : c.maxLocals = 10) (hown : s.vm.findClass R_Mod = some m.cls) (hT : ∀ w ∈ TG, w.before args s = true) (hK : va_K (dC, dI) CL (TY cI cB cJ cZ) s) (hN : NW s) (hA : ∀ q : Nat, s.heap.size ≤ q → A q) (hRc : cells ≤ R.cells) (hRs : slots ≤ R.slots) (hRf : 3 ≤ R.frames) (hRl : 84 ≤ R.locals) (hret : ∀ (x : St) (H : Heap) (locs : List Loc) (pc : Nat) (ls : Array Slot), decode b_Mod_readDictionary pc = .ok (.return_, 1) → post x → Wd dC dI cI cB cJ cZ ad stM kcM 115 A x H → va_S A s.heap H locs → W p l e R s m args below meth c H locs cells slots Q (F0 m pc ls [])) : ∀ (l1 : Int32) (x : St) (H : Heap) (locs : List Loc) (ls : Array Slot), wp_Mod_readDictionary post l1 x → Wd dC dI cI cB cJ cZ ad stM kcM 115 A x H → va_S A s.heap H locs → lv_has ls 10 [(0, .ref (ad 0)), (1, .int l1)] → W p l e R s m args below meth c H locs cells slots Q (F0 m 0 ls []) := by
  intro l1 x H locs ls  hw hW hS hl
  unfold wp_Mod_readDictionary at hw
  refine lv_aload_n hx hb d_Mod_readDictionary_0 rfl (lv_at hl 0 rfl) ?_
  refine lv_aload_n hx hb d_Mod_readDictionary_1 rfl (lv_at hl 0 rfl) ?_
  refine w_geti (k := 68) (t := 12) (C := R_Mod) (T := F_Mod) (N := 167) hx hb hT hown hK hW ko_0.1 ko_0.2 (by decide) in_Mod rfl rfl (by decide) rfl fr_Mod_68 w_9_4 d_Mod_readDictionary_2 ?_
  have hF := hW.free hS hA
  refine va_calll (va_runV (C := R_Mod) (As := [.int (fI x 0 68)]) (rest := []) ⟨hx, hb, hml, hown, hT⟩ (k_Mod_varint l dC dI cI cB cJ cZ ad H.size (fI x 0 68) x  hw) ⟨callB_of 1 hT (gwt_in w_12_124) rfl rfl rfl (hT _ w_1_15) (hT _ w_12_121) (by decide +kernel) ⟨Nat.le_trans (Nat.le_of_ble_eq_true rfl) hRf, Nat.le_trans (Nat.le_of_ble_eq_true rfl) hRl⟩, hT _ w_12_123, hT _ ws_187⟩ ⟨PW.blind, va_recv hK hW.1 (ci := 12) (q0 := 0) rfl (pic_obj ko_0.1 ko_0.2 (by decide)), PW.at _ hW hK hN⟩ rfl rfl hl.1 rfl (lv_room (Nat.le_of_ble_eq_true rfl)) d_Mod_readDictionary_5 ⟨hRc, hRs⟩) hS (fun q _ h => hF q h) hF (fun r1390 x1389 t H locs ht hvm hw hB hz1 hk1 hS => ?_)
  have hW := Wd.back hB ht hF
  clear hB ht hF hz1 hk1 hvm
  refine lv_lstore_n (lv' := [(2, .long r1390), (0, .ref (ad 0)), (1, .int l1)]) hx hb d_Mod_readDictionary_8 rfl hl (by decide) rfl (fun ls hl => ?_)
  refine lv_aload_n hx hb d_Mod_readDictionary_9 rfl (lv_at hl 1 rfl) ?_
  refine w_geti (k := 69) (t := 12) (C := R_Mod) (T := F_Mod) (N := 167) hx hb hT hown hK hW ko_0.1 ko_0.2 (by decide) in_Mod rfl rfl (by decide) rfl fr_Mod_69 w_9_5 d_Mod_readDictionary_10 ?_
  refine lv_if_ne (tgt := 34) hx hb d_Mod_readDictionary_13 (by decide) (fun c1391 => ?_) (fun c1391 => ?_)
  · have hw := hw.1 c1391
    exact t_Mod_readDictionary_34 hx hb hml hown hT hK hN hA hRc hRs hRf hRl hret  l1 r1390 x1389 H locs ls  hw hW hS (lv_sub hl [1, 2, 0] rfl)
  · have hw := hw.2 c1391
    refine lv_lload_n hx hb d_Mod_readDictionary_16 rfl (lv_at hl 0 rfl) ?_
    refine lv_lconst (v := 0) hx hb d_Mod_readDictionary_17 (by decide) ?_
    refine W.lcmp hx hb d_Mod_readDictionary_18 ?_
    refine lv_if_lt (tgt := 29) hx hb d_Mod_readDictionary_19 (by decide) (fun c1392 => ?_) (fun c1392 => ?_)
    · have hw := hw.1 c1392
      exact t_Mod_readDictionary_29 hx hb hml hown hT hK hN hA hRc hRs hRf hRl hret  l1 r1390 x1389 H locs ls  hw hW hS (lv_sub hl [1, 2, 0] rfl)
    · have hw := hw.2 c1392
      refine lv_lload_n hx hb d_Mod_readDictionary_22 rfl (lv_at hl 0 rfl) ?_
      refine lv_iload_n hx hb d_Mod_readDictionary_23 rfl (lv_at hl 2 rfl) ?_
      refine lv_i2l hx hb d_Mod_readDictionary_24 rfl ?_
      refine W.lcmp hx hb d_Mod_readDictionary_25 ?_
      refine lv_if_le (tgt := 34) hx hb d_Mod_readDictionary_26 (by decide) (fun c1393 => ?_) (fun c1393 => ?_)
      · have hw := hw.1 c1393
        exact t_Mod_readDictionary_34 hx hb hml hown hT hK hN hA hRc hRs hRf hRl hret  l1 r1390 x1389 H locs ls  hw hW hS (lv_sub hl [1, 2, 0] rfl)
      · have hw := hw.2 c1393
        exact t_Mod_readDictionary_29 hx hb hml hown hT hK hN hA hRc hRs hRf hRl hret  l1 r1390 x1389 H locs ls  hw hW hS (lv_sub hl [1, 2, 0] rfl)
set_option maxHeartbeats 4000000 in
set_option maxRecDepth 100000 in
theorem k_Mod_readDictionary (l : Launch) (dC : Nat → ClassId) (dI : Nat → Nat → Nat) (cI cB cJ cZ : ClassId) (ad : Nat → Nat) (sz : Nat) (l1 : Int32) (x : St) {post : St → Prop} (hw : wp_Mod_readDictionary post l1 x) : Met l y_Mod_readDictionary (wsOf y_Mod_readDictionary b_Mod_readDictionary 10 (none)) ({ frames := 3, cells := 0, slots := 0, locals := 84 }) (va_Pc [.ref (ad 0), .int l1] (PW dC dI cI cB cJ cZ ad stM kcM 115 sz x)) (va_Qv (fun (y : St) => post y) (fun y t => Wd dC dI cI cB cJ cZ ad stM kcM 115 (va_A (pic ad stM kcM 115 cI cB cJ cZ x) sz) y t.heap) (va_A (pic ad stM kcM 115 cI cB cJ cZ x) sz)) 0 0 (va_A (pic ad stM kcM 115 cI cB cJ cZ x) sz) := by
  refine Met.ofW (cc := b_Mod_readDictionary) (maxL := 10) (ret := none) (by decide) rfl ?_
  intro p e s m args below meth c s₁ B hml hv
  obtain ⟨rfl, hsz, hW0, hK, hN⟩ := hv
  have hx := B.exec
  have hb := B.bytes
  have hr := B.returns
  have hts := atoms_spec B.pre
  have hT : ∀ w ∈ TG, w.before _ s = true := fun w h => hts w (List.mem_cons_of_mem _ h)
  have hown : s.vm.findClass R_Mod = some m.cls := findClass_of_methodNamed B.named
  have hlocks := B.notSynchronized
  subst hsz
  have hW : Wd dC dI cI cB cJ cZ ad stM kcM 115 (va_A (pic ad stM kcM 115 cI cB cJ cZ x) s.heap.size) x s.heap := ⟨hW0.1, hW0.2.1.self (sz := s.heap.size), hW0.2.2⟩
  generalize hAe : va_A (pic ad stM kcM 115 cI cB cJ cZ x) s.heap.size = A at hW ⊢
  have hA : ∀ q : Nat, s.heap.size ≤ q → A q := fun q h => by rw [← hAe]; exact Or.inr h
  have hS : va_S A s.heap s.heap [] := va_S.rf
  have hl := lv_entry ([.ref (ad 0), .int l1]) (n := 10) (Nat.le_of_ble_eq_true rfl)
  rw [lg_entry_eq]
  generalize (lg_sl ([.ref (ad 0), .int l1]) ++ List.replicate (10 - (lg_sl ([.ref (ad 0), .int l1])).length) Slot.unset).toArray = ls at hl ⊢
  have hl : lv_has ls 10 [(0, .ref (ad 0)), (1, .int l1)] := hl
  exact t_Mod_readDictionary_e hx hb hml hown hT hK hN hA (Nat.le_refl 0) (Nat.le_refl 0) (Nat.le_refl 3) (Nat.le_refl 84) (fun x H locs pc ls hd hp hW hS => W.vret hx hb hr (fun t ht hM => ⟨⟨x, rfl, hp, Wd.back hW ht.symm (fun _ z => z)⟩, hS.F ht⟩) hS.2.2 hd hlocks)  l1 x _ _ ls  hw hW hS hl
set_option maxRecDepth 100000 in
set_option maxHeartbeats 4000000 in
set_option maxRecDepth 100000 in
theorem t_Mod_readTexts_e {p : Program} {l : Launch} {e : Env} {R : Room} {s : State} {m : MethodId} {args : Array Value} {below : List Frame} {meth : Method} {c : Code} {cells slots : Nat} {Q : State → Prop} {dC : Nat → ClassId} {dI : Nat → Nat → Nat} {cI cB cJ cZ : ClassId} {A : Nat → Prop} {ad : Nat → Nat} {post : St → Prop} (hx : p.tables.exec = Jvm.exec) (hb : c.code = b_Mod_readTexts) (hml : c.maxLocals = 3) (hown : s.vm.findClass R_Mod = some m.cls) (hT : ∀ w ∈ TG, w.before args s = true) (hK : va_K (dC, dI) CL (TY cI cB cJ cZ) s) (hN : NW s) (hA : ∀ q : Nat, s.heap.size ≤ q → A q) (hRc : cells ≤ R.cells) (hRs : slots ≤ R.slots) (hRf : 5 ≤ R.frames) (hRl : 128 ≤ R.locals) (hret : ∀ (x : St) (H : Heap) (locs : List Loc) (pc : Nat) (ls : Array Slot), decode b_Mod_readTexts pc = .ok (.return_, 1) → post x → Wd dC dI cI cB cJ cZ ad stM kcM 115 A x H → va_S A s.heap H locs → W p l e R s m args below meth c H locs cells slots Q (F0 m pc ls [])) : ∀ (l1 : Int32) (l2 : Int32) (x : St) (H : Heap) (locs : List Loc) (ls : Array Slot), wp_Mod_readTexts post l1 l2 x → Wd dC dI cI cB cJ cZ ad stM kcM 115 A x H → va_S A s.heap H locs → lv_has ls 3 [(0, .ref (ad 0)), (1, .int l1), (2, .int l2)] → W p l e R s m args below meth c H locs cells slots Q (F0 m 0 ls []) := by
  intro l1 l2 x H locs ls  hw hW hS hl
  unfold wp_Mod_readTexts at hw
  refine lv_aload_n hx hb d_Mod_readTexts_0 rfl (lv_at hl 0 rfl) ?_
  refine lv_iconst (v := 0) hx hb d_Mod_readTexts_1 (by decide) ?_
  refine w_puti (ty := .int) (k := 58) (t := 12) (C := R_Mod) (T := F_Mod) (N := 167) hx hb hT hown hK hW hS ko_0.1 ko_0.2 (by decide) in_Mod t_Mod t_Mod_ok n_Mod rfl rfl (by decide) rfl fr_Mod_58 w_8_234 (by decide +kernel) rfl rfl d_Mod_readTexts_2 (fun H locs hW hS => ?_)
  obtain ⟨x1394, ex1394⟩ : ∃ y : St, y = setI x 0 58 0 := ⟨_, rfl⟩
  rw [← ex1394] at hW
  have hw := hw x1394 ex1394
  refine lv_iload_n hx hb d_Mod_readTexts_5 rfl (lv_at hl 1 rfl) ?_
  refine lv_if_ne (tgt := 17) hx hb d_Mod_readTexts_6 (by decide) (fun c1395 => ?_) (fun c1395 => ?_)
  · have hw := hw.1 c1395
    refine lv_iload_n hx hb d_Mod_readTexts_17 rfl (lv_at hl 1 rfl) ?_
    refine lv_iconst (v := 1) hx hb d_Mod_readTexts_18 (by decide) ?_
    refine lv_icmp_ne (tgt := 30) hx hb d_Mod_readTexts_19 (by decide) (fun c1396 => ?_) (fun c1396 => ?_)
    · have hw := hw.1 c1396
      refine lv_iload_n hx hb d_Mod_readTexts_30 rfl (lv_at hl 1 rfl) ?_
      refine lv_iconst (v := 2) hx hb d_Mod_readTexts_31 (by decide) ?_
      refine lv_icmp_ne (tgt := 43) hx hb d_Mod_readTexts_32 (by decide) (fun c1397 => ?_) (fun c1397 => ?_)
      · have hw := hw.1 c1397
        refine lv_aload_n hx hb d_Mod_readTexts_43 rfl (lv_at hl 0 rfl) ?_
        refine lv_iload_n hx hb d_Mod_readTexts_44 rfl (lv_at hl 2 rfl) ?_
        have hF := hW.free hS hA
        refine va_callv (va_runV (C := R_Mod) (As := [.int l2]) (rest := []) ⟨hx, hb, hml, hown, hT⟩ (k_Mod_readDictionary l dC dI cI cB cJ cZ ad H.size l2 x1394  hw) ⟨callB_of 1 hT (gwt_in w_12_238) rfl rfl rfl (hT _ w_1_15) (hT _ w_12_235) (by decide +kernel) ⟨Nat.le_trans (Nat.le_of_ble_eq_true rfl) hRf, Nat.le_trans (Nat.le_of_ble_eq_true rfl) hRl⟩, hT _ w_12_237, hT _ ws_212⟩ ⟨PW.blind, va_recv hK hW.1 (ci := 12) (q0 := 0) rfl (pic_obj ko_0.1 ko_0.2 (by decide)), PW.at _ hW hK hN⟩ rfl rfl hl.1 rfl (lv_room (Nat.le_of_ble_eq_true rfl)) d_Mod_readTexts_45 ⟨hRc, hRs⟩) hS (fun q _ h => hF q h) hF (fun  x1398 t H locs ht hvm hw hB hz1 hk1 hS => ?_)
        have hW := Wd.back hB ht hF
        clear hB ht hF hz1 hk1 hvm
        exact hret x1398 H locs 48 ls d_Mod_readTexts_48 hw hW hS
      · have hw := hw.2 c1397
        refine lv_aload_n hx hb d_Mod_readTexts_35 rfl (lv_at hl 0 rfl) ?_
        refine lv_iload_n hx hb d_Mod_readTexts_36 rfl (lv_at hl 2 rfl) ?_
        have hF := hW.free hS hA
        refine va_callv (va_runV (C := R_Mod) (As := [.int l2]) (rest := []) ⟨hx, hb, hml, hown, hT⟩ (k_Mod_readFront l dC dI cI cB cJ cZ ad H.size l2 x1394  hw) ⟨callB_of 1 hT (gwt_in w_12_231) rfl rfl rfl (hT _ w_1_15) (hT _ w_12_228) (by decide +kernel) ⟨Nat.le_trans (Nat.le_of_ble_eq_true rfl) hRf, Nat.le_trans (Nat.le_of_ble_eq_true rfl) hRl⟩, hT _ w_12_230, hT _ ws_211⟩ ⟨PW.blind, va_recv hK hW.1 (ci := 12) (q0 := 0) rfl (pic_obj ko_0.1 ko_0.2 (by decide)), PW.at _ hW hK hN⟩ rfl rfl hl.1 rfl (lv_room (Nat.le_of_ble_eq_true rfl)) d_Mod_readTexts_37 ⟨hRc, hRs⟩) hS (fun q _ h => hF q h) hF (fun  x1399 t H locs ht hvm hw hB hz1 hk1 hS => ?_)
        have hW := Wd.back hB ht hF
        clear hB ht hF hz1 hk1 hvm
        refine lv_goto (tgt := 48) hx hb d_Mod_readTexts_40 (by decide) ?_
        exact hret x1399 H locs 48 ls d_Mod_readTexts_48 hw hW hS
    · have hw := hw.2 c1396
      refine lv_aload_n hx hb d_Mod_readTexts_22 rfl (lv_at hl 0 rfl) ?_
      refine lv_iload_n hx hb d_Mod_readTexts_23 rfl (lv_at hl 2 rfl) ?_
      have hF := hW.free hS hA
      refine va_callv (va_runV (C := R_Mod) (As := [.int l2]) (rest := []) ⟨hx, hb, hml, hown, hT⟩ (k_Mod_readLengths l dC dI cI cB cJ cZ ad H.size l2 x1394  hw) ⟨callB_of 1 hT (gwt_in w_12_214) rfl rfl rfl (hT _ w_1_15) (hT _ w_12_211) (by decide +kernel) ⟨Nat.le_trans (Nat.le_of_ble_eq_true rfl) hRf, Nat.le_trans (Nat.le_of_ble_eq_true rfl) hRl⟩, hT _ w_12_213, hT _ ws_207⟩ ⟨PW.blind, va_recv hK hW.1 (ci := 12) (q0 := 0) rfl (pic_obj ko_0.1 ko_0.2 (by decide)), PW.at _ hW hK hN⟩ rfl rfl hl.1 rfl (lv_room (Nat.le_of_ble_eq_true rfl)) d_Mod_readTexts_24 ⟨hRc, hRs⟩) hS (fun q _ h => hF q h) hF (fun  x1400 t H locs ht hvm hw hB hz1 hk1 hS => ?_)
      have hW := Wd.back hB ht hF
      clear hB ht hF hz1 hk1 hvm
      refine lv_goto (tgt := 48) hx hb d_Mod_readTexts_27 (by decide) ?_
      exact hret x1400 H locs 48 ls d_Mod_readTexts_48 hw hW hS
  · have hw := hw.2 c1395
    refine lv_aload_n hx hb d_Mod_readTexts_9 rfl (lv_at hl 0 rfl) ?_
    refine lv_iload_n hx hb d_Mod_readTexts_10 rfl (lv_at hl 2 rfl) ?_
    have hF := hW.free hS hA
    refine va_callv (va_runV (C := R_Mod) (As := [.int l2]) (rest := []) ⟨hx, hb, hml, hown, hT⟩ (k_Mod_readPlain l dC dI cI cB cJ cZ ad H.size l2 x1394  hw) ⟨callB_of 1 hT (gwt_in w_12_206) rfl rfl rfl (hT _ w_1_15) (hT _ w_12_203) (by decide +kernel) ⟨Nat.le_trans (Nat.le_of_ble_eq_true rfl) hRf, Nat.le_trans (Nat.le_of_ble_eq_true rfl) hRl⟩, hT _ w_12_205, hT _ ws_205⟩ ⟨PW.blind, va_recv hK hW.1 (ci := 12) (q0 := 0) rfl (pic_obj ko_0.1 ko_0.2 (by decide)), PW.at _ hW hK hN⟩ rfl rfl hl.1 rfl (lv_room (Nat.le_of_ble_eq_true rfl)) d_Mod_readTexts_11 ⟨hRc, hRs⟩) hS (fun q _ h => hF q h) hF (fun  x1401 t H locs ht hvm hw hB hz1 hk1 hS => ?_)
    have hW := Wd.back hB ht hF
    clear hB ht hF hz1 hk1 hvm
    refine lv_goto (tgt := 48) hx hb d_Mod_readTexts_14 (by decide) ?_
    exact hret x1401 H locs 48 ls d_Mod_readTexts_48 hw hW hS
set_option maxHeartbeats 4000000 in
set_option maxRecDepth 100000 in
theorem k_Mod_readTexts (l : Launch) (dC : Nat → ClassId) (dI : Nat → Nat → Nat) (cI cB cJ cZ : ClassId) (ad : Nat → Nat) (sz : Nat) (l1 : Int32) (l2 : Int32) (x : St) {post : St → Prop} (hw : wp_Mod_readTexts post l1 l2 x) : Met l y_Mod_readTexts (wsOf y_Mod_readTexts b_Mod_readTexts 3 (none)) ({ frames := 5, cells := 0, slots := 0, locals := 128 }) (va_Pc [.ref (ad 0), .int l1, .int l2] (PW dC dI cI cB cJ cZ ad stM kcM 115 sz x)) (va_Qv (fun (y : St) => post y) (fun y t => Wd dC dI cI cB cJ cZ ad stM kcM 115 (va_A (pic ad stM kcM 115 cI cB cJ cZ x) sz) y t.heap) (va_A (pic ad stM kcM 115 cI cB cJ cZ x) sz)) 0 0 (va_A (pic ad stM kcM 115 cI cB cJ cZ x) sz) := by
  refine Met.ofW (cc := b_Mod_readTexts) (maxL := 3) (ret := none) (by decide) rfl ?_
  intro p e s m args below meth c s₁ B hml hv
  obtain ⟨rfl, hsz, hW0, hK, hN⟩ := hv
  have hx := B.exec
  have hb := B.bytes
  have hr := B.returns
  have hts := atoms_spec B.pre
  have hT : ∀ w ∈ TG, w.before _ s = true := fun w h => hts w (List.mem_cons_of_mem _ h)
  have hown : s.vm.findClass R_Mod = some m.cls := findClass_of_methodNamed B.named
  have hlocks := B.notSynchronized
  subst hsz
  have hW : Wd dC dI cI cB cJ cZ ad stM kcM 115 (va_A (pic ad stM kcM 115 cI cB cJ cZ x) s.heap.size) x s.heap := ⟨hW0.1, hW0.2.1.self (sz := s.heap.size), hW0.2.2⟩
  generalize hAe : va_A (pic ad stM kcM 115 cI cB cJ cZ x) s.heap.size = A at hW ⊢
  have hA : ∀ q : Nat, s.heap.size ≤ q → A q := fun q h => by rw [← hAe]; exact Or.inr h
  have hS : va_S A s.heap s.heap [] := va_S.rf
  have hl := lv_entry ([.ref (ad 0), .int l1, .int l2]) (n := 3) (Nat.le_of_ble_eq_true rfl)
  rw [lg_entry_eq]
  generalize (lg_sl ([.ref (ad 0), .int l1, .int l2]) ++ List.replicate (3 - (lg_sl ([.ref (ad 0), .int l1, .int l2])).length) Slot.unset).toArray = ls at hl ⊢
  have hl : lv_has ls 3 [(0, .ref (ad 0)), (1, .int l1), (2, .int l2)] := hl
  exact t_Mod_readTexts_e hx hb hml hown hT hK hN hA (Nat.le_refl 0) (Nat.le_refl 0) (Nat.le_refl 5) (Nat.le_refl 128) (fun x H locs pc ls hd hp hW hS => W.vret hx hb hr (fun t ht hM => ⟨⟨x, rfl, hp, Wd.back hW ht.symm (fun _ z => z)⟩, hS.F ht⟩) hS.2.2 hd hlocks)  l1 l2 x _ _ ls  hw hW hS hl
set_option maxRecDepth 100000 in
set_option maxHeartbeats 4000000 in
set_option maxRecDepth 100000 in
theorem t_Mod_whole_e {p : Program} {l : Launch} {e : Env} {R : Room} {s : State} {m : MethodId} {args : Array Value} {below : List Frame} {meth : Method} {c : Code} {cells slots : Nat} {Q : State → Prop} {dC : Nat → ClassId} {dI : Nat → Nat → Nat} {cI cB cJ cZ : ClassId} {A : Nat → Prop} {ad : Nat → Nat} {post : Int64 → St → Prop} (hx : p.tables.exec = Jvm.exec) (hb : c.code = b_Mod_whole) (hml : c.maxLocals = 3) (hown : s.vm.findClass R_Mod = some m.cls) (hT : ∀ w ∈ TG, w.before args s = true) (hK : va_K (dC, dI) CL (TY cI cB cJ cZ) s) (hN : NW s) (hA : ∀ q : Nat, s.heap.size ≤ q → A q) (hRc : cells ≤ R.cells) (hRs : slots ≤ R.slots) (hRf : 1 ≤ R.frames) (hRl : 25 ≤ R.locals) (hret : ∀ (r : Int64) (x : St) (H : Heap) (locs : List Loc) (pc : Nat) (ls : Array Slot), decode b_Mod_whole pc = .ok (.lreturn, 1) → post r x → Wd dC dI cI cB cJ cZ ad stM kcM 115 A x H → va_S A s.heap H locs → W p l e R s m args below meth c H locs cells slots Q (F0 m pc ls [.long r])) : ∀  (x : St) (H : Heap) (locs : List Loc) (ls : Array Slot), wp_Mod_whole post  x → Wd dC dI cI cB cJ cZ ad stM kcM 115 A x H → va_S A s.heap H locs → lv_has ls 3 [(0, .ref (ad 0))] → W p l e R s m args below meth c H locs cells slots Q (F0 m 0 ls []) := by
  intro  x H locs ls  hw hW hS hl
  unfold wp_Mod_whole at hw
  refine lv_aload_n hx hb d_Mod_whole_0 rfl (lv_at hl 0 rfl) ?_
  refine lv_aload_n hx hb d_Mod_whole_1 rfl (lv_at hl 0 rfl) ?_
  have hF := hW.free hS hA
  refine va_calli (va_runV (C := R_Mod) (As := []) (rest := [.ref (ad 0)]) ⟨hx, hb, hml, hown, hT⟩ (k_Mod_wide l dC dI cI cB cJ cZ ad H.size  x  hw) ⟨callB_of 0 hT (gwt_in w_11_207) rfl rfl rfl (hT _ w_1_15) (hT _ w_11_204) (by decide +kernel) ⟨Nat.le_trans (Nat.le_of_ble_eq_true rfl) hRf, Nat.le_trans (Nat.le_of_ble_eq_true rfl) hRl⟩, hT _ w_11_206, hT _ ws_155⟩ ⟨PW.blind, va_recv hK hW.1 (ci := 12) (q0 := 0) rfl (pic_obj ko_0.1 ko_0.2 (by decide)), PW.at _ hW hK hN⟩ rfl rfl hl.1 rfl (lv_room (Nat.le_of_ble_eq_true rfl)) d_Mod_whole_2 ⟨hRc, hRs⟩) hS (fun q _ h => hF q h) hF (fun r1403 x1402 t H locs ht hvm hw hB hz1 hk1 hS => ?_)
  have hW := Wd.back hB ht hF
  clear hB ht hF hz1 hk1 hvm
  refine lv_aload_n hx hb d_Mod_whole_5 rfl (lv_at hl 0 rfl) ?_
  refine w_geti (k := 68) (t := 12) (C := R_Mod) (T := F_Mod) (N := 167) hx hb hT hown hK hW ko_0.1 ko_0.2 (by decide) in_Mod rfl rfl (by decide) rfl fr_Mod_68 w_9_4 d_Mod_whole_6 ?_
  have hF := hW.free hS hA
  refine va_calll (va_runV (C := R_Mod) (As := [.int r1403, .int (fI x1402 0 68)]) (rest := []) ⟨hx, hb, hml, hown, hT⟩ (k_Mod_fixed l dC dI cI cB cJ cZ ad H.size r1403 (fI x1402 0 68) x1402  hw) ⟨callB_of 2 hT (gwt_in w_12_111) rfl rfl rfl (hT _ w_1_15) (hT _ w_12_108) (by decide +kernel) ⟨Nat.le_trans (Nat.le_of_ble_eq_true rfl) hRf, Nat.le_trans (Nat.le_of_ble_eq_true rfl) hRl⟩, hT _ w_12_110, hT _ ws_184⟩ ⟨PW.blind, va_recv hK hW.1 (ci := 12) (q0 := 0) rfl (pic_obj ko_0.1 ko_0.2 (by decide)), PW.at _ hW hK hN⟩ rfl rfl hl.1 rfl (lv_room (Nat.le_of_ble_eq_true rfl)) d_Mod_whole_9 ⟨hRc, hRs⟩) hS (fun q _ h => hF q h) hF (fun r1405 x1404 t H locs ht hvm hw hB hz1 hk1 hS => ?_)
  have hW := Wd.back hB ht hF
  clear hB ht hF hz1 hk1 hvm
  refine lv_lstore_n (lv' := [(1, .long r1405), (0, .ref (ad 0))]) hx hb d_Mod_whole_12 rfl hl (by decide) rfl (fun ls hl => ?_)
  refine lv_aload_n hx hb d_Mod_whole_13 rfl (lv_at hl 1 rfl) ?_
  refine w_geti (k := 38) (t := 12) (C := R_Mod) (T := F_Mod) (N := 167) hx hb hT hown hK hW ko_0.1 ko_0.2 (by decide) in_Mod rfl rfl (by decide) rfl fr_Mod_38 w_8_214 d_Mod_whole_14 ?_
  refine lv_iconst (v := 1) hx hb d_Mod_whole_17 (by decide) ?_
  refine lv_icmp_ne (tgt := 27) hx hb d_Mod_whole_18 (by decide) (fun c1406 => ?_) (fun c1406 => ?_)
  · have hw := hw.1 c1406
    refine lv_lload_n hx hb d_Mod_whole_27 rfl (lv_at hl 0 rfl) ?_
    exact hret r1405 x1404 H locs 28 ls d_Mod_whole_28 hw hW hS
  · have hw := hw.2 c1406
    refine lv_lload_n hx hb d_Mod_whole_21 rfl (lv_at hl 0 rfl) ?_
    refine lv_l2i hx hb d_Mod_whole_22 rfl ?_
    refine lv_i2l hx hb d_Mod_whole_23 rfl ?_
    refine lv_goto (tgt := 28) hx hb d_Mod_whole_24 (by decide) ?_
    exact hret ((r1405 : Int64).toInt32 : Int32).toInt64 x1404 H locs 28 ls d_Mod_whole_28 hw hW hS
set_option maxHeartbeats 4000000 in
set_option maxRecDepth 100000 in
theorem k_Mod_whole (l : Launch) (dC : Nat → ClassId) (dI : Nat → Nat → Nat) (cI cB cJ cZ : ClassId) (ad : Nat → Nat) (sz : Nat)  (x : St) {post : Int64 → St → Prop} (hw : wp_Mod_whole post  x) : Met l y_Mod_whole (wsOf y_Mod_whole b_Mod_whole 3 (some (.long))) ({ frames := 1, cells := 0, slots := 0, locals := 25 }) (va_Pc [.ref (ad 0)] (PW dC dI cI cB cJ cZ ad stM kcM 115 sz x)) (va_Ql (fun (r : Int64) (y : St) => post r y) (fun y t => Wd dC dI cI cB cJ cZ ad stM kcM 115 (va_A (pic ad stM kcM 115 cI cB cJ cZ x) sz) y t.heap) (va_A (pic ad stM kcM 115 cI cB cJ cZ x) sz)) 0 0 (va_A (pic ad stM kcM 115 cI cB cJ cZ x) sz) := by
  refine Met.ofW (cc := b_Mod_whole) (maxL := 3) (ret := some (.long)) (by decide) rfl ?_
  intro p e s m args below meth c s₁ B hml hv
  obtain ⟨rfl, hsz, hW0, hK, hN⟩ := hv
  have hx := B.exec
  have hb := B.bytes
  have hr := B.returns
  have hts := atoms_spec B.pre
  have hT : ∀ w ∈ TG, w.before _ s = true := fun w h => hts w (List.mem_cons_of_mem _ h)
  have hown : s.vm.findClass R_Mod = some m.cls := findClass_of_methodNamed B.named
  have hlocks := B.notSynchronized
  subst hsz
  have hW : Wd dC dI cI cB cJ cZ ad stM kcM 115 (va_A (pic ad stM kcM 115 cI cB cJ cZ x) s.heap.size) x s.heap := ⟨hW0.1, hW0.2.1.self (sz := s.heap.size), hW0.2.2⟩
  generalize hAe : va_A (pic ad stM kcM 115 cI cB cJ cZ x) s.heap.size = A at hW ⊢
  have hA : ∀ q : Nat, s.heap.size ≤ q → A q := fun q h => by rw [← hAe]; exact Or.inr h
  have hS : va_S A s.heap s.heap [] := va_S.rf
  have hl := lv_entry ([.ref (ad 0)]) (n := 3) (Nat.le_of_ble_eq_true rfl)
  rw [lg_entry_eq]
  generalize (lg_sl ([.ref (ad 0)]) ++ List.replicate (3 - (lg_sl ([.ref (ad 0)])).length) Slot.unset).toArray = ls at hl ⊢
  have hl : lv_has ls 3 [(0, .ref (ad 0))] := hl
  exact t_Mod_whole_e hx hb hml hown hT hK hN hA (Nat.le_refl 0) (Nat.le_refl 0) (Nat.le_refl 1) (Nat.le_refl 25) (fun r x H locs pc ls hd hp hW hS => W.lret (v := r) hx hb hr (fun t ht hM => ⟨⟨r, x, rfl, hp, Wd.back hW ht.symm (fun _ z => z)⟩, hS.F ht⟩) hS.2.2 hd hlocks)   x _ _ ls  hw hW hS hl
set_option maxRecDepth 100000 in
set_option maxHeartbeats 4000000 in
set_option maxRecDepth 100000 in
theorem t_Mod_readWords_230 {p : Program} {l : Launch} {e : Env} {R : Room} {s : State} {m : MethodId} {args : Array Value} {below : List Frame} {meth : Method} {c : Code} {cells slots : Nat} {Q : State → Prop} {dC : Nat → ClassId} {dI : Nat → Nat → Nat} {cI cB cJ cZ : ClassId} {A : Nat → Prop} {ad : Nat → Nat} {post : St → Prop} {rec166 : Int32 → Int64 → Int32 → Int32 → St → Prop} (hx : p.tables.exec = Jvm.exec) (hb : c.code = b_Mod_readWords) (hml : c.maxLocals = 6) (hown : s.vm.findClass R_Mod = some m.cls) (hT : ∀ w ∈ TG, w.before args s = true) (hK : va_K (dC, dI) CL (TY cI cB cJ cZ) s) (hN : NW s) (hA : ∀ q : Nat, s.heap.size ≤ q → A q) (hRc : cells ≤ R.cells) (hRs : slots ≤ R.slots) (hRf : 3 ≤ R.frames) (hRl : 84 ≤ R.locals) (hret : ∀ (x : St) (H : Heap) (locs : List Loc) (pc : Nat) (ls : Array Slot), decode b_Mod_readWords pc = .ok (.return_, 1) → post x → Wd dC dI cI cB cJ cZ ad stM kcM 115 A x H → va_S A s.heap H locs → W p l e R s m args below meth c H locs cells slots Q (F0 m pc ls [])) (hrec166 : ∀ (l1 : Int32) (l2 : Int64) (l4 : Int32) (l5 : Int32) (x : St) (H : Heap) (locs : List Loc) (ls : Array Slot), rec166 l1 l2 l4 l5 x → Wd dC dI cI cB cJ cZ ad stM kcM 115 A x H → va_S A s.heap H locs → lv_has ls 6 [(0, .ref (ad 0)), (1, .int l1), (2, .long l2), (4, .int l4), (5, .int l5)] → W p l e R s m args below meth c H locs cells slots Q (F0 m 166 ls [])) : ∀ (l1 : Int32) (l2 : Int64) (l4 : Int32) (l5 : Int32) (x : St) (H : Heap) (locs : List Loc) (ls : Array Slot), j_Mod_readWords_230 post rec166 l1 l2 l4 l5 x → Wd dC dI cI cB cJ cZ ad stM kcM 115 A x H → va_S A s.heap H locs → lv_has ls 6 [(0, .ref (ad 0)), (1, .int l1), (2, .long l2), (4, .int l4), (5, .int l5)] → W p l e R s m args below meth c H locs cells slots Q (F0 m 230 ls []) := by
  intro l1 l2 l4 l5 x H locs ls  hw hW hS hl
  unfold j_Mod_readWords_230 at hw
  refine lv_iinc (v := (l5 + 1)) (lv' := [(5, .int (l5 + 1)), (0, .ref (ad 0)), (1, .int l1), (2, .long l2), (4, .int l4)]) hx hb d_Mod_readWords_230 hl (k := 4) rfl rfl (by decide) rfl (fun ls hl => ?_)
  refine lv_goto (tgt := 166) hx hb d_Mod_readWords_233 (by decide) ?_
  exact hrec166 l1 l2 l4 (l5 + 1) x H locs ls  hw hW hS (lv_sub hl [1, 2, 3, 4, 0] rfl)
set_option maxRecDepth 100000 in
set_option maxHeartbeats 4000000 in
set_option maxRecDepth 100000 in
theorem t_Mod_readWords_202 {p : Program} {l : Launch} {e : Env} {R : Room} {s : State} {m : MethodId} {args : Array Value} {below : List Frame} {meth : Method} {c : Code} {cells slots : Nat} {Q : State → Prop} {dC : Nat → ClassId} {dI : Nat → Nat → Nat} {cI cB cJ cZ : ClassId} {A : Nat → Prop} {ad : Nat → Nat} {post : St → Prop} {rec166 : Int32 → Int64 → Int32 → Int32 → St → Prop} (hx : p.tables.exec = Jvm.exec) (hb : c.code = b_Mod_readWords) (hml : c.maxLocals = 6) (hown : s.vm.findClass R_Mod = some m.cls) (hT : ∀ w ∈ TG, w.before args s = true) (hK : va_K (dC, dI) CL (TY cI cB cJ cZ) s) (hN : NW s) (hA : ∀ q : Nat, s.heap.size ≤ q → A q) (hRc : cells ≤ R.cells) (hRs : slots ≤ R.slots) (hRf : 3 ≤ R.frames) (hRl : 84 ≤ R.locals) (hret : ∀ (x : St) (H : Heap) (locs : List Loc) (pc : Nat) (ls : Array Slot), decode b_Mod_readWords pc = .ok (.return_, 1) → post x → Wd dC dI cI cB cJ cZ ad stM kcM 115 A x H → va_S A s.heap H locs → W p l e R s m args below meth c H locs cells slots Q (F0 m pc ls [])) (hrec166 : ∀ (l1 : Int32) (l2 : Int64) (l4 : Int32) (l5 : Int32) (x : St) (H : Heap) (locs : List Loc) (ls : Array Slot), rec166 l1 l2 l4 l5 x → Wd dC dI cI cB cJ cZ ad stM kcM 115 A x H → va_S A s.heap H locs → lv_has ls 6 [(0, .ref (ad 0)), (1, .int l1), (2, .long l2), (4, .int l4), (5, .int l5)] → W p l e R s m args below meth c H locs cells slots Q (F0 m 166 ls [])) : ∀ (l1 : Int32) (l2 : Int64) (l4 : Int32) (l5 : Int32) (x : St) (H : Heap) (locs : List Loc) (ls : Array Slot), j_Mod_readWords_202 post rec166 l1 l2 l4 l5 x → Wd dC dI cI cB cJ cZ ad stM kcM 115 A x H → va_S A s.heap H locs → lv_has ls 6 [(0, .ref (ad 0)), (1, .int l1), (2, .long l2), (4, .int l4), (5, .int l5)] → W p l e R s m args below meth c H locs cells slots Q (F0 m 202 ls []) := by
  intro l1 l2 l4 l5 x H locs ls  hw hW hS hl
  unfold j_Mod_readWords_202 at hw
  refine lv_aload_n hx hb d_Mod_readWords_202 rfl (lv_at hl 0 rfl) ?_
  refine lv_bipush (v := 7) hx hb d_Mod_readWords_203 (by decide) ?_
  refine w_puti (ty := .int) (k := 69) (t := 12) (C := R_Mod) (T := F_Mod) (N := 167) hx hb hT hown hK hW hS ko_0.1 ko_0.2 (by decide) in_Mod t_Mod t_Mod_ok n_Mod rfl rfl (by decide) rfl fr_Mod_69 w_9_5 (by decide +kernel) rfl rfl d_Mod_readWords_205 (fun H locs hW hS => ?_)
  obtain ⟨x1407, ex1407⟩ : ∃ y : St, y = setI x 0 69 7 := ⟨_, rfl⟩
  rw [← ex1407] at hW
  have hw := hw x1407 ex1407
  refine lv_goto (tgt := 230) hx hb d_Mod_readWords_208 (by decide) ?_
  exact t_Mod_readWords_230 hx hb hml hown hT hK hN hA hRc hRs hRf hRl hret hrec166 l1 l2 l4 l5 x1407 H locs ls  hw hW hS (lv_sub hl [0, 1, 2, 3, 4] rfl)
set_option maxRecDepth 100000 in
set_option maxHeartbeats 4000000 in
set_option maxRecDepth 100000 in
theorem t_Mod_readWords_166 {p : Program} {l : Launch} {e : Env} {R : Room} {s : State} {m : MethodId} {args : Array Value} {below : List Frame} {meth : Method} {c : Code} {cells slots : Nat} {Q : State → Prop} {dC : Nat → ClassId} {dI : Nat → Nat → Nat} {cI cB cJ cZ : ClassId} {A : Nat → Prop} {ad : Nat → Nat} {post : St → Prop} {rec166 : Int32 → Int64 → Int32 → Int32 → St → Prop} (hx : p.tables.exec = Jvm.exec) (hb : c.code = b_Mod_readWords) (hml : c.maxLocals = 6) (hown : s.vm.findClass R_Mod = some m.cls) (hT : ∀ w ∈ TG, w.before args s = true) (hK : va_K (dC, dI) CL (TY cI cB cJ cZ) s) (hN : NW s) (hA : ∀ q : Nat, s.heap.size ≤ q → A q) (hRc : cells ≤ R.cells) (hRs : slots ≤ R.slots) (hRf : 3 ≤ R.frames) (hRl : 84 ≤ R.locals) (hret : ∀ (x : St) (H : Heap) (locs : List Loc) (pc : Nat) (ls : Array Slot), decode b_Mod_readWords pc = .ok (.return_, 1) → post x → Wd dC dI cI cB cJ cZ ad stM kcM 115 A x H → va_S A s.heap H locs → W p l e R s m args below meth c H locs cells slots Q (F0 m pc ls [])) (hrec166 : ∀ (l1 : Int32) (l2 : Int64) (l4 : Int32) (l5 : Int32) (x : St) (H : Heap) (locs : List Loc) (ls : Array Slot), rec166 l1 l2 l4 l5 x → Wd dC dI cI cB cJ cZ ad stM kcM 115 A x H → va_S A s.heap H locs → lv_has ls 6 [(0, .ref (ad 0)), (1, .int l1), (2, .long l2), (4, .int l4), (5, .int l5)] → W p l e R s m args below meth c H locs cells slots Q (F0 m 166 ls [])) : ∀ (l1 : Int32) (l2 : Int64) (l4 : Int32) (l5 : Int32) (x : St) (H : Heap) (locs : List Loc) (ls : Array Slot), j_Mod_readWords_166 post rec166 l1 l2 l4 l5 x → Wd dC dI cI cB cJ cZ ad stM kcM 115 A x H → va_S A s.heap H locs → lv_has ls 6 [(0, .ref (ad 0)), (1, .int l1), (2, .long l2), (4, .int l4), (5, .int l5)] → W p l e R s m args below meth c H locs cells slots Q (F0 m 166 ls []) := by
  intro l1 l2 l4 l5 x H locs ls  hw hW hS hl
  unfold j_Mod_readWords_166 at hw
  refine lv_iload hx hb d_Mod_readWords_166 (lv_at hl 4 rfl) ?_
  refine lv_iload_n hx hb d_Mod_readWords_168 rfl (lv_at hl 1 rfl) ?_
  refine lv_icmp_ge (tgt := 236) hx hb d_Mod_readWords_169 (by decide) (fun c1408 => ?_) (fun c1408 => ?_)
  · have hw := hw.1 c1408
    exact hret x H locs 236 ls d_Mod_readWords_236 hw hW hS
  · have hw := hw.2 c1408
    refine lv_aload_n hx hb d_Mod_readWords_172 rfl (lv_at hl 0 rfl) ?_
    refine w_geti (k := 69) (t := 12) (C := R_Mod) (T := F_Mod) (N := 167) hx hb hT hown hK hW ko_0.1 ko_0.2 (by decide) in_Mod rfl rfl (by decide) rfl fr_Mod_69 w_9_5 d_Mod_readWords_173 ?_
    refine lv_if_ne (tgt := 236) hx hb d_Mod_readWords_176 (by decide) (fun c1409 => ?_) (fun c1409 => ?_)
    · have hw := hw.1 c1409
      exact hret x H locs 236 ls d_Mod_readWords_236 hw hW hS
    · have hw := hw.2 c1409
      refine lv_aload_n hx hb d_Mod_readWords_179 rfl (lv_at hl 0 rfl) ?_
      refine w_getf (q := 44) (k := 72) (t := 12) (C := R_Mod) (T := F_Mod) (N := 167) hx hb hT hown hK hW ko_0.1 ko_0.2 (by decide) in_Mod rfl rfl (by decide) rfl fr_Mod_72 w_9_8 d_Mod_readWords_180 rfl ?_
      refine lv_iload hx hb d_Mod_readWords_183 (lv_at hl 4 rfl) ?_
      obtain ⟨hi, hw⟩ := hw
      refine w_iald (o := 44) hx hb hK hW ko_44.1 ko_44.2 hi d_Mod_readWords_185 ?_
      refine lv_if_lt (tgt := 202) hx hb d_Mod_readWords_186 (by decide) (fun c1410 => ?_) (fun c1410 => ?_)
      · have hw := hw.1 c1410
        exact t_Mod_readWords_202 hx hb hml hown hT hK hN hA hRc hRs hRf hRl hret hrec166 l1 l2 l4 l5 x H locs ls  hw hW hS (lv_sub hl [0, 1, 2, 3, 4] rfl)
      · have hw := hw.2 c1410
        refine lv_aload_n hx hb d_Mod_readWords_189 rfl (lv_at hl 0 rfl) ?_
        refine w_getf (q := 44) (k := 72) (t := 12) (C := R_Mod) (T := F_Mod) (N := 167) hx hb hT hown hK hW ko_0.1 ko_0.2 (by decide) in_Mod rfl rfl (by decide) rfl fr_Mod_72 w_9_8 d_Mod_readWords_190 rfl ?_
        refine lv_iload hx hb d_Mod_readWords_193 (lv_at hl 4 rfl) ?_
        obtain ⟨hi, hw⟩ := hw
        refine w_iald (o := 44) hx hb hK hW ko_44.1 ko_44.2 hi d_Mod_readWords_195 ?_
        refine lv_i2l hx hb d_Mod_readWords_196 rfl ?_
        refine lv_lload_n hx hb d_Mod_readWords_197 rfl (lv_at hl 2 rfl) ?_
        refine W.lcmp hx hb d_Mod_readWords_198 ?_
        refine lv_if_lt (tgt := 211) hx hb d_Mod_readWords_199 (by decide) (fun c1411 => ?_) (fun c1411 => ?_)
        · have hw := hw.1 c1411
          refine lv_aload_n hx hb d_Mod_readWords_211 rfl (lv_at hl 0 rfl) ?_
          refine w_getf (q := 31) (k := 50) (t := 12) (C := R_Mod) (T := F_Mod) (N := 167) hx hb hT hown hK hW ko_0.1 ko_0.2 (by decide) in_Mod rfl rfl (by decide) rfl fr_Mod_50 w_8_226 d_Mod_readWords_212 rfl ?_
          refine lv_iload hx hb d_Mod_readWords_215 (lv_at hl 4 rfl) ?_
          refine lv_aload_n hx hb d_Mod_readWords_217 rfl (lv_at hl 0 rfl) ?_
          refine w_getf (q := 32) (k := 51) (t := 12) (C := R_Mod) (T := F_Mod) (N := 167) hx hb hT hown hK hW ko_0.1 ko_0.2 (by decide) in_Mod rfl rfl (by decide) rfl fr_Mod_51 w_8_227 d_Mod_readWords_218 rfl ?_
          refine lv_aload_n hx hb d_Mod_readWords_221 rfl (lv_at hl 0 rfl) ?_
          refine w_getf (q := 44) (k := 72) (t := 12) (C := R_Mod) (T := F_Mod) (N := 167) hx hb hT hown hK hW ko_0.1 ko_0.2 (by decide) in_Mod rfl rfl (by decide) rfl fr_Mod_72 w_9_8 d_Mod_readWords_222 rfl ?_
          refine lv_iload hx hb d_Mod_readWords_225 (lv_at hl 4 rfl) ?_
          obtain ⟨hi, hw⟩ := hw
          refine w_iald (o := 44) hx hb hK hW ko_44.1 ko_44.2 hi d_Mod_readWords_227 ?_
          obtain ⟨hi, hw⟩ := hw
          refine w_lald (o := 32) hx hb hK hW ko_32.1 ko_32.2 hi d_Mod_readWords_228 ?_
          obtain ⟨hi, hw⟩ := hw
          refine w_last (o := 31) hx hb hK hW hS ko_31.1 ko_31.2 hi d_Mod_readWords_229 (fun H locs hW hS => ?_)
          obtain ⟨x1412, ex1412⟩ : ∃ y : St, y = setL x 31 l5 (rL x 32 (rA x 44 l5)) := ⟨_, rfl⟩
          rw [← ex1412] at hW
          have hw := hw x1412 ex1412
          exact t_Mod_readWords_230 hx hb hml hown hT hK hN hA hRc hRs hRf hRl hret hrec166 l1 l2 l4 l5 x1412 H locs ls  hw hW hS (lv_sub hl [0, 1, 2, 3, 4] rfl)
        · have hw := hw.2 c1411
          exact t_Mod_readWords_202 hx hb hml hown hT hK hN hA hRc hRs hRf hRl hret hrec166 l1 l2 l4 l5 x H locs ls  hw hW hS (lv_sub hl [0, 1, 2, 3, 4] rfl)
set_option maxHeartbeats 4000000 in
set_option maxRecDepth 100000 in
theorem tl_Mod_readWords_166 {p : Program} {l : Launch} {e : Env} {R : Room} {s : State} {m : MethodId} {args : Array Value} {below : List Frame} {meth : Method} {c : Code} {cells slots : Nat} {Q : State → Prop} {dC : Nat → ClassId} {dI : Nat → Nat → Nat} {cI cB cJ cZ : ClassId} {A : Nat → Prop} {ad : Nat → Nat} {post : St → Prop} (hx : p.tables.exec = Jvm.exec) (hb : c.code = b_Mod_readWords) (hml : c.maxLocals = 6) (hown : s.vm.findClass R_Mod = some m.cls) (hT : ∀ w ∈ TG, w.before args s = true) (hK : va_K (dC, dI) CL (TY cI cB cJ cZ) s) (hN : NW s) (hA : ∀ q : Nat, s.heap.size ≤ q → A q) (hRc : cells ≤ R.cells) (hRs : slots ≤ R.slots) (hRf : 3 ≤ R.frames) (hRl : 84 ≤ R.locals) (hret : ∀ (x : St) (H : Heap) (locs : List Loc) (pc : Nat) (ls : Array Slot), decode b_Mod_readWords pc = .ok (.return_, 1) → post x → Wd dC dI cI cB cJ cZ ad stM kcM 115 A x H → va_S A s.heap H locs → W p l e R s m args below meth c H locs cells slots Q (F0 m pc ls []))  : ∀ n : Nat, ∀ (l1 : Int32) (l2 : Int64) (l4 : Int32) (l5 : Int32) (x : St) (H : Heap) (locs : List Loc) (ls : Array Slot), wl_Mod_readWords_166 post n l1 l2 l4 l5 x → Wd dC dI cI cB cJ cZ ad stM kcM 115 A x H → va_S A s.heap H locs → lv_has ls 6 [(0, .ref (ad 0)), (1, .int l1), (2, .long l2), (4, .int l4), (5, .int l5)] → W p l e R s m args below meth c H locs cells slots Q (F0 m 166 ls []) := by
  intro n
  induction n with
  | zero => intro l1 l2 l4 l5 x H locs ls  hw; exact hw.elim
  | succ n ih => intro l1 l2 l4 l5 x H locs ls  hw hW hS hl; exact t_Mod_readWords_166 hx hb hml hown hT hK hN hA hRc hRs hRf hRl hret  ih l1 l2 l4 l5 x H locs ls  hw hW hS hl
set_option maxRecDepth 100000 in
set_option maxHeartbeats 4000000 in
set_option maxRecDepth 100000 in
theorem t_Mod_readWords_163 {p : Program} {l : Launch} {e : Env} {R : Room} {s : State} {m : MethodId} {args : Array Value} {below : List Frame} {meth : Method} {c : Code} {cells slots : Nat} {Q : State → Prop} {dC : Nat → ClassId} {dI : Nat → Nat → Nat} {cI cB cJ cZ : ClassId} {A : Nat → Prop} {ad : Nat → Nat} {post : St → Prop} (hx : p.tables.exec = Jvm.exec) (hb : c.code = b_Mod_readWords) (hml : c.maxLocals = 6) (hown : s.vm.findClass R_Mod = some m.cls) (hT : ∀ w ∈ TG, w.before args s = true) (hK : va_K (dC, dI) CL (TY cI cB cJ cZ) s) (hN : NW s) (hA : ∀ q : Nat, s.heap.size ≤ q → A q) (hRc : cells ≤ R.cells) (hRs : slots ≤ R.slots) (hRf : 3 ≤ R.frames) (hRl : 84 ≤ R.locals) (hret : ∀ (x : St) (H : Heap) (locs : List Loc) (pc : Nat) (ls : Array Slot), decode b_Mod_readWords pc = .ok (.return_, 1) → post x → Wd dC dI cI cB cJ cZ ad stM kcM 115 A x H → va_S A s.heap H locs → W p l e R s m args below meth c H locs cells slots Q (F0 m pc ls []))  : ∀ (l1 : Int32) (l2 : Int64) (l4 : Int32) (x : St) (H : Heap) (locs : List Loc) (ls : Array Slot), j_Mod_readWords_163 post l1 l2 l4 x → Wd dC dI cI cB cJ cZ ad stM kcM 115 A x H → va_S A s.heap H locs → lv_has ls 6 [(0, .ref (ad 0)), (1, .int l1), (2, .long l2), (4, .int l4)] → W p l e R s m args below meth c H locs cells slots Q (F0 m 163 ls []) := by
  intro l1 l2 l4 x H locs ls  hw hW hS hl
  unfold j_Mod_readWords_163 at hw
  refine lv_iconst (v := 0) hx hb d_Mod_readWords_163 (by decide) ?_
  refine lv_istore (lv' := [(5, .int 0), (0, .ref (ad 0)), (1, .int l1), (2, .long l2), (4, .int l4)]) hx hb d_Mod_readWords_164 hl (by decide) rfl (fun ls hl => ?_)
  obtain ⟨n, hw⟩ := hw
  exact tl_Mod_readWords_166 hx hb hml hown hT hK hN hA hRc hRs hRf hRl hret  n l1 l2 l4 0 x H locs ls  hw hW hS (lv_sub hl [1, 2, 3, 4, 0] rfl)
set_option maxRecDepth 100000 in
set_option maxHeartbeats 4000000 in
set_option maxRecDepth 100000 in
theorem t_Mod_readWords_139 {p : Program} {l : Launch} {e : Env} {R : Room} {s : State} {m : MethodId} {args : Array Value} {below : List Frame} {meth : Method} {c : Code} {cells slots : Nat} {Q : State → Prop} {dC : Nat → ClassId} {dI : Nat → Nat → Nat} {cI cB cJ cZ : ClassId} {A : Nat → Prop} {ad : Nat → Nat} {post : St → Prop} (hx : p.tables.exec = Jvm.exec) (hb : c.code = b_Mod_readWords) (hml : c.maxLocals = 6) (hown : s.vm.findClass R_Mod = some m.cls) (hT : ∀ w ∈ TG, w.before args s = true) (hK : va_K (dC, dI) CL (TY cI cB cJ cZ) s) (hN : NW s) (hA : ∀ q : Nat, s.heap.size ≤ q → A q) (hRc : cells ≤ R.cells) (hRs : slots ≤ R.slots) (hRf : 3 ≤ R.frames) (hRl : 84 ≤ R.locals) (hret : ∀ (x : St) (H : Heap) (locs : List Loc) (pc : Nat) (ls : Array Slot), decode b_Mod_readWords pc = .ok (.return_, 1) → post x → Wd dC dI cI cB cJ cZ ad stM kcM 115 A x H → va_S A s.heap H locs → W p l e R s m args below meth c H locs cells slots Q (F0 m pc ls []))  : ∀ (l1 : Int32) (l2 : Int64) (l4 : Int32) (x : St) (H : Heap) (locs : List Loc) (ls : Array Slot), j_Mod_readWords_139 post l1 l2 l4 x → Wd dC dI cI cB cJ cZ ad stM kcM 115 A x H → va_S A s.heap H locs → lv_has ls 6 [(0, .ref (ad 0)), (1, .int l1), (2, .long l2), (4, .int l4)] → W p l e R s m args below meth c H locs cells slots Q (F0 m 139 ls []) := by
  intro l1 l2 l4 x H locs ls  hw hW hS hl
  unfold j_Mod_readWords_139 at hw
  refine lv_aload_n hx hb d_Mod_readWords_139 rfl (lv_at hl 0 rfl) ?_
  refine w_geti (k := 69) (t := 12) (C := R_Mod) (T := F_Mod) (N := 167) hx hb hT hown hK hW ko_0.1 ko_0.2 (by decide) in_Mod rfl rfl (by decide) rfl fr_Mod_69 w_9_5 d_Mod_readWords_140 ?_
  refine lv_if_ne (tgt := 163) hx hb d_Mod_readWords_143 (by decide) (fun c1413 => ?_) (fun c1413 => ?_)
  · have hw := hw.1 c1413
    exact t_Mod_readWords_163 hx hb hml hown hT hK hN hA hRc hRs hRf hRl hret  l1 l2 l4 x H locs ls  hw hW hS (lv_sub hl [0, 1, 2, 3] rfl)
  · have hw := hw.2 c1413
    refine lv_aload_n hx hb d_Mod_readWords_146 rfl (lv_at hl 0 rfl) ?_
    refine w_geti (k := 67) (t := 12) (C := R_Mod) (T := F_Mod) (N := 167) hx hb hT hown hK hW ko_0.1 ko_0.2 (by decide) in_Mod rfl rfl (by decide) rfl fr_Mod_67 w_9_3 d_Mod_readWords_147 ?_
    refine lv_aload_n hx hb d_Mod_readWords_150 rfl (lv_at hl 0 rfl) ?_
    refine w_geti (k := 68) (t := 12) (C := R_Mod) (T := F_Mod) (N := 167) hx hb hT hown hK hW ko_0.1 ko_0.2 (by decide) in_Mod rfl rfl (by decide) rfl fr_Mod_68 w_9_4 d_Mod_readWords_151 ?_
    refine lv_icmp_ge (tgt := 163) hx hb d_Mod_readWords_154 (by decide) (fun c1414 => ?_) (fun c1414 => ?_)
    · have hw := hw.1 c1414
      exact t_Mod_readWords_163 hx hb hml hown hT hK hN hA hRc hRs hRf hRl hret  l1 l2 l4 x H locs ls  hw hW hS (lv_sub hl [0, 1, 2, 3] rfl)
    · have hw := hw.2 c1414
      refine lv_aload_n hx hb d_Mod_readWords_157 rfl (lv_at hl 0 rfl) ?_
      refine lv_bipush (v := 6) hx hb d_Mod_readWords_158 (by decide) ?_
      refine w_puti (ty := .int) (k := 69) (t := 12) (C := R_Mod) (T := F_Mod) (N := 167) hx hb hT hown hK hW hS ko_0.1 ko_0.2 (by decide) in_Mod t_Mod t_Mod_ok n_Mod rfl rfl (by decide) rfl fr_Mod_69 w_9_5 (by decide +kernel) rfl rfl d_Mod_readWords_160 (fun H locs hW hS => ?_)
      obtain ⟨x1415, ex1415⟩ : ∃ y : St, y = setI x 0 69 6 := ⟨_, rfl⟩
      rw [← ex1415] at hW
      have hw := hw x1415 ex1415
      exact t_Mod_readWords_163 hx hb hml hown hT hK hN hA hRc hRs hRf hRl hret  l1 l2 l4 x1415 H locs ls  hw hW hS (lv_sub hl [0, 1, 2, 3] rfl)
set_option maxRecDepth 100000 in
set_option maxHeartbeats 4000000 in
set_option maxRecDepth 100000 in
theorem t_Mod_readWords_117 {p : Program} {l : Launch} {e : Env} {R : Room} {s : State} {m : MethodId} {args : Array Value} {below : List Frame} {meth : Method} {c : Code} {cells slots : Nat} {Q : State → Prop} {dC : Nat → ClassId} {dI : Nat → Nat → Nat} {cI cB cJ cZ : ClassId} {A : Nat → Prop} {ad : Nat → Nat} {post : St → Prop} (hx : p.tables.exec = Jvm.exec) (hb : c.code = b_Mod_readWords) (hml : c.maxLocals = 6) (hown : s.vm.findClass R_Mod = some m.cls) (hT : ∀ w ∈ TG, w.before args s = true) (hK : va_K (dC, dI) CL (TY cI cB cJ cZ) s) (hN : NW s) (hA : ∀ q : Nat, s.heap.size ≤ q → A q) (hRc : cells ≤ R.cells) (hRs : slots ≤ R.slots) (hRf : 3 ≤ R.frames) (hRl : 84 ≤ R.locals) (hret : ∀ (x : St) (H : Heap) (locs : List Loc) (pc : Nat) (ls : Array Slot), decode b_Mod_readWords pc = .ok (.return_, 1) → post x → Wd dC dI cI cB cJ cZ ad stM kcM 115 A x H → va_S A s.heap H locs → W p l e R s m args below meth c H locs cells slots Q (F0 m pc ls []))  : ∀ (l1 : Int32) (l2 : Int64) (l4 : Int32) (x : St) (H : Heap) (locs : List Loc) (ls : Array Slot), j_Mod_readWords_117 post l1 l2 l4 x → Wd dC dI cI cB cJ cZ ad stM kcM 115 A x H → va_S A s.heap H locs → lv_has ls 6 [(0, .ref (ad 0)), (1, .int l1), (2, .long l2), (4, .int l4)] → W p l e R s m args below meth c H locs cells slots Q (F0 m 117 ls []) := by
  intro l1 l2 l4 x H locs ls  hw hW hS hl
  unfold j_Mod_readWords_117 at hw
  refine lv_aload_n hx hb d_Mod_readWords_117 rfl (lv_at hl 0 rfl) ?_
  refine w_geti (k := 69) (t := 12) (C := R_Mod) (T := F_Mod) (N := 167) hx hb hT hown hK hW ko_0.1 ko_0.2 (by decide) in_Mod rfl rfl (by decide) rfl fr_Mod_69 w_9_5 d_Mod_readWords_118 ?_
  refine lv_if_ne (tgt := 139) hx hb d_Mod_readWords_121 (by decide) (fun c1416 => ?_) (fun c1416 => ?_)
  · have hw := hw.1 c1416
    exact t_Mod_readWords_139 hx hb hml hown hT hK hN hA hRc hRs hRf hRl hret  l1 l2 l4 x H locs ls  hw hW hS (lv_sub hl [0, 1, 2, 3] rfl)
  · have hw := hw.2 c1416
    refine lv_aload_n hx hb d_Mod_readWords_124 rfl (lv_at hl 0 rfl) ?_
    refine lv_aload_n hx hb d_Mod_readWords_125 rfl (lv_at hl 0 rfl) ?_
    refine w_getf (q := 44) (k := 72) (t := 12) (C := R_Mod) (T := F_Mod) (N := 167) hx hb hT hown hK hW ko_0.1 ko_0.2 (by decide) in_Mod rfl rfl (by decide) rfl fr_Mod_72 w_9_8 d_Mod_readWords_126 rfl ?_
    refine lv_iload_n hx hb d_Mod_readWords_129 rfl (lv_at hl 1 rfl) ?_
    refine lv_iload hx hb d_Mod_readWords_130 (lv_at hl 3 rfl) ?_
    refine lv_aload_n hx hb d_Mod_readWords_132 rfl (lv_at hl 0 rfl) ?_
    refine w_geti (k := 68) (t := 12) (C := R_Mod) (T := F_Mod) (N := 167) hx hb hT hown hK hW ko_0.1 ko_0.2 (by decide) in_Mod rfl rfl (by decide) rfl fr_Mod_68 w_9_4 d_Mod_readWords_133 ?_
    have hF := hW.free hS hA
    refine va_callv (va_runV (C := R_Mod) (As := [.ref (ad 44), .int l1, .int l4, .int (fI x 0 68)]) (rest := []) ⟨hx, hb, hml, hown, hT⟩ (k_Mod_readRuns l dC dI cI cB cJ cZ ad H.size 44 l1 l4 (fI x 0 68) x ko_44 hw) ⟨callB_of 4 hT (gwt_in w_12_181) rfl rfl rfl (hT _ w_1_15) (hT _ w_12_178) (by decide +kernel) ⟨Nat.le_trans (Nat.le_of_ble_eq_true rfl) hRf, Nat.le_trans (Nat.le_of_ble_eq_true rfl) hRl⟩, hT _ w_12_180, hT _ ws_199⟩ ⟨PW.blind, va_recv hK hW.1 (ci := 12) (q0 := 0) rfl (pic_obj ko_0.1 ko_0.2 (by decide)), PW.at _ hW hK hN⟩ rfl rfl hl.1 rfl (lv_room (Nat.le_of_ble_eq_true rfl)) d_Mod_readWords_136 ⟨hRc, hRs⟩) hS (fun q _ h => hF q h) hF (fun  x1417 t H locs ht hvm hw hB hz1 hk1 hS => ?_)
    have hW := Wd.back hB ht hF
    clear hB ht hF hz1 hk1 hvm
    exact t_Mod_readWords_139 hx hb hml hown hT hK hN hA hRc hRs hRf hRl hret  l1 l2 l4 x1417 H locs ls  hw hW hS (lv_sub hl [0, 1, 2, 3] rfl)
set_option maxRecDepth 100000 in
set_option maxHeartbeats 4000000 in
set_option maxRecDepth 100000 in
theorem t_Mod_readWords_86 {p : Program} {l : Launch} {e : Env} {R : Room} {s : State} {m : MethodId} {args : Array Value} {below : List Frame} {meth : Method} {c : Code} {cells slots : Nat} {Q : State → Prop} {dC : Nat → ClassId} {dI : Nat → Nat → Nat} {cI cB cJ cZ : ClassId} {A : Nat → Prop} {ad : Nat → Nat} {post : St → Prop} (hx : p.tables.exec = Jvm.exec) (hb : c.code = b_Mod_readWords) (hml : c.maxLocals = 6) (hown : s.vm.findClass R_Mod = some m.cls) (hT : ∀ w ∈ TG, w.before args s = true) (hK : va_K (dC, dI) CL (TY cI cB cJ cZ) s) (hN : NW s) (hA : ∀ q : Nat, s.heap.size ≤ q → A q) (hRc : cells ≤ R.cells) (hRs : slots ≤ R.slots) (hRf : 3 ≤ R.frames) (hRl : 84 ≤ R.locals) (hret : ∀ (x : St) (H : Heap) (locs : List Loc) (pc : Nat) (ls : Array Slot), decode b_Mod_readWords pc = .ok (.return_, 1) → post x → Wd dC dI cI cB cJ cZ ad stM kcM 115 A x H → va_S A s.heap H locs → W p l e R s m args below meth c H locs cells slots Q (F0 m pc ls []))  : ∀ (l1 : Int32) (l2 : Int64) (l4 : Int32) (x : St) (H : Heap) (locs : List Loc) (ls : Array Slot), j_Mod_readWords_86 post l1 l2 l4 x → Wd dC dI cI cB cJ cZ ad stM kcM 115 A x H → va_S A s.heap H locs → lv_has ls 6 [(0, .ref (ad 0)), (1, .int l1), (2, .long l2), (4, .int l4)] → W p l e R s m args below meth c H locs cells slots Q (F0 m 86 ls []) := by
  intro l1 l2 l4 x H locs ls  hw hW hS hl
  unfold j_Mod_readWords_86 at hw
  refine lv_aload_n hx hb d_Mod_readWords_86 rfl (lv_at hl 0 rfl) ?_
  refine lv_iconst (v := 1) hx hb d_Mod_readWords_87 (by decide) ?_
  refine lv_aload_n hx hb d_Mod_readWords_88 rfl (lv_at hl 0 rfl) ?_
  refine w_geti (k := 68) (t := 12) (C := R_Mod) (T := F_Mod) (N := 167) hx hb hT hown hK hW ko_0.1 ko_0.2 (by decide) in_Mod rfl rfl (by decide) rfl fr_Mod_68 w_9_4 d_Mod_readWords_89 ?_
  have hF := hW.free hS hA
  refine va_calll (va_runV (C := R_Mod) (As := [.int 1, .int (fI x 0 68)]) (rest := []) ⟨hx, hb, hml, hown, hT⟩ (k_Mod_fixed l dC dI cI cB cJ cZ ad H.size 1 (fI x 0 68) x  hw) ⟨callB_of 2 hT (gwt_in w_12_111) rfl rfl rfl (hT _ w_1_15) (hT _ w_12_108) (by decide +kernel) ⟨Nat.le_trans (Nat.le_of_ble_eq_true rfl) hRf, Nat.le_trans (Nat.le_of_ble_eq_true rfl) hRl⟩, hT _ w_12_110, hT _ ws_184⟩ ⟨PW.blind, va_recv hK hW.1 (ci := 12) (q0 := 0) rfl (pic_obj ko_0.1 ko_0.2 (by decide)), PW.at _ hW hK hN⟩ rfl rfl hl.1 rfl (lv_room (Nat.le_of_ble_eq_true rfl)) d_Mod_readWords_92 ⟨hRc, hRs⟩) hS (fun q _ h => hF q h) hF (fun r1419 x1418 t H locs ht hvm hw hB hz1 hk1 hS => ?_)
  have hW := Wd.back hB ht hF
  clear hB ht hF hz1 hk1 hvm
  refine lv_l2i hx hb d_Mod_readWords_95 rfl ?_
  refine lv_topi (fun v1420 ev1420 => ?_)
  have hw := hw v1420 ev1420
  refine lv_istore (lv' := [(4, .int v1420), (0, .ref (ad 0)), (1, .int l1), (2, .long l2)]) hx hb d_Mod_readWords_96 hl (by decide) rfl (fun ls hl => ?_)
  refine lv_aload_n hx hb d_Mod_readWords_98 rfl (lv_at hl 1 rfl) ?_
  refine w_geti (k := 69) (t := 12) (C := R_Mod) (T := F_Mod) (N := 167) hx hb hT hown hK hW ko_0.1 ko_0.2 (by decide) in_Mod rfl rfl (by decide) rfl fr_Mod_69 w_9_5 d_Mod_readWords_99 ?_
  refine lv_if_ne (tgt := 117) hx hb d_Mod_readWords_102 (by decide) (fun c1421 => ?_) (fun c1421 => ?_)
  · have hw := hw.1 c1421
    exact t_Mod_readWords_117 hx hb hml hown hT hK hN hA hRc hRs hRf hRl hret  l1 l2 v1420 x1418 H locs ls  hw hW hS (lv_sub hl [1, 2, 3, 0] rfl)
  · have hw := hw.2 c1421
    refine lv_iload hx hb d_Mod_readWords_105 (lv_at hl 0 rfl) ?_
    refine lv_bipush (v := 32) hx hb d_Mod_readWords_107 (by decide) ?_
    refine lv_icmp_le (tgt := 117) hx hb d_Mod_readWords_109 (by decide) (fun c1422 => ?_) (fun c1422 => ?_)
    · have hw := hw.1 c1422
      exact t_Mod_readWords_117 hx hb hml hown hT hK hN hA hRc hRs hRf hRl hret  l1 l2 v1420 x1418 H locs ls  hw hW hS (lv_sub hl [1, 2, 3, 0] rfl)
    · have hw := hw.2 c1422
      refine lv_aload_n hx hb d_Mod_readWords_112 rfl (lv_at hl 1 rfl) ?_
      refine lv_iconst (v := 5) hx hb d_Mod_readWords_113 (by decide) ?_
      refine w_puti (ty := .int) (k := 69) (t := 12) (C := R_Mod) (T := F_Mod) (N := 167) hx hb hT hown hK hW hS ko_0.1 ko_0.2 (by decide) in_Mod t_Mod t_Mod_ok n_Mod rfl rfl (by decide) rfl fr_Mod_69 w_9_5 (by decide +kernel) rfl rfl d_Mod_readWords_114 (fun H locs hW hS => ?_)
      obtain ⟨x1423, ex1423⟩ : ∃ y : St, y = setI x1418 0 69 5 := ⟨_, rfl⟩
      rw [← ex1423] at hW
      have hw := hw x1423 ex1423
      exact t_Mod_readWords_117 hx hb hml hown hT hK hN hA hRc hRs hRf hRl hret  l1 l2 v1420 x1423 H locs ls  hw hW hS (lv_sub hl [1, 2, 3, 0] rfl)
set_option maxRecDepth 100000 in
set_option maxHeartbeats 4000000 in
set_option maxRecDepth 100000 in
theorem t_Mod_readWords_54 {p : Program} {l : Launch} {e : Env} {R : Room} {s : State} {m : MethodId} {args : Array Value} {below : List Frame} {meth : Method} {c : Code} {cells slots : Nat} {Q : State → Prop} {dC : Nat → ClassId} {dI : Nat → Nat → Nat} {cI cB cJ cZ : ClassId} {A : Nat → Prop} {ad : Nat → Nat} {post : St → Prop} {rec54 : Int32 → Int64 → Int32 → St → Prop} (hx : p.tables.exec = Jvm.exec) (hb : c.code = b_Mod_readWords) (hml : c.maxLocals = 6) (hown : s.vm.findClass R_Mod = some m.cls) (hT : ∀ w ∈ TG, w.before args s = true) (hK : va_K (dC, dI) CL (TY cI cB cJ cZ) s) (hN : NW s) (hA : ∀ q : Nat, s.heap.size ≤ q → A q) (hRc : cells ≤ R.cells) (hRs : slots ≤ R.slots) (hRf : 3 ≤ R.frames) (hRl : 84 ≤ R.locals) (hret : ∀ (x : St) (H : Heap) (locs : List Loc) (pc : Nat) (ls : Array Slot), decode b_Mod_readWords pc = .ok (.return_, 1) → post x → Wd dC dI cI cB cJ cZ ad stM kcM 115 A x H → va_S A s.heap H locs → W p l e R s m args below meth c H locs cells slots Q (F0 m pc ls [])) (hrec54 : ∀ (l1 : Int32) (l2 : Int64) (l4 : Int32) (x : St) (H : Heap) (locs : List Loc) (ls : Array Slot), rec54 l1 l2 l4 x → Wd dC dI cI cB cJ cZ ad stM kcM 115 A x H → va_S A s.heap H locs → lv_has ls 6 [(0, .ref (ad 0)), (1, .int l1), (2, .long l2), (4, .int l4)] → W p l e R s m args below meth c H locs cells slots Q (F0 m 54 ls [])) : ∀ (l1 : Int32) (l2 : Int64) (l4 : Int32) (x : St) (H : Heap) (locs : List Loc) (ls : Array Slot), j_Mod_readWords_54 post rec54 l1 l2 l4 x → Wd dC dI cI cB cJ cZ ad stM kcM 115 A x H → va_S A s.heap H locs → lv_has ls 6 [(0, .ref (ad 0)), (1, .int l1), (2, .long l2), (4, .int l4)] → W p l e R s m args below meth c H locs cells slots Q (F0 m 54 ls []) := by
  intro l1 l2 l4 x H locs ls  hw hW hS hl
  unfold j_Mod_readWords_54 at hw
  refine lv_iload hx hb d_Mod_readWords_54 (lv_at hl 3 rfl) ?_
  refine lv_i2l hx hb d_Mod_readWords_56 rfl ?_
  refine lv_lload_n hx hb d_Mod_readWords_57 rfl (lv_at hl 2 rfl) ?_
  refine W.lcmp hx hb d_Mod_readWords_58 ?_
  refine lv_if_ge (tgt := 86) hx hb d_Mod_readWords_59 (by decide) (fun c1424 => ?_) (fun c1424 => ?_)
  · have hw := hw.1 c1424
    exact t_Mod_readWords_86 hx hb hml hown hT hK hN hA hRc hRs hRf hRl hret  l1 l2 l4 x H locs ls  hw hW hS (lv_sub hl [0, 1, 2, 3] rfl)
  · have hw := hw.2 c1424
    refine lv_aload_n hx hb d_Mod_readWords_62 rfl (lv_at hl 0 rfl) ?_
    refine w_geti (k := 69) (t := 12) (C := R_Mod) (T := F_Mod) (N := 167) hx hb hT hown hK hW ko_0.1 ko_0.2 (by decide) in_Mod rfl rfl (by decide) rfl fr_Mod_69 w_9_5 d_Mod_readWords_63 ?_
    refine lv_if_ne (tgt := 86) hx hb d_Mod_readWords_66 (by decide) (fun c1425 => ?_) (fun c1425 => ?_)
    · have hw := hw.1 c1425
      exact t_Mod_readWords_86 hx hb hml hown hT hK hN hA hRc hRs hRf hRl hret  l1 l2 l4 x H locs ls  hw hW hS (lv_sub hl [0, 1, 2, 3] rfl)
    · have hw := hw.2 c1425
      refine lv_aload_n hx hb d_Mod_readWords_69 rfl (lv_at hl 0 rfl) ?_
      refine w_getf (q := 32) (k := 51) (t := 12) (C := R_Mod) (T := F_Mod) (N := 167) hx hb hT hown hK hW ko_0.1 ko_0.2 (by decide) in_Mod rfl rfl (by decide) rfl fr_Mod_51 w_8_227 d_Mod_readWords_70 rfl ?_
      refine lv_iload hx hb d_Mod_readWords_73 (lv_at hl 3 rfl) ?_
      refine lv_aload_n hx hb d_Mod_readWords_75 rfl (lv_at hl 0 rfl) ?_
      have hF := hW.free hS hA
      refine va_calll (va_runV (C := R_Mod) (As := []) (rest := [.int l4, .ref (ad 32)]) ⟨hx, hb, hml, hown, hT⟩ (k_Mod_whole l dC dI cI cB cJ cZ ad H.size  x  hw) ⟨callB_of 0 hT (gwt_in w_13_6) rfl rfl rfl (hT _ w_1_15) (hT _ w_13_3) (by decide +kernel) ⟨Nat.le_trans (Nat.le_of_ble_eq_true rfl) hRf, Nat.le_trans (Nat.le_of_ble_eq_true rfl) hRl⟩, hT _ w_13_5, hT _ ws_214⟩ ⟨PW.blind, va_recv hK hW.1 (ci := 12) (q0 := 0) rfl (pic_obj ko_0.1 ko_0.2 (by decide)), PW.at _ hW hK hN⟩ rfl rfl hl.1 rfl (lv_room (Nat.le_of_ble_eq_true rfl)) d_Mod_readWords_76 ⟨hRc, hRs⟩) hS (fun q _ h => hF q h) hF (fun r1427 x1426 t H locs ht hvm hw hB hz1 hk1 hS => ?_)
      have hW := Wd.back hB ht hF
      clear hB ht hF hz1 hk1 hvm
      obtain ⟨hi, hw⟩ := hw
      refine w_last (o := 32) hx hb hK hW hS ko_32.1 ko_32.2 hi d_Mod_readWords_79 (fun H locs hW hS => ?_)
      obtain ⟨x1428, ex1428⟩ : ∃ y : St, y = setL x1426 32 l4 r1427 := ⟨_, rfl⟩
      rw [← ex1428] at hW
      have hw := hw x1428 ex1428
      refine lv_iinc (v := (l4 + 1)) (lv' := [(4, .int (l4 + 1)), (0, .ref (ad 0)), (1, .int l1), (2, .long l2)]) hx hb d_Mod_readWords_80 hl (k := 3) rfl rfl (by decide) rfl (fun ls hl => ?_)
      refine lv_goto (tgt := 54) hx hb d_Mod_readWords_83 (by decide) ?_
      exact hrec54 l1 l2 (l4 + 1) x1428 H locs ls  hw hW hS (lv_sub hl [1, 2, 3, 0] rfl)
set_option maxHeartbeats 4000000 in
set_option maxRecDepth 100000 in
theorem tl_Mod_readWords_54 {p : Program} {l : Launch} {e : Env} {R : Room} {s : State} {m : MethodId} {args : Array Value} {below : List Frame} {meth : Method} {c : Code} {cells slots : Nat} {Q : State → Prop} {dC : Nat → ClassId} {dI : Nat → Nat → Nat} {cI cB cJ cZ : ClassId} {A : Nat → Prop} {ad : Nat → Nat} {post : St → Prop} (hx : p.tables.exec = Jvm.exec) (hb : c.code = b_Mod_readWords) (hml : c.maxLocals = 6) (hown : s.vm.findClass R_Mod = some m.cls) (hT : ∀ w ∈ TG, w.before args s = true) (hK : va_K (dC, dI) CL (TY cI cB cJ cZ) s) (hN : NW s) (hA : ∀ q : Nat, s.heap.size ≤ q → A q) (hRc : cells ≤ R.cells) (hRs : slots ≤ R.slots) (hRf : 3 ≤ R.frames) (hRl : 84 ≤ R.locals) (hret : ∀ (x : St) (H : Heap) (locs : List Loc) (pc : Nat) (ls : Array Slot), decode b_Mod_readWords pc = .ok (.return_, 1) → post x → Wd dC dI cI cB cJ cZ ad stM kcM 115 A x H → va_S A s.heap H locs → W p l e R s m args below meth c H locs cells slots Q (F0 m pc ls []))  : ∀ n : Nat, ∀ (l1 : Int32) (l2 : Int64) (l4 : Int32) (x : St) (H : Heap) (locs : List Loc) (ls : Array Slot), wl_Mod_readWords_54 post n l1 l2 l4 x → Wd dC dI cI cB cJ cZ ad stM kcM 115 A x H → va_S A s.heap H locs → lv_has ls 6 [(0, .ref (ad 0)), (1, .int l1), (2, .long l2), (4, .int l4)] → W p l e R s m args below meth c H locs cells slots Q (F0 m 54 ls []) := by
  intro n
  induction n with
  | zero => intro l1 l2 l4 x H locs ls  hw; exact hw.elim
  | succ n ih => intro l1 l2 l4 x H locs ls  hw hW hS hl; exact t_Mod_readWords_54 hx hb hml hown hT hK hN hA hRc hRs hRf hRl hret  ih l1 l2 l4 x H locs ls  hw hW hS hl
set_option maxRecDepth 100000 in
set_option maxHeartbeats 4000000 in
set_option maxRecDepth 100000 in
theorem t_Mod_readWords_48 {p : Program} {l : Launch} {e : Env} {R : Room} {s : State} {m : MethodId} {args : Array Value} {below : List Frame} {meth : Method} {c : Code} {cells slots : Nat} {Q : State → Prop} {dC : Nat → ClassId} {dI : Nat → Nat → Nat} {cI cB cJ cZ : ClassId} {A : Nat → Prop} {ad : Nat → Nat} {post : St → Prop} (hx : p.tables.exec = Jvm.exec) (hb : c.code = b_Mod_readWords) (hml : c.maxLocals = 6) (hown : s.vm.findClass R_Mod = some m.cls) (hT : ∀ w ∈ TG, w.before args s = true) (hK : va_K (dC, dI) CL (TY cI cB cJ cZ) s) (hN : NW s) (hA : ∀ q : Nat, s.heap.size ≤ q → A q) (hRc : cells ≤ R.cells) (hRs : slots ≤ R.slots) (hRf : 3 ≤ R.frames) (hRl : 84 ≤ R.locals) (hret : ∀ (x : St) (H : Heap) (locs : List Loc) (pc : Nat) (ls : Array Slot), decode b_Mod_readWords pc = .ok (.return_, 1) → post x → Wd dC dI cI cB cJ cZ ad stM kcM 115 A x H → va_S A s.heap H locs → W p l e R s m args below meth c H locs cells slots Q (F0 m pc ls []))  : ∀ (l1 : Int32) (l2 : Int64) (s0 : Int32) (x : St) (H : Heap) (locs : List Loc) (ls : Array Slot), j_Mod_readWords_48 post l1 l2 s0 x → Wd dC dI cI cB cJ cZ ad stM kcM 115 A x H → va_S A s.heap H locs → lv_has ls 6 [(0, .ref (ad 0)), (1, .int l1), (2, .long l2)] → W p l e R s m args below meth c H locs cells slots Q (F0 m 48 ls [.int s0, .ref (ad 0)]) := by
  intro l1 l2 s0 x H locs ls  hw hW hS hl
  unfold j_Mod_readWords_48 at hw
  refine w_puti (ty := .int) (k := 59) (t := 12) (C := R_Mod) (T := F_Mod) (N := 167) hx hb hT hown hK hW hS ko_0.1 ko_0.2 (by decide) in_Mod t_Mod t_Mod_ok n_Mod rfl rfl (by decide) rfl fr_Mod_59 w_8_235 (by decide +kernel) rfl rfl d_Mod_readWords_48 (fun H locs hW hS => ?_)
  obtain ⟨x1429, ex1429⟩ : ∃ y : St, y = setI x 0 59 s0 := ⟨_, rfl⟩
  rw [← ex1429] at hW
  have hw := hw x1429 ex1429
  refine lv_iconst (v := 0) hx hb d_Mod_readWords_51 (by decide) ?_
  refine lv_istore (lv' := [(4, .int 0), (0, .ref (ad 0)), (1, .int l1), (2, .long l2)]) hx hb d_Mod_readWords_52 hl (by decide) rfl (fun ls hl => ?_)
  obtain ⟨n, hw⟩ := hw
  exact tl_Mod_readWords_54 hx hb hml hown hT hK hN hA hRc hRs hRf hRl hret  n l1 l2 0 x1429 H locs ls  hw hW hS (lv_sub hl [1, 2, 3, 0] rfl)
set_option maxRecDepth 100000 in
set_option maxHeartbeats 4000000 in
set_option maxRecDepth 100000 in
theorem t_Mod_readWords_34 {p : Program} {l : Launch} {e : Env} {R : Room} {s : State} {m : MethodId} {args : Array Value} {below : List Frame} {meth : Method} {c : Code} {cells slots : Nat} {Q : State → Prop} {dC : Nat → ClassId} {dI : Nat → Nat → Nat} {cI cB cJ cZ : ClassId} {A : Nat → Prop} {ad : Nat → Nat} {post : St → Prop} (hx : p.tables.exec = Jvm.exec) (hb : c.code = b_Mod_readWords) (hml : c.maxLocals = 6) (hown : s.vm.findClass R_Mod = some m.cls) (hT : ∀ w ∈ TG, w.before args s = true) (hK : va_K (dC, dI) CL (TY cI cB cJ cZ) s) (hN : NW s) (hA : ∀ q : Nat, s.heap.size ≤ q → A q) (hRc : cells ≤ R.cells) (hRs : slots ≤ R.slots) (hRf : 3 ≤ R.frames) (hRl : 84 ≤ R.locals) (hret : ∀ (x : St) (H : Heap) (locs : List Loc) (pc : Nat) (ls : Array Slot), decode b_Mod_readWords pc = .ok (.return_, 1) → post x → Wd dC dI cI cB cJ cZ ad stM kcM 115 A x H → va_S A s.heap H locs → W p l e R s m args below meth c H locs cells slots Q (F0 m pc ls []))  : ∀ (l1 : Int32) (l2 : Int64) (x : St) (H : Heap) (locs : List Loc) (ls : Array Slot), j_Mod_readWords_34 post l1 l2 x → Wd dC dI cI cB cJ cZ ad stM kcM 115 A x H → va_S A s.heap H locs → lv_has ls 6 [(0, .ref (ad 0)), (1, .int l1), (2, .long l2)] → W p l e R s m args below meth c H locs cells slots Q (F0 m 34 ls []) := by
  intro l1 l2 x H locs ls  hw hW hS hl
  unfold j_Mod_readWords_34 at hw
  refine lv_aload_n hx hb d_Mod_readWords_34 rfl (lv_at hl 0 rfl) ?_
  refine lv_aload_n hx hb d_Mod_readWords_35 rfl (lv_at hl 0 rfl) ?_
  refine w_geti (k := 69) (t := 12) (C := R_Mod) (T := F_Mod) (N := 167) hx hb hT hown hK hW ko_0.1 ko_0.2 (by decide) in_Mod rfl rfl (by decide) rfl fr_Mod_69 w_9_5 d_Mod_readWords_36 ?_
  refine lv_if_ne (tgt := 47) hx hb d_Mod_readWords_39 (by decide) (fun c1430 => ?_) (fun c1430 => ?_)
  · have hw := hw.1 c1430
    refine lv_iconst (v := 0) hx hb d_Mod_readWords_47 (by decide) ?_
    exact t_Mod_readWords_48 hx hb hml hown hT hK hN hA hRc hRs hRf hRl hret  l1 l2 0 x H locs ls  hw hW hS (lv_sub hl [0, 1, 2] rfl)
  · have hw := hw.2 c1430
    refine lv_lload_n hx hb d_Mod_readWords_42 rfl (lv_at hl 2 rfl) ?_
    refine lv_l2i hx hb d_Mod_readWords_43 rfl ?_
    refine lv_goto (tgt := 48) hx hb d_Mod_readWords_44 (by decide) ?_
    exact t_Mod_readWords_48 hx hb hml hown hT hK hN hA hRc hRs hRf hRl hret  l1 l2 (l2 : Int64).toInt32 x H locs ls  hw hW hS (lv_sub hl [0, 1, 2] rfl)
set_option maxRecDepth 100000 in
set_option maxHeartbeats 4000000 in
set_option maxRecDepth 100000 in
theorem t_Mod_readWords_29 {p : Program} {l : Launch} {e : Env} {R : Room} {s : State} {m : MethodId} {args : Array Value} {below : List Frame} {meth : Method} {c : Code} {cells slots : Nat} {Q : State → Prop} {dC : Nat → ClassId} {dI : Nat → Nat → Nat} {cI cB cJ cZ : ClassId} {A : Nat → Prop} {ad : Nat → Nat} {post : St → Prop} (hx : p.tables.exec = Jvm.exec) (hb : c.code = b_Mod_readWords) (hml : c.maxLocals = 6) (hown : s.vm.findClass R_Mod = some m.cls) (hT : ∀ w ∈ TG, w.before args s = true) (hK : va_K (dC, dI) CL (TY cI cB cJ cZ) s) (hN : NW s) (hA : ∀ q : Nat, s.heap.size ≤ q → A q) (hRc : cells ≤ R.cells) (hRs : slots ≤ R.slots) (hRf : 3 ≤ R.frames) (hRl : 84 ≤ R.locals) (hret : ∀ (x : St) (H : Heap) (locs : List Loc) (pc : Nat) (ls : Array Slot), decode b_Mod_readWords pc = .ok (.return_, 1) → post x → Wd dC dI cI cB cJ cZ ad stM kcM 115 A x H → va_S A s.heap H locs → W p l e R s m args below meth c H locs cells slots Q (F0 m pc ls []))  : ∀ (l1 : Int32) (l2 : Int64) (x : St) (H : Heap) (locs : List Loc) (ls : Array Slot), j_Mod_readWords_29 post l1 l2 x → Wd dC dI cI cB cJ cZ ad stM kcM 115 A x H → va_S A s.heap H locs → lv_has ls 6 [(0, .ref (ad 0)), (1, .int l1), (2, .long l2)] → W p l e R s m args below meth c H locs cells slots Q (F0 m 29 ls []) := by
  intro l1 l2 x H locs ls  hw hW hS hl
  unfold j_Mod_readWords_29 at hw
  refine lv_aload_n hx hb d_Mod_readWords_29 rfl (lv_at hl 0 rfl) ?_
  refine lv_iconst (v := 4) hx hb d_Mod_readWords_30 (by decide) ?_
  refine w_puti (ty := .int) (k := 69) (t := 12) (C := R_Mod) (T := F_Mod) (N := 167) hx hb hT hown hK hW hS ko_0.1 ko_0.2 (by decide) in_Mod t_Mod t_Mod_ok n_Mod rfl rfl (by decide) rfl fr_Mod_69 w_9_5 (by decide +kernel) rfl rfl d_Mod_readWords_31 (fun H locs hW hS => ?_)
  obtain ⟨x1431, ex1431⟩ : ∃ y : St, y = setI x 0 69 4 := ⟨_, rfl⟩
  rw [← ex1431] at hW
  have hw := hw x1431 ex1431
  exact t_Mod_readWords_34 hx hb hml hown hT hK hN hA hRc hRs hRf hRl hret  l1 l2 x1431 H locs ls  hw hW hS (lv_sub hl [0, 1, 2] rfl)
set_option maxRecDepth 100000 in
set_option maxHeartbeats 4000000 in
set_option maxRecDepth 100000 in
theorem t_Mod_readWords_e {p : Program} {l : Launch} {e : Env} {R : Room} {s : State} {m : MethodId} {args : Array Value} {below : List Frame} {meth : Method} {c : Code} {cells slots : Nat} {Q : State → Prop} {dC : Nat → ClassId} {dI : Nat → Nat → Nat} {cI cB cJ cZ : ClassId} {A : Nat → Prop} {ad : Nat → Nat} {post : St → Prop} (hx : p.tables.exec = Jvm.exec) (hb : c.code = b_Mod_readWords) (hml : c.maxLocals = 6) (hown : s.vm.findClass R_Mod = some m.cls) (hT : ∀ w ∈ TG, w.before args s = true) (hK : va_K (dC, dI) CL (TY cI cB cJ cZ) s) (hN : NW s) (hA : ∀ q : Nat, s.heap.size ≤ q → A q) (hRc : cells ≤ R.cells) (hRs : slots ≤ R.slots) (hRf : 3 ≤ R.frames) (hRl : 84 ≤ R.locals) (hret : ∀ (x : St) (H : Heap) (locs : List Loc) (pc : Nat) (ls : Array Slot), decode b_Mod_readWords pc = .ok (.return_, 1) → post x → Wd dC dI cI cB cJ cZ ad stM kcM 115 A x H → va_S A s.heap H locs → W p l e R s m args below meth c H locs cells slots Q (F0 m pc ls [])) : ∀ (l1 : Int32) (x : St) (H : Heap) (locs : List Loc) (ls : Array Slot), wp_Mod_readWords post l1 x → Wd dC dI cI cB cJ cZ ad stM kcM 115 A x H → va_S A s.heap H locs → lv_has ls 6 [(0, .ref (ad 0)), (1, .int l1)] → W p l e R s m args below meth c H locs cells slots Q (F0 m 0 ls []) := by
  intro l1 x H locs ls  hw hW hS hl
  unfold wp_Mod_readWords at hw
  refine lv_aload_n hx hb d_Mod_readWords_0 rfl (lv_at hl 0 rfl) ?_
  refine lv_aload_n hx hb d_Mod_readWords_1 rfl (lv_at hl 0 rfl) ?_
  refine w_geti (k := 68) (t := 12) (C := R_Mod) (T := F_Mod) (N := 167) hx hb hT hown hK hW ko_0.1 ko_0.2 (by decide) in_Mod rfl rfl (by decide) rfl fr_Mod_68 w_9_4 d_Mod_readWords_2 ?_
  have hF := hW.free hS hA
  refine va_calll (va_runV (C := R_Mod) (As := [.int (fI x 0 68)]) (rest := []) ⟨hx, hb, hml, hown, hT⟩ (k_Mod_varint l dC dI cI cB cJ cZ ad H.size (fI x 0 68) x  hw) ⟨callB_of 1 hT (gwt_in w_12_124) rfl rfl rfl (hT _ w_1_15) (hT _ w_12_121) (by decide +kernel) ⟨Nat.le_trans (Nat.le_of_ble_eq_true rfl) hRf, Nat.le_trans (Nat.le_of_ble_eq_true rfl) hRl⟩, hT _ w_12_123, hT _ ws_187⟩ ⟨PW.blind, va_recv hK hW.1 (ci := 12) (q0 := 0) rfl (pic_obj ko_0.1 ko_0.2 (by decide)), PW.at _ hW hK hN⟩ rfl rfl hl.1 rfl (lv_room (Nat.le_of_ble_eq_true rfl)) d_Mod_readWords_5 ⟨hRc, hRs⟩) hS (fun q _ h => hF q h) hF (fun r1433 x1432 t H locs ht hvm hw hB hz1 hk1 hS => ?_)
  have hW := Wd.back hB ht hF
  clear hB ht hF hz1 hk1 hvm
  refine lv_lstore_n (lv' := [(2, .long r1433), (0, .ref (ad 0)), (1, .int l1)]) hx hb d_Mod_readWords_8 rfl hl (by decide) rfl (fun ls hl => ?_)
  refine lv_aload_n hx hb d_Mod_readWords_9 rfl (lv_at hl 1 rfl) ?_
  refine w_geti (k := 69) (t := 12) (C := R_Mod) (T := F_Mod) (N := 167) hx hb hT hown hK hW ko_0.1 ko_0.2 (by decide) in_Mod rfl rfl (by decide) rfl fr_Mod_69 w_9_5 d_Mod_readWords_10 ?_
  refine lv_if_ne (tgt := 34) hx hb d_Mod_readWords_13 (by decide) (fun c1434 => ?_) (fun c1434 => ?_)
  · have hw := hw.1 c1434
    exact t_Mod_readWords_34 hx hb hml hown hT hK hN hA hRc hRs hRf hRl hret  l1 r1433 x1432 H locs ls  hw hW hS (lv_sub hl [1, 2, 0] rfl)
  · have hw := hw.2 c1434
    refine lv_lload_n hx hb d_Mod_readWords_16 rfl (lv_at hl 0 rfl) ?_
    refine lv_lconst (v := 0) hx hb d_Mod_readWords_17 (by decide) ?_
    refine W.lcmp hx hb d_Mod_readWords_18 ?_
    refine lv_if_lt (tgt := 29) hx hb d_Mod_readWords_19 (by decide) (fun c1435 => ?_) (fun c1435 => ?_)
    · have hw := hw.1 c1435
      exact t_Mod_readWords_29 hx hb hml hown hT hK hN hA hRc hRs hRf hRl hret  l1 r1433 x1432 H locs ls  hw hW hS (lv_sub hl [1, 2, 0] rfl)
    · have hw := hw.2 c1435
      refine lv_lload_n hx hb d_Mod_readWords_22 rfl (lv_at hl 0 rfl) ?_
      refine lv_iload_n hx hb d_Mod_readWords_23 rfl (lv_at hl 2 rfl) ?_
      refine lv_i2l hx hb d_Mod_readWords_24 rfl ?_
      refine W.lcmp hx hb d_Mod_readWords_25 ?_
      refine lv_if_le (tgt := 34) hx hb d_Mod_readWords_26 (by decide) (fun c1436 => ?_) (fun c1436 => ?_)
      · have hw := hw.1 c1436
        exact t_Mod_readWords_34 hx hb hml hown hT hK hN hA hRc hRs hRf hRl hret  l1 r1433 x1432 H locs ls  hw hW hS (lv_sub hl [1, 2, 0] rfl)
      · have hw := hw.2 c1436
        exact t_Mod_readWords_29 hx hb hml hown hT hK hN hA hRc hRs hRf hRl hret  l1 r1433 x1432 H locs ls  hw hW hS (lv_sub hl [1, 2, 0] rfl)
set_option maxHeartbeats 4000000 in
set_option maxRecDepth 100000 in
theorem k_Mod_readWords (l : Launch) (dC : Nat → ClassId) (dI : Nat → Nat → Nat) (cI cB cJ cZ : ClassId) (ad : Nat → Nat) (sz : Nat) (l1 : Int32) (x : St) {post : St → Prop} (hw : wp_Mod_readWords post l1 x) : Met l y_Mod_readWords (wsOf y_Mod_readWords b_Mod_readWords 6 (none)) ({ frames := 3, cells := 0, slots := 0, locals := 84 }) (va_Pc [.ref (ad 0), .int l1] (PW dC dI cI cB cJ cZ ad stM kcM 115 sz x)) (va_Qv (fun (y : St) => post y) (fun y t => Wd dC dI cI cB cJ cZ ad stM kcM 115 (va_A (pic ad stM kcM 115 cI cB cJ cZ x) sz) y t.heap) (va_A (pic ad stM kcM 115 cI cB cJ cZ x) sz)) 0 0 (va_A (pic ad stM kcM 115 cI cB cJ cZ x) sz) := by
  refine Met.ofW (cc := b_Mod_readWords) (maxL := 6) (ret := none) (by decide) rfl ?_
  intro p e s m args below meth c s₁ B hml hv
  obtain ⟨rfl, hsz, hW0, hK, hN⟩ := hv
  have hx := B.exec
  have hb := B.bytes
  have hr := B.returns
  have hts := atoms_spec B.pre
  have hT : ∀ w ∈ TG, w.before _ s = true := fun w h => hts w (List.mem_cons_of_mem _ h)
  have hown : s.vm.findClass R_Mod = some m.cls := findClass_of_methodNamed B.named
  have hlocks := B.notSynchronized
  subst hsz
  have hW : Wd dC dI cI cB cJ cZ ad stM kcM 115 (va_A (pic ad stM kcM 115 cI cB cJ cZ x) s.heap.size) x s.heap := ⟨hW0.1, hW0.2.1.self (sz := s.heap.size), hW0.2.2⟩
  generalize hAe : va_A (pic ad stM kcM 115 cI cB cJ cZ x) s.heap.size = A at hW ⊢
  have hA : ∀ q : Nat, s.heap.size ≤ q → A q := fun q h => by rw [← hAe]; exact Or.inr h
  have hS : va_S A s.heap s.heap [] := va_S.rf
  have hl := lv_entry ([.ref (ad 0), .int l1]) (n := 6) (Nat.le_of_ble_eq_true rfl)
  rw [lg_entry_eq]
  generalize (lg_sl ([.ref (ad 0), .int l1]) ++ List.replicate (6 - (lg_sl ([.ref (ad 0), .int l1])).length) Slot.unset).toArray = ls at hl ⊢
  have hl : lv_has ls 6 [(0, .ref (ad 0)), (1, .int l1)] := hl
  exact t_Mod_readWords_e hx hb hml hown hT hK hN hA (Nat.le_refl 0) (Nat.le_refl 0) (Nat.le_refl 3) (Nat.le_refl 84) (fun x H locs pc ls hd hp hW hS => W.vret hx hb hr (fun t ht hM => ⟨⟨x, rfl, hp, Wd.back hW ht.symm (fun _ z => z)⟩, hS.F ht⟩) hS.2.2 hd hlocks)  l1 x _ _ ls  hw hW hS hl
end
