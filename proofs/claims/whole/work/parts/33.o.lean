/-! More methods as functions, printed by a program. -/
set_option maxRecDepth 20000 in
theorem E0 : pgMm 0 = some (⟨"DictionaryHouseLaw", "law", "([I)Z"⟩, code, 7, (some .boolean), []) := rfl
theorem D0_23 : pgDecT 0 23 = some (.iload 4, 2) := by decide +kernel
theorem D0_25 : pgDecT 0 25 = some (.aload_n 0, 1) := by decide +kernel
theorem D0_26 : pgDecT 0 26 = some (.arraylength, 1) := by decide +kernel
theorem D0_27 : pgDecT 0 27 = some (.bipush 7, 2) := by decide +kernel
theorem D0_29 : pgDecT 0 29 = some (.isub, 1) := by decide +kernel
theorem D0_30 : pgDecT 0 30 = some (.if_icmp .gt 1205, 3) := by decide +kernel
theorem D0_1235 : pgDecT 0 1235 = some (.iconst 1, 1) := by decide +kernel
theorem D0_1236 : pgDecT 0 1236 = some (.ireturn, 1) := by decide +kernel
theorem D0_33 : pgDecT 0 33 = some (.aload_n 0, 1) := by decide +kernel
theorem D0_34 : pgDecT 0 34 = some (.iload 4, 2) := by decide +kernel
theorem D0_36 : pgDecT 0 36 = some (.iaload, 1) := by decide +kernel
theorem D0_37 : pgDecT 0 37 = some (.bipush 31, 2) := by decide +kernel
theorem D0_39 : pgDecT 0 39 = some (.iand, 1) := by decide +kernel
theorem D0_40 : pgDecT 0 40 = some (.tableswitch 1189 0 16 #[84, 140, 208, 264, 332, 388, 444, 500, 556, 624, 692, 748, 866, 922, 990, 1065, 1133], 84) := by decide +kernel
theorem D0_124 : pgDecT 0 124 = some (.aload_n 1, 1) := by decide +kernel
theorem D0_125 : pgDecT 0 125 = some (.aload_n 0, 1) := by decide +kernel
theorem D0_126 : pgDecT 0 126 = some (.iload 4, 2) := by decide +kernel
theorem D0_128 : pgDecT 0 128 = some (.iconst 1, 1) := by decide +kernel
theorem D0_129 : pgDecT 0 129 = some (.iadd, 1) := by decide +kernel
theorem D0_130 : pgDecT 0 130 = some (.iaload, 1) := by decide +kernel
theorem D0_131 : pgDecT 0 131 = some (.aload_n 3, 1) := by decide +kernel
theorem D0_132 : pgDecT 0 132 = some (.invokestatic 72, 3) := by decide +kernel
theorem I0_72 : pgIi 0 72 = some (15, 3, 100) := by decide +kernel
theorem D0_135 : pgDecT 0 135 = some (.istore 5, 2) := by decide +kernel
theorem D0_137 : pgDecT 0 137 = some (.aload_n 2, 1) := by decide +kernel
theorem D0_138 : pgDecT 0 138 = some (.aload_n 0, 1) := by decide +kernel
theorem D0_139 : pgDecT 0 139 = some (.iload 4, 2) := by decide +kernel
theorem D0_141 : pgDecT 0 141 = some (.iconst 1, 1) := by decide +kernel
theorem D0_142 : pgDecT 0 142 = some (.iadd, 1) := by decide +kernel
theorem D0_143 : pgDecT 0 143 = some (.iaload, 1) := by decide +kernel
theorem D0_144 : pgDecT 0 144 = some (.invokevirtual 77, 3) := by decide +kernel
theorem I0_77 : pgIi 0 77 = some (189, 1, 12) := by decide +kernel
theorem D0_147 : pgDecT 0 147 = some (.istore 6, 2) := by decide +kernel
theorem D0_149 : pgDecT 0 149 = some (.aload_n 2, 1) := by decide +kernel
theorem D0_150 : pgDecT 0 150 = some (.invokevirtual 78, 3) := by decide +kernel
theorem I0_78 : pgIi 0 78 = some (188, 0, 12) := by decide +kernel
theorem D0_153 : pgDecT 0 153 = some (.iload 5, 2) := by decide +kernel
theorem D0_155 : pgDecT 0 155 = some (.if_icmp .eq 5, 3) := by decide +kernel
theorem D0_160 : pgDecT 0 160 = some (.iload 5, 2) := by decide +kernel
theorem D0_162 : pgDecT 0 162 = some (.ifCond .ne 15, 3) := by decide +kernel
theorem D0_177 : pgDecT 0 177 = some (.goto 1052, 3) := by decide +kernel
theorem D0_1229 : pgDecT 0 1229 = some (.iinc 4 7, 3) := by decide +kernel
theorem D0_1232 : pgDecT 0 1232 = some (.goto (-1209), 3) := by decide +kernel
theorem D0_165 : pgDecT 0 165 = some (.aload_n 3, 1) := by decide +kernel
theorem D0_166 : pgDecT 0 166 = some (.iconst 0, 1) := by decide +kernel
theorem D0_167 : pgDecT 0 167 = some (.laload, 1) := by decide +kernel
theorem D0_168 : pgDecT 0 168 = some (.iload 6, 2) := by decide +kernel
theorem D0_170 : pgDecT 0 170 = some (.i2l, 1) := by decide +kernel
theorem D0_171 : pgDecT 0 171 = some (.lcmp, 1) := by decide +kernel
theorem D0_172 : pgDecT 0 172 = some (.ifCond .eq 5, 3) := by decide +kernel
theorem D0_175 : pgDecT 0 175 = some (.iconst 0, 1) := by decide +kernel
theorem D0_176 : pgDecT 0 176 = some (.ireturn, 1) := by decide +kernel
theorem D0_158 : pgDecT 0 158 = some (.iconst 0, 1) := by decide +kernel
theorem D0_159 : pgDecT 0 159 = some (.ireturn, 1) := by decide +kernel
theorem D0_180 : pgDecT 0 180 = some (.aload_n 1, 1) := by decide +kernel
theorem D0_181 : pgDecT 0 181 = some (.aload_n 0, 1) := by decide +kernel
theorem D0_182 : pgDecT 0 182 = some (.iload 4, 2) := by decide +kernel
theorem D0_184 : pgDecT 0 184 = some (.iconst 1, 1) := by decide +kernel
theorem D0_185 : pgDecT 0 185 = some (.iadd, 1) := by decide +kernel
theorem D0_186 : pgDecT 0 186 = some (.iaload, 1) := by decide +kernel
theorem D0_187 : pgDecT 0 187 = some (.aload_n 0, 1) := by decide +kernel
theorem D0_188 : pgDecT 0 188 = some (.iload 4, 2) := by decide +kernel
theorem D0_190 : pgDecT 0 190 = some (.iconst 2, 1) := by decide +kernel
theorem D0_191 : pgDecT 0 191 = some (.iadd, 1) := by decide +kernel
theorem D0_192 : pgDecT 0 192 = some (.iaload, 1) := by decide +kernel
theorem D0_193 : pgDecT 0 193 = some (.aload_n 3, 1) := by decide +kernel
theorem D0_194 : pgDecT 0 194 = some (.invokestatic 82, 3) := by decide +kernel
theorem I0_82 : pgIi 0 82 = some (22, 4, 100) := by decide +kernel
theorem D0_197 : pgDecT 0 197 = some (.istore 5, 2) := by decide +kernel
theorem D0_199 : pgDecT 0 199 = some (.aload_n 2, 1) := by decide +kernel
theorem D0_200 : pgDecT 0 200 = some (.aload_n 0, 1) := by decide +kernel
theorem D0_201 : pgDecT 0 201 = some (.iload 4, 2) := by decide +kernel
theorem D0_203 : pgDecT 0 203 = some (.iconst 1, 1) := by decide +kernel
theorem D0_204 : pgDecT 0 204 = some (.iadd, 1) := by decide +kernel
theorem D0_205 : pgDecT 0 205 = some (.iaload, 1) := by decide +kernel
theorem D0_206 : pgDecT 0 206 = some (.aload_n 0, 1) := by decide +kernel
theorem D0_207 : pgDecT 0 207 = some (.iload 4, 2) := by decide +kernel
theorem D0_209 : pgDecT 0 209 = some (.iconst 2, 1) := by decide +kernel
theorem D0_210 : pgDecT 0 210 = some (.iadd, 1) := by decide +kernel
theorem D0_211 : pgDecT 0 211 = some (.iaload, 1) := by decide +kernel
theorem D0_212 : pgDecT 0 212 = some (.invokevirtual 85, 3) := by decide +kernel
theorem I0_85 : pgIi 0 85 = some (193, 2, 12) := by decide +kernel
theorem D0_215 : pgDecT 0 215 = some (.istore 6, 2) := by decide +kernel
theorem D0_217 : pgDecT 0 217 = some (.aload_n 2, 1) := by decide +kernel
theorem D0_218 : pgDecT 0 218 = some (.invokevirtual 78, 3) := by decide +kernel
theorem D0_221 : pgDecT 0 221 = some (.iload 5, 2) := by decide +kernel
theorem D0_223 : pgDecT 0 223 = some (.if_icmp .eq 5, 3) := by decide +kernel
theorem D0_228 : pgDecT 0 228 = some (.iload 5, 2) := by decide +kernel
theorem D0_230 : pgDecT 0 230 = some (.ifCond .ne 15, 3) := by decide +kernel
theorem D0_245 : pgDecT 0 245 = some (.goto 984, 3) := by decide +kernel
theorem D0_233 : pgDecT 0 233 = some (.aload_n 3, 1) := by decide +kernel
theorem D0_234 : pgDecT 0 234 = some (.iconst 0, 1) := by decide +kernel
theorem D0_235 : pgDecT 0 235 = some (.laload, 1) := by decide +kernel
theorem D0_236 : pgDecT 0 236 = some (.iload 6, 2) := by decide +kernel
theorem D0_238 : pgDecT 0 238 = some (.i2l, 1) := by decide +kernel
theorem D0_239 : pgDecT 0 239 = some (.lcmp, 1) := by decide +kernel
theorem D0_240 : pgDecT 0 240 = some (.ifCond .eq 5, 3) := by decide +kernel
theorem D0_243 : pgDecT 0 243 = some (.iconst 0, 1) := by decide +kernel
theorem D0_244 : pgDecT 0 244 = some (.ireturn, 1) := by decide +kernel
theorem D0_226 : pgDecT 0 226 = some (.iconst 0, 1) := by decide +kernel
theorem D0_227 : pgDecT 0 227 = some (.ireturn, 1) := by decide +kernel
theorem D0_248 : pgDecT 0 248 = some (.aload_n 1, 1) := by decide +kernel
theorem D0_249 : pgDecT 0 249 = some (.aload_n 0, 1) := by decide +kernel
theorem D0_250 : pgDecT 0 250 = some (.iload 4, 2) := by decide +kernel
theorem D0_252 : pgDecT 0 252 = some (.iconst 1, 1) := by decide +kernel
theorem D0_253 : pgDecT 0 253 = some (.iadd, 1) := by decide +kernel
theorem D0_254 : pgDecT 0 254 = some (.iaload, 1) := by decide +kernel
theorem D0_255 : pgDecT 0 255 = some (.aload_n 3, 1) := by decide +kernel
theorem D0_256 : pgDecT 0 256 = some (.invokestatic 86, 3) := by decide +kernel
theorem I0_86 : pgIi 0 86 = some (24, 3, 100) := by decide +kernel
theorem D0_259 : pgDecT 0 259 = some (.istore 5, 2) := by decide +kernel
theorem D0_261 : pgDecT 0 261 = some (.aload_n 2, 1) := by decide +kernel
theorem D0_262 : pgDecT 0 262 = some (.aload_n 0, 1) := by decide +kernel
theorem D0_263 : pgDecT 0 263 = some (.iload 4, 2) := by decide +kernel
theorem D0_265 : pgDecT 0 265 = some (.iconst 1, 1) := by decide +kernel
theorem D0_266 : pgDecT 0 266 = some (.iadd, 1) := by decide +kernel
theorem D0_267 : pgDecT 0 267 = some (.iaload, 1) := by decide +kernel
theorem D0_268 : pgDecT 0 268 = some (.invokevirtual 88, 3) := by decide +kernel
theorem I0_88 : pgIi 0 88 = some (194, 1, 12) := by decide +kernel
theorem D0_271 : pgDecT 0 271 = some (.istore 6, 2) := by decide +kernel
theorem D0_273 : pgDecT 0 273 = some (.aload_n 2, 1) := by decide +kernel
theorem D0_274 : pgDecT 0 274 = some (.invokevirtual 78, 3) := by decide +kernel
theorem D0_277 : pgDecT 0 277 = some (.iload 5, 2) := by decide +kernel
theorem D0_279 : pgDecT 0 279 = some (.if_icmp .eq 5, 3) := by decide +kernel
theorem D0_284 : pgDecT 0 284 = some (.iload 5, 2) := by decide +kernel
theorem D0_286 : pgDecT 0 286 = some (.ifCond .ne 15, 3) := by decide +kernel
theorem D0_301 : pgDecT 0 301 = some (.goto 928, 3) := by decide +kernel
theorem D0_289 : pgDecT 0 289 = some (.aload_n 3, 1) := by decide +kernel
theorem D0_290 : pgDecT 0 290 = some (.iconst 0, 1) := by decide +kernel
theorem D0_291 : pgDecT 0 291 = some (.laload, 1) := by decide +kernel
theorem D0_292 : pgDecT 0 292 = some (.iload 6, 2) := by decide +kernel
theorem D0_294 : pgDecT 0 294 = some (.i2l, 1) := by decide +kernel
theorem D0_295 : pgDecT 0 295 = some (.lcmp, 1) := by decide +kernel
theorem D0_296 : pgDecT 0 296 = some (.ifCond .eq 5, 3) := by decide +kernel
theorem D0_299 : pgDecT 0 299 = some (.iconst 0, 1) := by decide +kernel
theorem D0_300 : pgDecT 0 300 = some (.ireturn, 1) := by decide +kernel
theorem D0_282 : pgDecT 0 282 = some (.iconst 0, 1) := by decide +kernel
theorem D0_283 : pgDecT 0 283 = some (.ireturn, 1) := by decide +kernel
theorem D0_304 : pgDecT 0 304 = some (.aload_n 1, 1) := by decide +kernel
theorem D0_305 : pgDecT 0 305 = some (.aload_n 0, 1) := by decide +kernel
theorem D0_306 : pgDecT 0 306 = some (.iload 4, 2) := by decide +kernel
theorem D0_308 : pgDecT 0 308 = some (.iconst 1, 1) := by decide +kernel
theorem D0_309 : pgDecT 0 309 = some (.iadd, 1) := by decide +kernel
theorem D0_310 : pgDecT 0 310 = some (.iaload, 1) := by decide +kernel
theorem D0_311 : pgDecT 0 311 = some (.aload_n 0, 1) := by decide +kernel
theorem D0_312 : pgDecT 0 312 = some (.iload 4, 2) := by decide +kernel
theorem D0_314 : pgDecT 0 314 = some (.iconst 2, 1) := by decide +kernel
theorem D0_315 : pgDecT 0 315 = some (.iadd, 1) := by decide +kernel
theorem D0_316 : pgDecT 0 316 = some (.iaload, 1) := by decide +kernel
theorem D0_317 : pgDecT 0 317 = some (.aload_n 3, 1) := by decide +kernel
theorem D0_318 : pgDecT 0 318 = some (.invokestatic 89, 3) := by decide +kernel
theorem I0_89 : pgIi 0 89 = some (29, 4, 100) := by decide +kernel
theorem D0_321 : pgDecT 0 321 = some (.istore 5, 2) := by decide +kernel
theorem D0_323 : pgDecT 0 323 = some (.aload_n 2, 1) := by decide +kernel
theorem D0_324 : pgDecT 0 324 = some (.aload_n 0, 1) := by decide +kernel
theorem D0_325 : pgDecT 0 325 = some (.iload 4, 2) := by decide +kernel
theorem D0_327 : pgDecT 0 327 = some (.iconst 1, 1) := by decide +kernel
theorem D0_328 : pgDecT 0 328 = some (.iadd, 1) := by decide +kernel
theorem D0_329 : pgDecT 0 329 = some (.iaload, 1) := by decide +kernel
theorem D0_330 : pgDecT 0 330 = some (.aload_n 0, 1) := by decide +kernel
theorem D0_331 : pgDecT 0 331 = some (.iload 4, 2) := by decide +kernel
theorem D0_333 : pgDecT 0 333 = some (.iconst 2, 1) := by decide +kernel
theorem D0_334 : pgDecT 0 334 = some (.iadd, 1) := by decide +kernel
theorem D0_335 : pgDecT 0 335 = some (.iaload, 1) := by decide +kernel
theorem D0_336 : pgDecT 0 336 = some (.invokevirtual 91, 3) := by decide +kernel
theorem I0_91 : pgIi 0 91 = some (196, 2, 12) := by decide +kernel
theorem D0_339 : pgDecT 0 339 = some (.istore 6, 2) := by decide +kernel
theorem D0_341 : pgDecT 0 341 = some (.aload_n 2, 1) := by decide +kernel
theorem D0_342 : pgDecT 0 342 = some (.invokevirtual 78, 3) := by decide +kernel
theorem D0_345 : pgDecT 0 345 = some (.iload 5, 2) := by decide +kernel
theorem D0_347 : pgDecT 0 347 = some (.if_icmp .eq 5, 3) := by decide +kernel
theorem D0_352 : pgDecT 0 352 = some (.iload 5, 2) := by decide +kernel
theorem D0_354 : pgDecT 0 354 = some (.ifCond .ne 15, 3) := by decide +kernel
theorem D0_369 : pgDecT 0 369 = some (.goto 860, 3) := by decide +kernel
theorem D0_357 : pgDecT 0 357 = some (.aload_n 3, 1) := by decide +kernel
theorem D0_358 : pgDecT 0 358 = some (.iconst 0, 1) := by decide +kernel
theorem D0_359 : pgDecT 0 359 = some (.laload, 1) := by decide +kernel
theorem D0_360 : pgDecT 0 360 = some (.iload 6, 2) := by decide +kernel
theorem D0_362 : pgDecT 0 362 = some (.i2l, 1) := by decide +kernel
theorem D0_363 : pgDecT 0 363 = some (.lcmp, 1) := by decide +kernel
theorem D0_364 : pgDecT 0 364 = some (.ifCond .eq 5, 3) := by decide +kernel
theorem D0_367 : pgDecT 0 367 = some (.iconst 0, 1) := by decide +kernel
theorem D0_368 : pgDecT 0 368 = some (.ireturn, 1) := by decide +kernel
theorem D0_350 : pgDecT 0 350 = some (.iconst 0, 1) := by decide +kernel
theorem D0_351 : pgDecT 0 351 = some (.ireturn, 1) := by decide +kernel
theorem D0_372 : pgDecT 0 372 = some (.aload_n 1, 1) := by decide +kernel
theorem D0_373 : pgDecT 0 373 = some (.aload_n 0, 1) := by decide +kernel
theorem D0_374 : pgDecT 0 374 = some (.iload 4, 2) := by decide +kernel
theorem D0_376 : pgDecT 0 376 = some (.iconst 1, 1) := by decide +kernel
theorem D0_377 : pgDecT 0 377 = some (.iadd, 1) := by decide +kernel
theorem D0_378 : pgDecT 0 378 = some (.iaload, 1) := by decide +kernel
theorem D0_379 : pgDecT 0 379 = some (.aload_n 3, 1) := by decide +kernel
theorem D0_380 : pgDecT 0 380 = some (.invokestatic 92, 3) := by decide +kernel
theorem I0_92 : pgIi 0 92 = some (36, 3, 100) := by decide +kernel
theorem D0_383 : pgDecT 0 383 = some (.istore 5, 2) := by decide +kernel
theorem D0_385 : pgDecT 0 385 = some (.aload_n 2, 1) := by decide +kernel
theorem D0_386 : pgDecT 0 386 = some (.aload_n 0, 1) := by decide +kernel
theorem D0_387 : pgDecT 0 387 = some (.iload 4, 2) := by decide +kernel
theorem D0_389 : pgDecT 0 389 = some (.iconst 1, 1) := by decide +kernel
theorem D0_390 : pgDecT 0 390 = some (.iadd, 1) := by decide +kernel
theorem D0_391 : pgDecT 0 391 = some (.iaload, 1) := by decide +kernel
theorem D0_392 : pgDecT 0 392 = some (.invokevirtual 94, 3) := by decide +kernel
theorem I0_94 : pgIi 0 94 = some (200, 1, 12) := by decide +kernel
theorem D0_395 : pgDecT 0 395 = some (.istore 6, 2) := by decide +kernel
theorem D0_397 : pgDecT 0 397 = some (.aload_n 2, 1) := by decide +kernel
theorem D0_398 : pgDecT 0 398 = some (.invokevirtual 78, 3) := by decide +kernel
theorem D0_401 : pgDecT 0 401 = some (.iload 5, 2) := by decide +kernel
theorem D0_403 : pgDecT 0 403 = some (.if_icmp .eq 5, 3) := by decide +kernel
theorem D0_408 : pgDecT 0 408 = some (.iload 5, 2) := by decide +kernel
theorem D0_410 : pgDecT 0 410 = some (.ifCond .ne 15, 3) := by decide +kernel
theorem D0_425 : pgDecT 0 425 = some (.goto 804, 3) := by decide +kernel
theorem D0_413 : pgDecT 0 413 = some (.aload_n 3, 1) := by decide +kernel
theorem D0_414 : pgDecT 0 414 = some (.iconst 0, 1) := by decide +kernel
theorem D0_415 : pgDecT 0 415 = some (.laload, 1) := by decide +kernel
theorem D0_416 : pgDecT 0 416 = some (.iload 6, 2) := by decide +kernel
theorem D0_418 : pgDecT 0 418 = some (.i2l, 1) := by decide +kernel
theorem D0_419 : pgDecT 0 419 = some (.lcmp, 1) := by decide +kernel
theorem D0_420 : pgDecT 0 420 = some (.ifCond .eq 5, 3) := by decide +kernel
theorem D0_423 : pgDecT 0 423 = some (.iconst 0, 1) := by decide +kernel
theorem D0_424 : pgDecT 0 424 = some (.ireturn, 1) := by decide +kernel
theorem D0_406 : pgDecT 0 406 = some (.iconst 0, 1) := by decide +kernel
theorem D0_407 : pgDecT 0 407 = some (.ireturn, 1) := by decide +kernel
theorem D0_428 : pgDecT 0 428 = some (.aload_n 1, 1) := by decide +kernel
theorem D0_429 : pgDecT 0 429 = some (.aload_n 0, 1) := by decide +kernel
theorem D0_430 : pgDecT 0 430 = some (.iload 4, 2) := by decide +kernel
theorem D0_432 : pgDecT 0 432 = some (.iconst 1, 1) := by decide +kernel
theorem D0_433 : pgDecT 0 433 = some (.iadd, 1) := by decide +kernel
theorem D0_434 : pgDecT 0 434 = some (.iaload, 1) := by decide +kernel
theorem D0_435 : pgDecT 0 435 = some (.aload_n 3, 1) := by decide +kernel
theorem D0_436 : pgDecT 0 436 = some (.invokestatic 95, 3) := by decide +kernel
theorem I0_95 : pgIi 0 95 = some (42, 3, 100) := by decide +kernel
theorem D0_439 : pgDecT 0 439 = some (.istore 5, 2) := by decide +kernel
theorem D0_441 : pgDecT 0 441 = some (.aload_n 2, 1) := by decide +kernel
theorem D0_442 : pgDecT 0 442 = some (.aload_n 0, 1) := by decide +kernel
theorem D0_443 : pgDecT 0 443 = some (.iload 4, 2) := by decide +kernel
theorem D0_445 : pgDecT 0 445 = some (.iconst 1, 1) := by decide +kernel
theorem D0_446 : pgDecT 0 446 = some (.iadd, 1) := by decide +kernel
theorem D0_447 : pgDecT 0 447 = some (.iaload, 1) := by decide +kernel
theorem D0_448 : pgDecT 0 448 = some (.invokevirtual 97, 3) := by decide +kernel
theorem I0_97 : pgIi 0 97 = some (202, 1, 12) := by decide +kernel
theorem D0_451 : pgDecT 0 451 = some (.istore 6, 2) := by decide +kernel
theorem D0_453 : pgDecT 0 453 = some (.aload_n 2, 1) := by decide +kernel
theorem D0_454 : pgDecT 0 454 = some (.invokevirtual 78, 3) := by decide +kernel
theorem D0_457 : pgDecT 0 457 = some (.iload 5, 2) := by decide +kernel
theorem D0_459 : pgDecT 0 459 = some (.if_icmp .eq 5, 3) := by decide +kernel
theorem D0_464 : pgDecT 0 464 = some (.iload 5, 2) := by decide +kernel
theorem D0_466 : pgDecT 0 466 = some (.ifCond .ne 15, 3) := by decide +kernel
theorem D0_481 : pgDecT 0 481 = some (.goto 748, 3) := by decide +kernel
theorem D0_469 : pgDecT 0 469 = some (.aload_n 3, 1) := by decide +kernel
theorem D0_470 : pgDecT 0 470 = some (.iconst 0, 1) := by decide +kernel
theorem D0_471 : pgDecT 0 471 = some (.laload, 1) := by decide +kernel
theorem D0_472 : pgDecT 0 472 = some (.iload 6, 2) := by decide +kernel
theorem D0_474 : pgDecT 0 474 = some (.i2l, 1) := by decide +kernel
theorem D0_475 : pgDecT 0 475 = some (.lcmp, 1) := by decide +kernel
theorem D0_476 : pgDecT 0 476 = some (.ifCond .eq 5, 3) := by decide +kernel
theorem D0_479 : pgDecT 0 479 = some (.iconst 0, 1) := by decide +kernel
theorem D0_480 : pgDecT 0 480 = some (.ireturn, 1) := by decide +kernel
theorem D0_462 : pgDecT 0 462 = some (.iconst 0, 1) := by decide +kernel
theorem D0_463 : pgDecT 0 463 = some (.ireturn, 1) := by decide +kernel
theorem D0_484 : pgDecT 0 484 = some (.aload_n 1, 1) := by decide +kernel
theorem D0_485 : pgDecT 0 485 = some (.aload_n 0, 1) := by decide +kernel
theorem D0_486 : pgDecT 0 486 = some (.iload 4, 2) := by decide +kernel
theorem D0_488 : pgDecT 0 488 = some (.iconst 1, 1) := by decide +kernel
theorem D0_489 : pgDecT 0 489 = some (.iadd, 1) := by decide +kernel
theorem D0_490 : pgDecT 0 490 = some (.iaload, 1) := by decide +kernel
theorem D0_491 : pgDecT 0 491 = some (.aload_n 3, 1) := by decide +kernel
theorem D0_492 : pgDecT 0 492 = some (.invokestatic 98, 3) := by decide +kernel
theorem I0_98 : pgIi 0 98 = some (44, 3, 100) := by decide +kernel
theorem D0_495 : pgDecT 0 495 = some (.istore 5, 2) := by decide +kernel
theorem D0_497 : pgDecT 0 497 = some (.aload_n 2, 1) := by decide +kernel
theorem D0_498 : pgDecT 0 498 = some (.aload_n 0, 1) := by decide +kernel
theorem D0_499 : pgDecT 0 499 = some (.iload 4, 2) := by decide +kernel
theorem D0_501 : pgDecT 0 501 = some (.iconst 1, 1) := by decide +kernel
theorem D0_502 : pgDecT 0 502 = some (.iadd, 1) := by decide +kernel
theorem D0_503 : pgDecT 0 503 = some (.iaload, 1) := by decide +kernel
theorem D0_504 : pgDecT 0 504 = some (.invokevirtual 100, 3) := by decide +kernel
theorem I0_100 : pgIi 0 100 = some (204, 1, 12) := by decide +kernel
theorem D0_507 : pgDecT 0 507 = some (.istore 6, 2) := by decide +kernel
theorem D0_509 : pgDecT 0 509 = some (.aload_n 2, 1) := by decide +kernel
theorem D0_510 : pgDecT 0 510 = some (.invokevirtual 78, 3) := by decide +kernel
theorem D0_513 : pgDecT 0 513 = some (.iload 5, 2) := by decide +kernel
theorem D0_515 : pgDecT 0 515 = some (.if_icmp .eq 5, 3) := by decide +kernel
theorem D0_520 : pgDecT 0 520 = some (.iload 5, 2) := by decide +kernel
theorem D0_522 : pgDecT 0 522 = some (.ifCond .ne 15, 3) := by decide +kernel
theorem D0_537 : pgDecT 0 537 = some (.goto 692, 3) := by decide +kernel
theorem D0_525 : pgDecT 0 525 = some (.aload_n 3, 1) := by decide +kernel
theorem D0_526 : pgDecT 0 526 = some (.iconst 0, 1) := by decide +kernel
theorem D0_527 : pgDecT 0 527 = some (.laload, 1) := by decide +kernel
theorem D0_528 : pgDecT 0 528 = some (.iload 6, 2) := by decide +kernel
theorem D0_530 : pgDecT 0 530 = some (.i2l, 1) := by decide +kernel
theorem D0_531 : pgDecT 0 531 = some (.lcmp, 1) := by decide +kernel
theorem D0_532 : pgDecT 0 532 = some (.ifCond .eq 5, 3) := by decide +kernel
theorem D0_535 : pgDecT 0 535 = some (.iconst 0, 1) := by decide +kernel
theorem D0_536 : pgDecT 0 536 = some (.ireturn, 1) := by decide +kernel
theorem D0_518 : pgDecT 0 518 = some (.iconst 0, 1) := by decide +kernel
theorem D0_519 : pgDecT 0 519 = some (.ireturn, 1) := by decide +kernel
theorem D0_540 : pgDecT 0 540 = some (.aload_n 1, 1) := by decide +kernel
theorem D0_541 : pgDecT 0 541 = some (.aload_n 0, 1) := by decide +kernel
theorem D0_542 : pgDecT 0 542 = some (.iload 4, 2) := by decide +kernel
theorem D0_544 : pgDecT 0 544 = some (.iconst 1, 1) := by decide +kernel
theorem D0_545 : pgDecT 0 545 = some (.iadd, 1) := by decide +kernel
theorem D0_546 : pgDecT 0 546 = some (.iaload, 1) := by decide +kernel
theorem D0_547 : pgDecT 0 547 = some (.aload_n 3, 1) := by decide +kernel
theorem D0_548 : pgDecT 0 548 = some (.invokestatic 101, 3) := by decide +kernel
theorem I0_101 : pgIi 0 101 = some (46, 3, 100) := by decide +kernel
theorem D0_551 : pgDecT 0 551 = some (.istore 5, 2) := by decide +kernel
theorem D0_553 : pgDecT 0 553 = some (.aload_n 2, 1) := by decide +kernel
theorem D0_554 : pgDecT 0 554 = some (.aload_n 0, 1) := by decide +kernel
theorem D0_555 : pgDecT 0 555 = some (.iload 4, 2) := by decide +kernel
theorem D0_557 : pgDecT 0 557 = some (.iconst 1, 1) := by decide +kernel
theorem D0_558 : pgDecT 0 558 = some (.iadd, 1) := by decide +kernel
theorem D0_559 : pgDecT 0 559 = some (.iaload, 1) := by decide +kernel
theorem D0_560 : pgDecT 0 560 = some (.invokevirtual 103, 3) := by decide +kernel
theorem I0_103 : pgIi 0 103 = some (205, 1, 12) := by decide +kernel
theorem D0_563 : pgDecT 0 563 = some (.istore 6, 2) := by decide +kernel
theorem D0_565 : pgDecT 0 565 = some (.aload_n 2, 1) := by decide +kernel
theorem D0_566 : pgDecT 0 566 = some (.invokevirtual 78, 3) := by decide +kernel
theorem D0_569 : pgDecT 0 569 = some (.iload 5, 2) := by decide +kernel
theorem D0_571 : pgDecT 0 571 = some (.if_icmp .eq 5, 3) := by decide +kernel
theorem D0_576 : pgDecT 0 576 = some (.iload 5, 2) := by decide +kernel
theorem D0_578 : pgDecT 0 578 = some (.ifCond .ne 15, 3) := by decide +kernel
theorem D0_593 : pgDecT 0 593 = some (.goto 636, 3) := by decide +kernel
theorem D0_581 : pgDecT 0 581 = some (.aload_n 3, 1) := by decide +kernel
theorem D0_582 : pgDecT 0 582 = some (.iconst 0, 1) := by decide +kernel
theorem D0_583 : pgDecT 0 583 = some (.laload, 1) := by decide +kernel
theorem D0_584 : pgDecT 0 584 = some (.iload 6, 2) := by decide +kernel
theorem D0_586 : pgDecT 0 586 = some (.i2l, 1) := by decide +kernel
theorem D0_587 : pgDecT 0 587 = some (.lcmp, 1) := by decide +kernel
theorem D0_588 : pgDecT 0 588 = some (.ifCond .eq 5, 3) := by decide +kernel
theorem D0_591 : pgDecT 0 591 = some (.iconst 0, 1) := by decide +kernel
theorem D0_592 : pgDecT 0 592 = some (.ireturn, 1) := by decide +kernel
theorem D0_574 : pgDecT 0 574 = some (.iconst 0, 1) := by decide +kernel
theorem D0_575 : pgDecT 0 575 = some (.ireturn, 1) := by decide +kernel
theorem D0_596 : pgDecT 0 596 = some (.aload_n 1, 1) := by decide +kernel
theorem D0_597 : pgDecT 0 597 = some (.aload_n 0, 1) := by decide +kernel
theorem D0_598 : pgDecT 0 598 = some (.iload 4, 2) := by decide +kernel
theorem D0_600 : pgDecT 0 600 = some (.iconst 1, 1) := by decide +kernel
theorem D0_601 : pgDecT 0 601 = some (.iadd, 1) := by decide +kernel
theorem D0_602 : pgDecT 0 602 = some (.iaload, 1) := by decide +kernel
theorem D0_603 : pgDecT 0 603 = some (.aload_n 0, 1) := by decide +kernel
theorem D0_604 : pgDecT 0 604 = some (.iload 4, 2) := by decide +kernel
theorem D0_606 : pgDecT 0 606 = some (.iconst 2, 1) := by decide +kernel
theorem D0_607 : pgDecT 0 607 = some (.iadd, 1) := by decide +kernel
theorem D0_608 : pgDecT 0 608 = some (.iaload, 1) := by decide +kernel
theorem D0_609 : pgDecT 0 609 = some (.aload_n 3, 1) := by decide +kernel
theorem D0_610 : pgDecT 0 610 = some (.invokestatic 104, 3) := by decide +kernel
theorem I0_104 : pgIi 0 104 = some (49, 4, 100) := by decide +kernel
theorem D0_613 : pgDecT 0 613 = some (.istore 5, 2) := by decide +kernel
theorem D0_615 : pgDecT 0 615 = some (.aload_n 2, 1) := by decide +kernel
theorem D0_616 : pgDecT 0 616 = some (.aload_n 0, 1) := by decide +kernel
theorem D0_617 : pgDecT 0 617 = some (.iload 4, 2) := by decide +kernel
theorem D0_619 : pgDecT 0 619 = some (.iconst 1, 1) := by decide +kernel
theorem D0_620 : pgDecT 0 620 = some (.iadd, 1) := by decide +kernel
theorem D0_621 : pgDecT 0 621 = some (.iaload, 1) := by decide +kernel
theorem D0_622 : pgDecT 0 622 = some (.aload_n 0, 1) := by decide +kernel
theorem D0_623 : pgDecT 0 623 = some (.iload 4, 2) := by decide +kernel
theorem D0_625 : pgDecT 0 625 = some (.iconst 2, 1) := by decide +kernel
theorem D0_626 : pgDecT 0 626 = some (.iadd, 1) := by decide +kernel
theorem D0_627 : pgDecT 0 627 = some (.iaload, 1) := by decide +kernel
theorem D0_628 : pgDecT 0 628 = some (.invokevirtual 106, 3) := by decide +kernel
theorem I0_106 : pgIi 0 106 = some (207, 2, 12) := by decide +kernel
theorem D0_631 : pgDecT 0 631 = some (.istore 6, 2) := by decide +kernel
theorem D0_633 : pgDecT 0 633 = some (.aload_n 2, 1) := by decide +kernel
theorem D0_634 : pgDecT 0 634 = some (.invokevirtual 78, 3) := by decide +kernel
theorem D0_637 : pgDecT 0 637 = some (.iload 5, 2) := by decide +kernel
theorem D0_639 : pgDecT 0 639 = some (.if_icmp .eq 5, 3) := by decide +kernel
theorem D0_644 : pgDecT 0 644 = some (.iload 5, 2) := by decide +kernel
theorem D0_646 : pgDecT 0 646 = some (.ifCond .ne 15, 3) := by decide +kernel
theorem D0_661 : pgDecT 0 661 = some (.goto 568, 3) := by decide +kernel
theorem D0_649 : pgDecT 0 649 = some (.aload_n 3, 1) := by decide +kernel
theorem D0_650 : pgDecT 0 650 = some (.iconst 0, 1) := by decide +kernel
theorem D0_651 : pgDecT 0 651 = some (.laload, 1) := by decide +kernel
theorem D0_652 : pgDecT 0 652 = some (.iload 6, 2) := by decide +kernel
theorem D0_654 : pgDecT 0 654 = some (.i2l, 1) := by decide +kernel
theorem D0_655 : pgDecT 0 655 = some (.lcmp, 1) := by decide +kernel
theorem D0_656 : pgDecT 0 656 = some (.ifCond .eq 5, 3) := by decide +kernel
theorem D0_659 : pgDecT 0 659 = some (.iconst 0, 1) := by decide +kernel
theorem D0_660 : pgDecT 0 660 = some (.ireturn, 1) := by decide +kernel
theorem D0_642 : pgDecT 0 642 = some (.iconst 0, 1) := by decide +kernel
theorem D0_643 : pgDecT 0 643 = some (.ireturn, 1) := by decide +kernel
theorem D0_664 : pgDecT 0 664 = some (.aload_n 1, 1) := by decide +kernel
theorem D0_665 : pgDecT 0 665 = some (.aload_n 0, 1) := by decide +kernel
theorem D0_666 : pgDecT 0 666 = some (.iload 4, 2) := by decide +kernel
theorem D0_668 : pgDecT 0 668 = some (.iconst 1, 1) := by decide +kernel
theorem D0_669 : pgDecT 0 669 = some (.iadd, 1) := by decide +kernel
theorem D0_670 : pgDecT 0 670 = some (.iaload, 1) := by decide +kernel
theorem D0_671 : pgDecT 0 671 = some (.aload_n 0, 1) := by decide +kernel
theorem D0_672 : pgDecT 0 672 = some (.iload 4, 2) := by decide +kernel
theorem D0_674 : pgDecT 0 674 = some (.iconst 2, 1) := by decide +kernel
theorem D0_675 : pgDecT 0 675 = some (.iadd, 1) := by decide +kernel
theorem D0_676 : pgDecT 0 676 = some (.iaload, 1) := by decide +kernel
theorem D0_677 : pgDecT 0 677 = some (.aload_n 3, 1) := by decide +kernel
theorem D0_678 : pgDecT 0 678 = some (.invokestatic 107, 3) := by decide +kernel
theorem I0_107 : pgIi 0 107 = some (51, 4, 100) := by decide +kernel
theorem D0_681 : pgDecT 0 681 = some (.istore 5, 2) := by decide +kernel
theorem D0_683 : pgDecT 0 683 = some (.aload_n 2, 1) := by decide +kernel
theorem D0_684 : pgDecT 0 684 = some (.aload_n 0, 1) := by decide +kernel
theorem D0_685 : pgDecT 0 685 = some (.iload 4, 2) := by decide +kernel
theorem D0_687 : pgDecT 0 687 = some (.iconst 1, 1) := by decide +kernel
theorem D0_688 : pgDecT 0 688 = some (.iadd, 1) := by decide +kernel
theorem D0_689 : pgDecT 0 689 = some (.iaload, 1) := by decide +kernel
theorem D0_690 : pgDecT 0 690 = some (.aload_n 0, 1) := by decide +kernel
theorem D0_691 : pgDecT 0 691 = some (.iload 4, 2) := by decide +kernel
theorem D0_693 : pgDecT 0 693 = some (.iconst 2, 1) := by decide +kernel
theorem D0_694 : pgDecT 0 694 = some (.iadd, 1) := by decide +kernel
theorem D0_695 : pgDecT 0 695 = some (.iaload, 1) := by decide +kernel
theorem D0_696 : pgDecT 0 696 = some (.invokevirtual 109, 3) := by decide +kernel
theorem I0_109 : pgIi 0 109 = some (208, 2, 12) := by decide +kernel
theorem D0_699 : pgDecT 0 699 = some (.istore 6, 2) := by decide +kernel
theorem D0_701 : pgDecT 0 701 = some (.aload_n 2, 1) := by decide +kernel
theorem D0_702 : pgDecT 0 702 = some (.invokevirtual 78, 3) := by decide +kernel
theorem D0_705 : pgDecT 0 705 = some (.iload 5, 2) := by decide +kernel
theorem D0_707 : pgDecT 0 707 = some (.if_icmp .eq 5, 3) := by decide +kernel
theorem D0_712 : pgDecT 0 712 = some (.iload 5, 2) := by decide +kernel
theorem D0_714 : pgDecT 0 714 = some (.ifCond .ne 15, 3) := by decide +kernel
theorem D0_729 : pgDecT 0 729 = some (.goto 500, 3) := by decide +kernel
theorem D0_717 : pgDecT 0 717 = some (.aload_n 3, 1) := by decide +kernel
theorem D0_718 : pgDecT 0 718 = some (.iconst 0, 1) := by decide +kernel
theorem D0_719 : pgDecT 0 719 = some (.laload, 1) := by decide +kernel
theorem D0_720 : pgDecT 0 720 = some (.iload 6, 2) := by decide +kernel
theorem D0_722 : pgDecT 0 722 = some (.i2l, 1) := by decide +kernel
theorem D0_723 : pgDecT 0 723 = some (.lcmp, 1) := by decide +kernel
theorem D0_724 : pgDecT 0 724 = some (.ifCond .eq 5, 3) := by decide +kernel
theorem D0_727 : pgDecT 0 727 = some (.iconst 0, 1) := by decide +kernel
theorem D0_728 : pgDecT 0 728 = some (.ireturn, 1) := by decide +kernel
theorem D0_710 : pgDecT 0 710 = some (.iconst 0, 1) := by decide +kernel
theorem D0_711 : pgDecT 0 711 = some (.ireturn, 1) := by decide +kernel
theorem D0_732 : pgDecT 0 732 = some (.aload_n 1, 1) := by decide +kernel
theorem D0_733 : pgDecT 0 733 = some (.aload_n 0, 1) := by decide +kernel
theorem D0_734 : pgDecT 0 734 = some (.iload 4, 2) := by decide +kernel
theorem D0_736 : pgDecT 0 736 = some (.iconst 1, 1) := by decide +kernel
theorem D0_737 : pgDecT 0 737 = some (.iadd, 1) := by decide +kernel
theorem D0_738 : pgDecT 0 738 = some (.iaload, 1) := by decide +kernel
theorem D0_739 : pgDecT 0 739 = some (.aload_n 3, 1) := by decide +kernel
theorem D0_740 : pgDecT 0 740 = some (.invokestatic 110, 3) := by decide +kernel
theorem I0_110 : pgIi 0 110 = some (54, 3, 100) := by decide +kernel
theorem D0_743 : pgDecT 0 743 = some (.istore 5, 2) := by decide +kernel
theorem D0_745 : pgDecT 0 745 = some (.aload_n 2, 1) := by decide +kernel
theorem D0_746 : pgDecT 0 746 = some (.aload_n 0, 1) := by decide +kernel
theorem D0_747 : pgDecT 0 747 = some (.iload 4, 2) := by decide +kernel
theorem D0_749 : pgDecT 0 749 = some (.iconst 1, 1) := by decide +kernel
theorem D0_750 : pgDecT 0 750 = some (.iadd, 1) := by decide +kernel
theorem D0_751 : pgDecT 0 751 = some (.iaload, 1) := by decide +kernel
theorem D0_752 : pgDecT 0 752 = some (.invokevirtual 112, 3) := by decide +kernel
theorem I0_112 : pgIi 0 112 = some (209, 1, 12) := by decide +kernel
theorem D0_755 : pgDecT 0 755 = some (.istore 6, 2) := by decide +kernel
theorem D0_757 : pgDecT 0 757 = some (.aload_n 2, 1) := by decide +kernel
theorem D0_758 : pgDecT 0 758 = some (.invokevirtual 78, 3) := by decide +kernel
theorem D0_761 : pgDecT 0 761 = some (.iload 5, 2) := by decide +kernel
theorem D0_763 : pgDecT 0 763 = some (.if_icmp .eq 5, 3) := by decide +kernel
theorem D0_768 : pgDecT 0 768 = some (.iload 5, 2) := by decide +kernel
theorem D0_770 : pgDecT 0 770 = some (.ifCond .ne 15, 3) := by decide +kernel
theorem D0_785 : pgDecT 0 785 = some (.goto 444, 3) := by decide +kernel
theorem D0_773 : pgDecT 0 773 = some (.aload_n 3, 1) := by decide +kernel
theorem D0_774 : pgDecT 0 774 = some (.iconst 0, 1) := by decide +kernel
theorem D0_775 : pgDecT 0 775 = some (.laload, 1) := by decide +kernel
theorem D0_776 : pgDecT 0 776 = some (.iload 6, 2) := by decide +kernel
theorem D0_778 : pgDecT 0 778 = some (.i2l, 1) := by decide +kernel
theorem D0_779 : pgDecT 0 779 = some (.lcmp, 1) := by decide +kernel
theorem D0_780 : pgDecT 0 780 = some (.ifCond .eq 5, 3) := by decide +kernel
theorem D0_783 : pgDecT 0 783 = some (.iconst 0, 1) := by decide +kernel
theorem D0_784 : pgDecT 0 784 = some (.ireturn, 1) := by decide +kernel
theorem D0_766 : pgDecT 0 766 = some (.iconst 0, 1) := by decide +kernel
theorem D0_767 : pgDecT 0 767 = some (.ireturn, 1) := by decide +kernel
theorem D0_788 : pgDecT 0 788 = some (.aload_n 1, 1) := by decide +kernel
theorem D0_789 : pgDecT 0 789 = some (.aload_n 0, 1) := by decide +kernel
theorem D0_790 : pgDecT 0 790 = some (.iload 4, 2) := by decide +kernel
theorem D0_792 : pgDecT 0 792 = some (.iconst 1, 1) := by decide +kernel
theorem D0_793 : pgDecT 0 793 = some (.iadd, 1) := by decide +kernel
theorem D0_794 : pgDecT 0 794 = some (.iaload, 1) := by decide +kernel
theorem D0_795 : pgDecT 0 795 = some (.aload_n 0, 1) := by decide +kernel
theorem D0_796 : pgDecT 0 796 = some (.iload 4, 2) := by decide +kernel
theorem D0_798 : pgDecT 0 798 = some (.iconst 2, 1) := by decide +kernel
theorem D0_799 : pgDecT 0 799 = some (.iadd, 1) := by decide +kernel
theorem D0_800 : pgDecT 0 800 = some (.iaload, 1) := by decide +kernel
theorem D0_801 : pgDecT 0 801 = some (.aload_n 0, 1) := by decide +kernel
theorem D0_802 : pgDecT 0 802 = some (.iload 4, 2) := by decide +kernel
theorem D0_804 : pgDecT 0 804 = some (.iconst 3, 1) := by decide +kernel
theorem D0_805 : pgDecT 0 805 = some (.iadd, 1) := by decide +kernel
theorem D0_806 : pgDecT 0 806 = some (.iaload, 1) := by decide +kernel
theorem D0_807 : pgDecT 0 807 = some (.aload_n 0, 1) := by decide +kernel
theorem D0_808 : pgDecT 0 808 = some (.iload 4, 2) := by decide +kernel
theorem D0_810 : pgDecT 0 810 = some (.iconst 4, 1) := by decide +kernel
theorem D0_811 : pgDecT 0 811 = some (.iadd, 1) := by decide +kernel
theorem D0_812 : pgDecT 0 812 = some (.iaload, 1) := by decide +kernel
theorem D0_813 : pgDecT 0 813 = some (.aload_n 0, 1) := by decide +kernel
theorem D0_814 : pgDecT 0 814 = some (.iload 4, 2) := by decide +kernel
theorem D0_816 : pgDecT 0 816 = some (.iconst 5, 1) := by decide +kernel
theorem D0_817 : pgDecT 0 817 = some (.iadd, 1) := by decide +kernel
theorem D0_818 : pgDecT 0 818 = some (.iaload, 1) := by decide +kernel
theorem D0_819 : pgDecT 0 819 = some (.aload_n 0, 1) := by decide +kernel
theorem D0_820 : pgDecT 0 820 = some (.iload 4, 2) := by decide +kernel
theorem D0_822 : pgDecT 0 822 = some (.bipush 6, 2) := by decide +kernel
theorem D0_824 : pgDecT 0 824 = some (.iadd, 1) := by decide +kernel
theorem D0_825 : pgDecT 0 825 = some (.iaload, 1) := by decide +kernel
theorem D0_826 : pgDecT 0 826 = some (.aload_n 3, 1) := by decide +kernel
theorem D0_827 : pgDecT 0 827 = some (.invokestatic 113, 3) := by decide +kernel
theorem I0_113 : pgIi 0 113 = some (57, 8, 100) := by decide +kernel
theorem D0_830 : pgDecT 0 830 = some (.istore 5, 2) := by decide +kernel
theorem D0_832 : pgDecT 0 832 = some (.aload_n 2, 1) := by decide +kernel
theorem D0_833 : pgDecT 0 833 = some (.aload_n 0, 1) := by decide +kernel
theorem D0_834 : pgDecT 0 834 = some (.iload 4, 2) := by decide +kernel
theorem D0_836 : pgDecT 0 836 = some (.iconst 1, 1) := by decide +kernel
theorem D0_837 : pgDecT 0 837 = some (.iadd, 1) := by decide +kernel
theorem D0_838 : pgDecT 0 838 = some (.iaload, 1) := by decide +kernel
theorem D0_839 : pgDecT 0 839 = some (.aload_n 0, 1) := by decide +kernel
theorem D0_840 : pgDecT 0 840 = some (.iload 4, 2) := by decide +kernel
theorem D0_842 : pgDecT 0 842 = some (.iconst 2, 1) := by decide +kernel
theorem D0_843 : pgDecT 0 843 = some (.iadd, 1) := by decide +kernel
theorem D0_844 : pgDecT 0 844 = some (.iaload, 1) := by decide +kernel
theorem D0_845 : pgDecT 0 845 = some (.aload_n 0, 1) := by decide +kernel
theorem D0_846 : pgDecT 0 846 = some (.iload 4, 2) := by decide +kernel
theorem D0_848 : pgDecT 0 848 = some (.iconst 3, 1) := by decide +kernel
theorem D0_849 : pgDecT 0 849 = some (.iadd, 1) := by decide +kernel
theorem D0_850 : pgDecT 0 850 = some (.iaload, 1) := by decide +kernel
theorem D0_851 : pgDecT 0 851 = some (.aload_n 0, 1) := by decide +kernel
theorem D0_852 : pgDecT 0 852 = some (.iload 4, 2) := by decide +kernel
theorem D0_854 : pgDecT 0 854 = some (.iconst 4, 1) := by decide +kernel
theorem D0_855 : pgDecT 0 855 = some (.iadd, 1) := by decide +kernel
theorem D0_856 : pgDecT 0 856 = some (.iaload, 1) := by decide +kernel
theorem D0_857 : pgDecT 0 857 = some (.aload_n 0, 1) := by decide +kernel
theorem D0_858 : pgDecT 0 858 = some (.iload 4, 2) := by decide +kernel
theorem D0_860 : pgDecT 0 860 = some (.iconst 5, 1) := by decide +kernel
theorem D0_861 : pgDecT 0 861 = some (.iadd, 1) := by decide +kernel
theorem D0_862 : pgDecT 0 862 = some (.iaload, 1) := by decide +kernel
theorem D0_863 : pgDecT 0 863 = some (.aload_n 0, 1) := by decide +kernel
theorem D0_864 : pgDecT 0 864 = some (.iload 4, 2) := by decide +kernel
theorem D0_866 : pgDecT 0 866 = some (.bipush 6, 2) := by decide +kernel
theorem D0_868 : pgDecT 0 868 = some (.iadd, 1) := by decide +kernel
theorem D0_869 : pgDecT 0 869 = some (.iaload, 1) := by decide +kernel
theorem D0_870 : pgDecT 0 870 = some (.invokevirtual 116, 3) := by decide +kernel
theorem I0_116 : pgIi 0 116 = some (237, 6, 12) := by decide +kernel
theorem D0_873 : pgDecT 0 873 = some (.istore 6, 2) := by decide +kernel
theorem D0_875 : pgDecT 0 875 = some (.aload_n 2, 1) := by decide +kernel
theorem D0_876 : pgDecT 0 876 = some (.invokevirtual 78, 3) := by decide +kernel
theorem D0_879 : pgDecT 0 879 = some (.iload 5, 2) := by decide +kernel
theorem D0_881 : pgDecT 0 881 = some (.if_icmp .eq 5, 3) := by decide +kernel
theorem D0_886 : pgDecT 0 886 = some (.iload 5, 2) := by decide +kernel
theorem D0_888 : pgDecT 0 888 = some (.ifCond .ne 15, 3) := by decide +kernel
theorem D0_903 : pgDecT 0 903 = some (.goto 326, 3) := by decide +kernel
theorem D0_891 : pgDecT 0 891 = some (.aload_n 3, 1) := by decide +kernel
theorem D0_892 : pgDecT 0 892 = some (.iconst 0, 1) := by decide +kernel
theorem D0_893 : pgDecT 0 893 = some (.laload, 1) := by decide +kernel
theorem D0_894 : pgDecT 0 894 = some (.iload 6, 2) := by decide +kernel
theorem D0_896 : pgDecT 0 896 = some (.i2l, 1) := by decide +kernel
theorem D0_897 : pgDecT 0 897 = some (.lcmp, 1) := by decide +kernel
theorem D0_898 : pgDecT 0 898 = some (.ifCond .eq 5, 3) := by decide +kernel
theorem D0_901 : pgDecT 0 901 = some (.iconst 0, 1) := by decide +kernel
theorem D0_902 : pgDecT 0 902 = some (.ireturn, 1) := by decide +kernel
theorem D0_884 : pgDecT 0 884 = some (.iconst 0, 1) := by decide +kernel
theorem D0_885 : pgDecT 0 885 = some (.ireturn, 1) := by decide +kernel
theorem D0_906 : pgDecT 0 906 = some (.aload_n 1, 1) := by decide +kernel
theorem D0_907 : pgDecT 0 907 = some (.aload_n 0, 1) := by decide +kernel
theorem D0_908 : pgDecT 0 908 = some (.iload 4, 2) := by decide +kernel
theorem D0_910 : pgDecT 0 910 = some (.iconst 1, 1) := by decide +kernel
theorem D0_911 : pgDecT 0 911 = some (.iadd, 1) := by decide +kernel
theorem D0_912 : pgDecT 0 912 = some (.iaload, 1) := by decide +kernel
theorem D0_913 : pgDecT 0 913 = some (.aload_n 3, 1) := by decide +kernel
theorem D0_914 : pgDecT 0 914 = some (.invokestatic 117, 3) := by decide +kernel
theorem I0_117 : pgIi 0 117 = some (125, 3, 100) := by decide +kernel
theorem D0_917 : pgDecT 0 917 = some (.istore 5, 2) := by decide +kernel
theorem D0_919 : pgDecT 0 919 = some (.aload_n 2, 1) := by decide +kernel
theorem D0_920 : pgDecT 0 920 = some (.aload_n 0, 1) := by decide +kernel
theorem D0_921 : pgDecT 0 921 = some (.iload 4, 2) := by decide +kernel
theorem D0_923 : pgDecT 0 923 = some (.iconst 1, 1) := by decide +kernel
theorem D0_924 : pgDecT 0 924 = some (.iadd, 1) := by decide +kernel
theorem D0_925 : pgDecT 0 925 = some (.iaload, 1) := by decide +kernel
theorem D0_926 : pgDecT 0 926 = some (.invokevirtual 119, 3) := by decide +kernel
theorem I0_119 : pgIi 0 119 = some (210, 1, 12) := by decide +kernel
theorem D0_929 : pgDecT 0 929 = some (.istore 6, 2) := by decide +kernel
theorem D0_931 : pgDecT 0 931 = some (.aload_n 2, 1) := by decide +kernel
theorem D0_932 : pgDecT 0 932 = some (.invokevirtual 78, 3) := by decide +kernel
theorem D0_935 : pgDecT 0 935 = some (.iload 5, 2) := by decide +kernel
theorem D0_937 : pgDecT 0 937 = some (.if_icmp .eq 5, 3) := by decide +kernel
theorem D0_942 : pgDecT 0 942 = some (.iload 5, 2) := by decide +kernel
theorem D0_944 : pgDecT 0 944 = some (.ifCond .ne 15, 3) := by decide +kernel
theorem D0_959 : pgDecT 0 959 = some (.goto 270, 3) := by decide +kernel
theorem D0_947 : pgDecT 0 947 = some (.aload_n 3, 1) := by decide +kernel
theorem D0_948 : pgDecT 0 948 = some (.iconst 0, 1) := by decide +kernel
theorem D0_949 : pgDecT 0 949 = some (.laload, 1) := by decide +kernel
theorem D0_950 : pgDecT 0 950 = some (.iload 6, 2) := by decide +kernel
theorem D0_952 : pgDecT 0 952 = some (.i2l, 1) := by decide +kernel
theorem D0_953 : pgDecT 0 953 = some (.lcmp, 1) := by decide +kernel
theorem D0_954 : pgDecT 0 954 = some (.ifCond .eq 5, 3) := by decide +kernel
theorem D0_957 : pgDecT 0 957 = some (.iconst 0, 1) := by decide +kernel
theorem D0_958 : pgDecT 0 958 = some (.ireturn, 1) := by decide +kernel
theorem D0_940 : pgDecT 0 940 = some (.iconst 0, 1) := by decide +kernel
theorem D0_941 : pgDecT 0 941 = some (.ireturn, 1) := by decide +kernel
theorem D0_962 : pgDecT 0 962 = some (.aload_n 1, 1) := by decide +kernel
theorem D0_963 : pgDecT 0 963 = some (.aload_n 0, 1) := by decide +kernel
theorem D0_964 : pgDecT 0 964 = some (.iload 4, 2) := by decide +kernel
theorem D0_966 : pgDecT 0 966 = some (.iconst 1, 1) := by decide +kernel
theorem D0_967 : pgDecT 0 967 = some (.iadd, 1) := by decide +kernel
theorem D0_968 : pgDecT 0 968 = some (.iaload, 1) := by decide +kernel
theorem D0_969 : pgDecT 0 969 = some (.aload_n 0, 1) := by decide +kernel
theorem D0_970 : pgDecT 0 970 = some (.iload 4, 2) := by decide +kernel
theorem D0_972 : pgDecT 0 972 = some (.iconst 2, 1) := by decide +kernel
theorem D0_973 : pgDecT 0 973 = some (.iadd, 1) := by decide +kernel
theorem D0_974 : pgDecT 0 974 = some (.iaload, 1) := by decide +kernel
theorem D0_975 : pgDecT 0 975 = some (.aload_n 3, 1) := by decide +kernel
theorem D0_976 : pgDecT 0 976 = some (.invokestatic 120, 3) := by decide +kernel
theorem I0_120 : pgIi 0 120 = some (143, 4, 100) := by decide +kernel
theorem D0_979 : pgDecT 0 979 = some (.istore 5, 2) := by decide +kernel
theorem D0_981 : pgDecT 0 981 = some (.aload_n 2, 1) := by decide +kernel
theorem D0_982 : pgDecT 0 982 = some (.aload_n 0, 1) := by decide +kernel
theorem D0_983 : pgDecT 0 983 = some (.iload 4, 2) := by decide +kernel
theorem D0_985 : pgDecT 0 985 = some (.iconst 1, 1) := by decide +kernel
theorem D0_986 : pgDecT 0 986 = some (.iadd, 1) := by decide +kernel
theorem D0_987 : pgDecT 0 987 = some (.iaload, 1) := by decide +kernel
theorem D0_988 : pgDecT 0 988 = some (.aload_n 0, 1) := by decide +kernel
theorem D0_989 : pgDecT 0 989 = some (.iload 4, 2) := by decide +kernel
theorem D0_991 : pgDecT 0 991 = some (.iconst 2, 1) := by decide +kernel
theorem D0_992 : pgDecT 0 992 = some (.iadd, 1) := by decide +kernel
theorem D0_993 : pgDecT 0 993 = some (.iaload, 1) := by decide +kernel
theorem D0_994 : pgDecT 0 994 = some (.invokevirtual 122, 3) := by decide +kernel
theorem I0_122 : pgIi 0 122 = some (236, 2, 12) := by decide +kernel
theorem D0_997 : pgDecT 0 997 = some (.istore 6, 2) := by decide +kernel
theorem D0_999 : pgDecT 0 999 = some (.aload_n 2, 1) := by decide +kernel
theorem D0_1000 : pgDecT 0 1000 = some (.invokevirtual 78, 3) := by decide +kernel
theorem D0_1003 : pgDecT 0 1003 = some (.iload 5, 2) := by decide +kernel
theorem D0_1005 : pgDecT 0 1005 = some (.if_icmp .eq 5, 3) := by decide +kernel
theorem D0_1010 : pgDecT 0 1010 = some (.iload 5, 2) := by decide +kernel
theorem D0_1012 : pgDecT 0 1012 = some (.ifCond .ne 15, 3) := by decide +kernel
theorem D0_1027 : pgDecT 0 1027 = some (.goto 202, 3) := by decide +kernel
theorem D0_1015 : pgDecT 0 1015 = some (.aload_n 3, 1) := by decide +kernel
theorem D0_1016 : pgDecT 0 1016 = some (.iconst 0, 1) := by decide +kernel
theorem D0_1017 : pgDecT 0 1017 = some (.laload, 1) := by decide +kernel
theorem D0_1018 : pgDecT 0 1018 = some (.iload 6, 2) := by decide +kernel
theorem D0_1020 : pgDecT 0 1020 = some (.i2l, 1) := by decide +kernel
theorem D0_1021 : pgDecT 0 1021 = some (.lcmp, 1) := by decide +kernel
theorem D0_1022 : pgDecT 0 1022 = some (.ifCond .eq 5, 3) := by decide +kernel
theorem D0_1025 : pgDecT 0 1025 = some (.iconst 0, 1) := by decide +kernel
theorem D0_1026 : pgDecT 0 1026 = some (.ireturn, 1) := by decide +kernel
theorem D0_1008 : pgDecT 0 1008 = some (.iconst 0, 1) := by decide +kernel
theorem D0_1009 : pgDecT 0 1009 = some (.ireturn, 1) := by decide +kernel
theorem D0_1030 : pgDecT 0 1030 = some (.aload_n 1, 1) := by decide +kernel
theorem D0_1031 : pgDecT 0 1031 = some (.aload_n 0, 1) := by decide +kernel
theorem D0_1032 : pgDecT 0 1032 = some (.iload 4, 2) := by decide +kernel
theorem D0_1034 : pgDecT 0 1034 = some (.iconst 1, 1) := by decide +kernel
theorem D0_1035 : pgDecT 0 1035 = some (.iadd, 1) := by decide +kernel
theorem D0_1036 : pgDecT 0 1036 = some (.iaload, 1) := by decide +kernel
theorem D0_1037 : pgDecT 0 1037 = some (.aload_n 0, 1) := by decide +kernel
theorem D0_1038 : pgDecT 0 1038 = some (.iload 4, 2) := by decide +kernel
theorem D0_1040 : pgDecT 0 1040 = some (.iconst 2, 1) := by decide +kernel
theorem D0_1041 : pgDecT 0 1041 = some (.iadd, 1) := by decide +kernel
theorem D0_1042 : pgDecT 0 1042 = some (.iaload, 1) := by decide +kernel
theorem D0_1043 : pgDecT 0 1043 = some (.aload_n 3, 1) := by decide +kernel
theorem D0_1044 : pgDecT 0 1044 = some (.invokestatic 123, 3) := by decide +kernel
theorem I0_123 : pgIi 0 123 = some (145, 4, 100) := by decide +kernel
theorem D0_1047 : pgDecT 0 1047 = some (.istore 5, 2) := by decide +kernel
theorem D0_1049 : pgDecT 0 1049 = some (.aload_n 2, 1) := by decide +kernel
theorem D0_1050 : pgDecT 0 1050 = some (.aload_n 0, 1) := by decide +kernel
theorem D0_1051 : pgDecT 0 1051 = some (.iload 4, 2) := by decide +kernel
theorem D0_1053 : pgDecT 0 1053 = some (.iconst 1, 1) := by decide +kernel
theorem D0_1054 : pgDecT 0 1054 = some (.iadd, 1) := by decide +kernel
theorem D0_1055 : pgDecT 0 1055 = some (.iaload, 1) := by decide +kernel
theorem D0_1056 : pgDecT 0 1056 = some (.aload_n 0, 1) := by decide +kernel
theorem D0_1057 : pgDecT 0 1057 = some (.iload 4, 2) := by decide +kernel
theorem D0_1059 : pgDecT 0 1059 = some (.iconst 2, 1) := by decide +kernel
theorem D0_1060 : pgDecT 0 1060 = some (.iadd, 1) := by decide +kernel
theorem D0_1061 : pgDecT 0 1061 = some (.iaload, 1) := by decide +kernel
theorem D0_1062 : pgDecT 0 1062 = some (.invokevirtual 125, 3) := by decide +kernel
theorem I0_125 : pgIi 0 125 = some (199, 2, 12) := by decide +kernel
theorem D0_1065 : pgDecT 0 1065 = some (.istore 6, 2) := by decide +kernel
theorem D0_1067 : pgDecT 0 1067 = some (.aload_n 2, 1) := by decide +kernel
theorem D0_1068 : pgDecT 0 1068 = some (.invokevirtual 78, 3) := by decide +kernel
theorem D0_1071 : pgDecT 0 1071 = some (.iload 5, 2) := by decide +kernel
theorem D0_1073 : pgDecT 0 1073 = some (.if_icmp .eq 5, 3) := by decide +kernel
theorem D0_1078 : pgDecT 0 1078 = some (.iload 5, 2) := by decide +kernel
theorem D0_1080 : pgDecT 0 1080 = some (.ifCond .ne 22, 3) := by decide +kernel
theorem D0_1102 : pgDecT 0 1102 = some (.goto 127, 3) := by decide +kernel
theorem D0_1083 : pgDecT 0 1083 = some (.aload_n 3, 1) := by decide +kernel
theorem D0_1084 : pgDecT 0 1084 = some (.iconst 0, 1) := by decide +kernel
theorem D0_1085 : pgDecT 0 1085 = some (.laload, 1) := by decide +kernel
theorem D0_1086 : pgDecT 0 1086 = some (.iload 6, 2) := by decide +kernel
theorem D0_1088 : pgDecT 0 1088 = some (.ifCond .eq 7, 3) := by decide +kernel
theorem D0_1095 : pgDecT 0 1095 = some (.lconst 0, 1) := by decide +kernel
theorem D0_1096 : pgDecT 0 1096 = some (.lcmp, 1) := by decide +kernel
theorem D0_1097 : pgDecT 0 1097 = some (.ifCond .eq 5, 3) := by decide +kernel
theorem D0_1100 : pgDecT 0 1100 = some (.iconst 0, 1) := by decide +kernel
theorem D0_1101 : pgDecT 0 1101 = some (.ireturn, 1) := by decide +kernel
theorem D0_1091 : pgDecT 0 1091 = some (.lconst 1, 1) := by decide +kernel
theorem D0_1092 : pgDecT 0 1092 = some (.goto 4, 3) := by decide +kernel
theorem D0_1076 : pgDecT 0 1076 = some (.iconst 0, 1) := by decide +kernel
theorem D0_1077 : pgDecT 0 1077 = some (.ireturn, 1) := by decide +kernel
theorem D0_1105 : pgDecT 0 1105 = some (.aload_n 1, 1) := by decide +kernel
theorem D0_1106 : pgDecT 0 1106 = some (.aload_n 0, 1) := by decide +kernel
theorem D0_1107 : pgDecT 0 1107 = some (.iload 4, 2) := by decide +kernel
theorem D0_1109 : pgDecT 0 1109 = some (.iconst 1, 1) := by decide +kernel
theorem D0_1110 : pgDecT 0 1110 = some (.iadd, 1) := by decide +kernel
theorem D0_1111 : pgDecT 0 1111 = some (.iaload, 1) := by decide +kernel
theorem D0_1112 : pgDecT 0 1112 = some (.aload_n 0, 1) := by decide +kernel
theorem D0_1113 : pgDecT 0 1113 = some (.iload 4, 2) := by decide +kernel
theorem D0_1115 : pgDecT 0 1115 = some (.iconst 2, 1) := by decide +kernel
theorem D0_1116 : pgDecT 0 1116 = some (.iadd, 1) := by decide +kernel
theorem D0_1117 : pgDecT 0 1117 = some (.iaload, 1) := by decide +kernel
theorem D0_1118 : pgDecT 0 1118 = some (.aload_n 3, 1) := by decide +kernel
theorem D0_1119 : pgDecT 0 1119 = some (.invokestatic 126, 3) := by decide +kernel
theorem I0_126 : pgIi 0 126 = some (148, 4, 100) := by decide +kernel
theorem D0_1122 : pgDecT 0 1122 = some (.istore 5, 2) := by decide +kernel
theorem D0_1124 : pgDecT 0 1124 = some (.aload_n 2, 1) := by decide +kernel
theorem D0_1125 : pgDecT 0 1125 = some (.aload_n 0, 1) := by decide +kernel
theorem D0_1126 : pgDecT 0 1126 = some (.iload 4, 2) := by decide +kernel
theorem D0_1128 : pgDecT 0 1128 = some (.iconst 1, 1) := by decide +kernel
theorem D0_1129 : pgDecT 0 1129 = some (.iadd, 1) := by decide +kernel
theorem D0_1130 : pgDecT 0 1130 = some (.iaload, 1) := by decide +kernel
theorem D0_1131 : pgDecT 0 1131 = some (.aload_n 0, 1) := by decide +kernel
theorem D0_1132 : pgDecT 0 1132 = some (.iload 4, 2) := by decide +kernel
theorem D0_1134 : pgDecT 0 1134 = some (.iconst 2, 1) := by decide +kernel
theorem D0_1135 : pgDecT 0 1135 = some (.iadd, 1) := by decide +kernel
theorem D0_1136 : pgDecT 0 1136 = some (.iaload, 1) := by decide +kernel
theorem D0_1137 : pgDecT 0 1137 = some (.invokevirtual 128, 3) := by decide +kernel
theorem I0_128 : pgIi 0 128 = some (241, 2, 12) := by decide +kernel
theorem D0_1140 : pgDecT 0 1140 = some (.istore 6, 2) := by decide +kernel
theorem D0_1142 : pgDecT 0 1142 = some (.aload_n 2, 1) := by decide +kernel
theorem D0_1143 : pgDecT 0 1143 = some (.invokevirtual 78, 3) := by decide +kernel
theorem D0_1146 : pgDecT 0 1146 = some (.iload 5, 2) := by decide +kernel
theorem D0_1148 : pgDecT 0 1148 = some (.if_icmp .eq 5, 3) := by decide +kernel
theorem D0_1153 : pgDecT 0 1153 = some (.iload 5, 2) := by decide +kernel
theorem D0_1155 : pgDecT 0 1155 = some (.ifCond .ne 15, 3) := by decide +kernel
theorem D0_1170 : pgDecT 0 1170 = some (.goto 59, 3) := by decide +kernel
theorem D0_1158 : pgDecT 0 1158 = some (.aload_n 3, 1) := by decide +kernel
theorem D0_1159 : pgDecT 0 1159 = some (.iconst 0, 1) := by decide +kernel
theorem D0_1160 : pgDecT 0 1160 = some (.laload, 1) := by decide +kernel
theorem D0_1161 : pgDecT 0 1161 = some (.iload 6, 2) := by decide +kernel
theorem D0_1163 : pgDecT 0 1163 = some (.i2l, 1) := by decide +kernel
theorem D0_1164 : pgDecT 0 1164 = some (.lcmp, 1) := by decide +kernel
theorem D0_1165 : pgDecT 0 1165 = some (.ifCond .eq 5, 3) := by decide +kernel
theorem D0_1168 : pgDecT 0 1168 = some (.iconst 0, 1) := by decide +kernel
theorem D0_1169 : pgDecT 0 1169 = some (.ireturn, 1) := by decide +kernel
theorem D0_1151 : pgDecT 0 1151 = some (.iconst 0, 1) := by decide +kernel
theorem D0_1152 : pgDecT 0 1152 = some (.ireturn, 1) := by decide +kernel
theorem D0_1173 : pgDecT 0 1173 = some (.aload_n 1, 1) := by decide +kernel
theorem D0_1174 : pgDecT 0 1174 = some (.aload_n 0, 1) := by decide +kernel
theorem D0_1175 : pgDecT 0 1175 = some (.iload 4, 2) := by decide +kernel
theorem D0_1177 : pgDecT 0 1177 = some (.iconst 1, 1) := by decide +kernel
theorem D0_1178 : pgDecT 0 1178 = some (.iadd, 1) := by decide +kernel
theorem D0_1179 : pgDecT 0 1179 = some (.iaload, 1) := by decide +kernel
theorem D0_1180 : pgDecT 0 1180 = some (.aload_n 3, 1) := by decide +kernel
theorem D0_1181 : pgDecT 0 1181 = some (.invokestatic 129, 3) := by decide +kernel
theorem I0_129 : pgIi 0 129 = some (183, 3, 100) := by decide +kernel
theorem D0_1184 : pgDecT 0 1184 = some (.istore 5, 2) := by decide +kernel
theorem D0_1186 : pgDecT 0 1186 = some (.aload_n 2, 1) := by decide +kernel
theorem D0_1187 : pgDecT 0 1187 = some (.aload_n 0, 1) := by decide +kernel
theorem D0_1188 : pgDecT 0 1188 = some (.iload 4, 2) := by decide +kernel
theorem D0_1190 : pgDecT 0 1190 = some (.iconst 1, 1) := by decide +kernel
theorem D0_1191 : pgDecT 0 1191 = some (.iadd, 1) := by decide +kernel
theorem D0_1192 : pgDecT 0 1192 = some (.iaload, 1) := by decide +kernel
theorem D0_1193 : pgDecT 0 1193 = some (.invokevirtual 131, 3) := by decide +kernel
theorem I0_131 : pgIi 0 131 = some (253, 1, 12) := by decide +kernel
theorem D0_1196 : pgDecT 0 1196 = some (.istore 6, 2) := by decide +kernel
theorem D0_1198 : pgDecT 0 1198 = some (.aload_n 2, 1) := by decide +kernel
theorem D0_1199 : pgDecT 0 1199 = some (.invokevirtual 78, 3) := by decide +kernel
theorem D0_1202 : pgDecT 0 1202 = some (.iload 5, 2) := by decide +kernel
theorem D0_1204 : pgDecT 0 1204 = some (.if_icmp .eq 5, 3) := by decide +kernel
theorem D0_1209 : pgDecT 0 1209 = some (.iload 5, 2) := by decide +kernel
theorem D0_1211 : pgDecT 0 1211 = some (.ifCond .ne 15, 3) := by decide +kernel
theorem D0_1226 : pgDecT 0 1226 = some (.goto 3, 3) := by decide +kernel
theorem D0_1214 : pgDecT 0 1214 = some (.aload_n 3, 1) := by decide +kernel
theorem D0_1215 : pgDecT 0 1215 = some (.iconst 0, 1) := by decide +kernel
theorem D0_1216 : pgDecT 0 1216 = some (.laload, 1) := by decide +kernel
theorem D0_1217 : pgDecT 0 1217 = some (.iload 6, 2) := by decide +kernel
theorem D0_1219 : pgDecT 0 1219 = some (.i2l, 1) := by decide +kernel
theorem D0_1220 : pgDecT 0 1220 = some (.lcmp, 1) := by decide +kernel
theorem D0_1221 : pgDecT 0 1221 = some (.ifCond .eq 5, 3) := by decide +kernel
theorem D0_1224 : pgDecT 0 1224 = some (.iconst 0, 1) := by decide +kernel
theorem D0_1225 : pgDecT 0 1225 = some (.ireturn, 1) := by decide +kernel
theorem D0_1207 : pgDecT 0 1207 = some (.iconst 0, 1) := by decide +kernel
theorem D0_1208 : pgDecT 0 1208 = some (.ireturn, 1) := by decide +kernel
/-! 0: DictionaryHouseLaw.law ([I)Z -/
def l0 (L : Nat) (xs : Nat → Int32) : Nat → Nat → Mm → Int → Int → Int → Option (Int × Nat × Mm)
  | 0, _, _, _, _, _ => none
  | f + 1, 23, M, x4, _, _ => if rg ((L : Int) - 7) then (if ((L : Int) - 7) < x4 then (some (1, 0, M)) else (if 0 ≤ x4 ∧ x4 < (L : Int) then (if (bAnd ((xs (Int.toNat x4)).toInt) 31) = 0 then (if 0 ≤ (x4 + 1) ∧ (x4 + 1) < (L : Int) then (f15_0_109 M ((xs (Int.toNat (x4 + 1))).toInt)).bind (fun zq7 => adc zq7.1 ((f189 zq7.2 ((xs (Int.toNat (x4 + 1))).toInt)).bind (fun zq14 => (f188 zq14.2).bind (fun q20 => if q20 = zq7.1 then (if ¬ zq7.1 = 0 then (l0 L xs f 177 zq14.2 x4 zq7.1 zq14.1) else (if (zq14.2 109 (Int.toNat 0)) = zq14.1 then (l0 L xs f 177 zq14.2 x4 zq7.1 zq14.1) else none)) else none)))) else none) else (if (bAnd ((xs (Int.toNat x4)).toInt) 31) = 1 then (if 0 ≤ (x4 + 1) ∧ (x4 + 1) < (L : Int) then (if 0 ≤ (x4 + 2) ∧ (x4 + 2) < (L : Int) then (f22_0_109 M ((xs (Int.toNat (x4 + 1))).toInt) ((xs (Int.toNat (x4 + 2))).toInt)).bind (fun zq31 => adc zq31.1 ((f193 zq31.2 ((xs (Int.toNat (x4 + 1))).toInt) ((xs (Int.toNat (x4 + 2))).toInt)).bind (fun zq38 => (f188 zq38.2).bind (fun q44 => if q44 = zq31.1 then (if ¬ zq31.1 = 0 then (l0 L xs f 245 zq38.2 x4 zq31.1 zq38.1) else (if (zq38.2 109 (Int.toNat 0)) = zq38.1 then (l0 L xs f 245 zq38.2 x4 zq31.1 zq38.1) else none)) else none)))) else none) else none) else (if (bAnd ((xs (Int.toNat x4)).toInt) 31) = 2 then (if 0 ≤ (x4 + 1) ∧ (x4 + 1) < (L : Int) then (f24_0_109 M ((xs (Int.toNat (x4 + 1))).toInt)).bind (fun zq54 => adc zq54.1 ((f194 zq54.2 ((xs (Int.toNat (x4 + 1))).toInt)).bind (fun zq61 => (f188 zq61.2).bind (fun q67 => if q67 = zq54.1 then (if ¬ zq54.1 = 0 then (l0 L xs f 301 zq61.2 x4 zq54.1 zq61.1) else (if (zq61.2 109 (Int.toNat 0)) = zq61.1 then (l0 L xs f 301 zq61.2 x4 zq54.1 zq61.1) else none)) else none)))) else none) else (if (bAnd ((xs (Int.toNat x4)).toInt) 31) = 3 then (if 0 ≤ (x4 + 1) ∧ (x4 + 1) < (L : Int) then (if 0 ≤ (x4 + 2) ∧ (x4 + 2) < (L : Int) then (f29_0_109 M ((xs (Int.toNat (x4 + 1))).toInt) ((xs (Int.toNat (x4 + 2))).toInt)).bind (fun zq78 => adc zq78.1 ((f196 zq78.2 ((xs (Int.toNat (x4 + 1))).toInt) ((xs (Int.toNat (x4 + 2))).toInt)).bind (fun zq85 => (f188 zq85.2).bind (fun q91 => if q91 = zq78.1 then (if ¬ zq78.1 = 0 then (l0 L xs f 369 zq85.2 x4 zq78.1 zq85.1) else (if (zq85.2 109 (Int.toNat 0)) = zq85.1 then (l0 L xs f 369 zq85.2 x4 zq78.1 zq85.1) else none)) else none)))) else none) else none) else (if (bAnd ((xs (Int.toNat x4)).toInt) 31) = 4 then (if 0 ≤ (x4 + 1) ∧ (x4 + 1) < (L : Int) then (f36_0_109 M ((xs (Int.toNat (x4 + 1))).toInt)).bind (fun zq101 => adc zq101.1 ((f200 zq101.2 ((xs (Int.toNat (x4 + 1))).toInt)).bind (fun zq108 => (f188 zq108.2).bind (fun q114 => if q114 = zq101.1 then (if ¬ zq101.1 = 0 then (l0 L xs f 425 zq108.2 x4 zq101.1 zq108.1) else (if (zq108.2 109 (Int.toNat 0)) = zq108.1 then (l0 L xs f 425 zq108.2 x4 zq101.1 zq108.1) else none)) else none)))) else none) else (if (bAnd ((xs (Int.toNat x4)).toInt) 31) = 5 then (if 0 ≤ (x4 + 1) ∧ (x4 + 1) < (L : Int) then (f42_0_109 M ((xs (Int.toNat (x4 + 1))).toInt)).bind (fun zq124 => adc zq124.1 ((f202 zq124.2 ((xs (Int.toNat (x4 + 1))).toInt)).bind (fun zq131 => (f188 zq131.2).bind (fun q137 => if q137 = zq124.1 then (if ¬ zq124.1 = 0 then (l0 L xs f 481 zq131.2 x4 zq124.1 zq131.1) else (if (zq131.2 109 (Int.toNat 0)) = zq131.1 then (l0 L xs f 481 zq131.2 x4 zq124.1 zq131.1) else none)) else none)))) else none) else (if (bAnd ((xs (Int.toNat x4)).toInt) 31) = 6 then (if 0 ≤ (x4 + 1) ∧ (x4 + 1) < (L : Int) then (f44_0_109 M ((xs (Int.toNat (x4 + 1))).toInt)).bind (fun zq147 => adc zq147.1 ((f204 zq147.2 ((xs (Int.toNat (x4 + 1))).toInt)).bind (fun zq154 => (f188 zq154.2).bind (fun q160 => if q160 = zq147.1 then (if ¬ zq147.1 = 0 then (l0 L xs f 537 zq154.2 x4 zq147.1 zq154.1) else (if (zq154.2 109 (Int.toNat 0)) = zq154.1 then (l0 L xs f 537 zq154.2 x4 zq147.1 zq154.1) else none)) else none)))) else none) else (if (bAnd ((xs (Int.toNat x4)).toInt) 31) = 7 then (if 0 ≤ (x4 + 1) ∧ (x4 + 1) < (L : Int) then (f46_0_109 M ((xs (Int.toNat (x4 + 1))).toInt)).bind (fun zq170 => adc zq170.1 ((f205 zq170.2 ((xs (Int.toNat (x4 + 1))).toInt)).bind (fun zq177 => (f188 zq177.2).bind (fun q183 => if q183 = zq170.1 then (if ¬ zq170.1 = 0 then (l0 L xs f 593 zq177.2 x4 zq170.1 zq177.1) else (if (zq177.2 109 (Int.toNat 0)) = zq177.1 then (l0 L xs f 593 zq177.2 x4 zq170.1 zq177.1) else none)) else none)))) else none) else (if (bAnd ((xs (Int.toNat x4)).toInt) 31) = 8 then (if 0 ≤ (x4 + 1) ∧ (x4 + 1) < (L : Int) then (if 0 ≤ (x4 + 2) ∧ (x4 + 2) < (L : Int) then (f49_0_109 M ((xs (Int.toNat (x4 + 1))).toInt) ((xs (Int.toNat (x4 + 2))).toInt)).bind (fun zq194 => adc zq194.1 ((f207 zq194.2 ((xs (Int.toNat (x4 + 1))).toInt) ((xs (Int.toNat (x4 + 2))).toInt)).bind (fun zq201 => (f188 zq201.2).bind (fun q207 => if q207 = zq194.1 then (if ¬ zq194.1 = 0 then (l0 L xs f 661 zq201.2 x4 zq194.1 zq201.1) else (if (zq201.2 109 (Int.toNat 0)) = zq201.1 then (l0 L xs f 661 zq201.2 x4 zq194.1 zq201.1) else none)) else none)))) else none) else none) else (if (bAnd ((xs (Int.toNat x4)).toInt) 31) = 9 then (if 0 ≤ (x4 + 1) ∧ (x4 + 1) < (L : Int) then (if 0 ≤ (x4 + 2) ∧ (x4 + 2) < (L : Int) then (f51_0_109 M ((xs (Int.toNat (x4 + 1))).toInt) ((xs (Int.toNat (x4 + 2))).toInt)).bind (fun zq218 => adc zq218.1 ((f208 zq218.2 ((xs (Int.toNat (x4 + 1))).toInt) ((xs (Int.toNat (x4 + 2))).toInt)).bind (fun zq225 => (f188 zq225.2).bind (fun q231 => if q231 = zq218.1 then (if ¬ zq218.1 = 0 then (l0 L xs f 729 zq225.2 x4 zq218.1 zq225.1) else (if (zq225.2 109 (Int.toNat 0)) = zq225.1 then (l0 L xs f 729 zq225.2 x4 zq218.1 zq225.1) else none)) else none)))) else none) else none) else (if (bAnd ((xs (Int.toNat x4)).toInt) 31) = 10 then (if 0 ≤ (x4 + 1) ∧ (x4 + 1) < (L : Int) then (f54_0_109 M ((xs (Int.toNat (x4 + 1))).toInt)).bind (fun zq241 => adc zq241.1 ((f209 zq241.2 ((xs (Int.toNat (x4 + 1))).toInt)).bind (fun zq248 => (f188 zq248.2).bind (fun q254 => if q254 = zq241.1 then (if ¬ zq241.1 = 0 then (l0 L xs f 785 zq248.2 x4 zq241.1 zq248.1) else (if (zq248.2 109 (Int.toNat 0)) = zq248.1 then (l0 L xs f 785 zq248.2 x4 zq241.1 zq248.1) else none)) else none)))) else none) else (if (bAnd ((xs (Int.toNat x4)).toInt) 31) = 11 then (if 0 ≤ (x4 + 1) ∧ (x4 + 1) < (L : Int) then (if 0 ≤ (x4 + 2) ∧ (x4 + 2) < (L : Int) then (if 0 ≤ (x4 + 3) ∧ (x4 + 3) < (L : Int) then (if 0 ≤ (x4 + 4) ∧ (x4 + 4) < (L : Int) then (if 0 ≤ (x4 + 5) ∧ (x4 + 5) < (L : Int) then (if 0 ≤ (x4 + 6) ∧ (x4 + 6) < (L : Int) then (f57_0_109 M ((xs (Int.toNat (x4 + 1))).toInt) ((xs (Int.toNat (x4 + 2))).toInt) ((xs (Int.toNat (x4 + 3))).toInt) ((xs (Int.toNat (x4 + 4))).toInt) ((xs (Int.toNat (x4 + 5))).toInt) ((xs (Int.toNat (x4 + 6))).toInt)).bind (fun zq269 => adc zq269.1 ((f237 zq269.2 ((xs (Int.toNat (x4 + 1))).toInt) ((xs (Int.toNat (x4 + 2))).toInt) ((xs (Int.toNat (x4 + 3))).toInt) ((xs (Int.toNat (x4 + 4))).toInt) ((xs (Int.toNat (x4 + 5))).toInt) ((xs (Int.toNat (x4 + 6))).toInt)).bind (fun zq276 => (f188 zq276.2).bind (fun q282 => if q282 = zq269.1 then (if ¬ zq269.1 = 0 then (l0 L xs f 903 zq276.2 x4 zq269.1 zq276.1) else (if (zq276.2 109 (Int.toNat 0)) = zq276.1 then (l0 L xs f 903 zq276.2 x4 zq269.1 zq276.1) else none)) else none)))) else none) else none) else none) else none) else none) else none) else (if (bAnd ((xs (Int.toNat x4)).toInt) 31) = 12 then (if 0 ≤ (x4 + 1) ∧ (x4 + 1) < (L : Int) then (f125_0_109 M ((xs (Int.toNat (x4 + 1))).toInt)).bind (fun zq292 => adc zq292.1 ((f210 zq292.2 ((xs (Int.toNat (x4 + 1))).toInt)).bind (fun zq299 => (f188 zq299.2).bind (fun q305 => if q305 = zq292.1 then (if ¬ zq292.1 = 0 then (l0 L xs f 959 zq299.2 x4 zq292.1 zq299.1) else (if (zq299.2 109 (Int.toNat 0)) = zq299.1 then (l0 L xs f 959 zq299.2 x4 zq292.1 zq299.1) else none)) else none)))) else none) else (if (bAnd ((xs (Int.toNat x4)).toInt) 31) = 13 then (if 0 ≤ (x4 + 1) ∧ (x4 + 1) < (L : Int) then (if 0 ≤ (x4 + 2) ∧ (x4 + 2) < (L : Int) then (f143_0_109 M ((xs (Int.toNat (x4 + 1))).toInt) ((xs (Int.toNat (x4 + 2))).toInt)).bind (fun zq316 => adc zq316.1 ((f236 zq316.2 ((xs (Int.toNat (x4 + 1))).toInt) ((xs (Int.toNat (x4 + 2))).toInt)).bind (fun zq323 => (f188 zq323.2).bind (fun q329 => if q329 = zq316.1 then (if ¬ zq316.1 = 0 then (l0 L xs f 1027 zq323.2 x4 zq316.1 zq323.1) else (if (zq323.2 109 (Int.toNat 0)) = zq323.1 then (l0 L xs f 1027 zq323.2 x4 zq316.1 zq323.1) else none)) else none)))) else none) else none) else (if (bAnd ((xs (Int.toNat x4)).toInt) 31) = 14 then (if 0 ≤ (x4 + 1) ∧ (x4 + 1) < (L : Int) then (if 0 ≤ (x4 + 2) ∧ (x4 + 2) < (L : Int) then (f145_0_109 M ((xs (Int.toNat (x4 + 1))).toInt) ((xs (Int.toNat (x4 + 2))).toInt)).bind (fun zq340 => adc zq340.1 ((f199 zq340.2 ((xs (Int.toNat (x4 + 1))).toInt) ((xs (Int.toNat (x4 + 2))).toInt)).bind (fun zq347 => (f188 zq347.2).bind (fun q353 => if q353 = zq340.1 then (if ¬ zq340.1 = 0 then (l0 L xs f 1102 zq347.2 x4 zq340.1 zq347.1) else (if zq347.1 = 0 then (if (zq347.2 109 (Int.toNat 0)) = 0 then (l0 L xs f 1102 zq347.2 x4 zq340.1 zq347.1) else none) else (if (zq347.2 109 (Int.toNat 0)) = 1 then (l0 L xs f 1102 zq347.2 x4 zq340.1 zq347.1) else none))) else none)))) else none) else none) else (if (bAnd ((xs (Int.toNat x4)).toInt) 31) = 15 then (if 0 ≤ (x4 + 1) ∧ (x4 + 1) < (L : Int) then (if 0 ≤ (x4 + 2) ∧ (x4 + 2) < (L : Int) then (f148_0_109 M ((xs (Int.toNat (x4 + 1))).toInt) ((xs (Int.toNat (x4 + 2))).toInt)).bind (fun zq366 => adc zq366.1 ((f241 zq366.2 ((xs (Int.toNat (x4 + 1))).toInt) ((xs (Int.toNat (x4 + 2))).toInt)).bind (fun zq373 => (f188 zq373.2).bind (fun q379 => if q379 = zq366.1 then (if ¬ zq366.1 = 0 then (l0 L xs f 1170 zq373.2 x4 zq366.1 zq373.1) else (if (zq373.2 109 (Int.toNat 0)) = zq373.1 then (l0 L xs f 1170 zq373.2 x4 zq366.1 zq373.1) else none)) else none)))) else none) else none) else (if (bAnd ((xs (Int.toNat x4)).toInt) 31) = 16 then (if 0 ≤ (x4 + 1) ∧ (x4 + 1) < (L : Int) then (f183_0_109 M ((xs (Int.toNat (x4 + 1))).toInt)).bind (fun zq389 => adc zq389.1 ((f253 zq389.2 ((xs (Int.toNat (x4 + 1))).toInt)).bind (fun zq396 => (f188 zq396.2).bind (fun q402 => if q402 = zq389.1 then (if ¬ zq389.1 = 0 then (l0 L xs f 1226 zq396.2 x4 zq389.1 zq396.1) else (if (zq396.2 109 (Int.toNat 0)) = zq396.1 then (l0 L xs f 1226 zq396.2 x4 zq389.1 zq396.1) else none)) else none)))) else none) else (l0 L xs f 1229 M x4 0 0)))))))))))))))))) else none)) else none
  | f + 1, 177, M, x4, x5, x6 => l0 L xs f 1229 M x4 0 0
  | f + 1, 245, M, x4, x5, x6 => l0 L xs f 1229 M x4 0 0
  | f + 1, 301, M, x4, x5, x6 => l0 L xs f 1229 M x4 0 0
  | f + 1, 369, M, x4, x5, x6 => l0 L xs f 1229 M x4 0 0
  | f + 1, 425, M, x4, x5, x6 => l0 L xs f 1229 M x4 0 0
  | f + 1, 481, M, x4, x5, x6 => l0 L xs f 1229 M x4 0 0
  | f + 1, 537, M, x4, x5, x6 => l0 L xs f 1229 M x4 0 0
  | f + 1, 593, M, x4, x5, x6 => l0 L xs f 1229 M x4 0 0
  | f + 1, 661, M, x4, x5, x6 => l0 L xs f 1229 M x4 0 0
  | f + 1, 729, M, x4, x5, x6 => l0 L xs f 1229 M x4 0 0
  | f + 1, 785, M, x4, x5, x6 => l0 L xs f 1229 M x4 0 0
  | f + 1, 903, M, x4, x5, x6 => l0 L xs f 1229 M x4 0 0
  | f + 1, 959, M, x4, x5, x6 => l0 L xs f 1229 M x4 0 0
  | f + 1, 1027, M, x4, x5, x6 => l0 L xs f 1229 M x4 0 0
  | f + 1, 1102, M, x4, x5, x6 => l0 L xs f 1229 M x4 0 0
  | f + 1, 1170, M, x4, x5, x6 => l0 L xs f 1229 M x4 0 0
  | f + 1, 1226, M, x4, x5, x6 => l0 L xs f 1229 M x4 0 0
  | f + 1, 1229, M, x4, _, _ => if rg (x4 + 7) then (l0 L xs f 23 M (x4 + 7) 0 0) else none
  | _, _, _, _, _, _ => none
theorem d0 {L : Nat} {xs : Nat → Int32} (f : Nat) : (∀ (M : Mm) (x4 : Int) (h : mvH) (v : Int) (n : Nat) (M' : Mm), rg (L : Int) → l0 L xs f 23 M x4 0 0 = some (v, n, M') → rp h M → rg x4 → evx L xs 47 0 23 [(0, .inr (.inr (.inr 1))), (1, .inr (.inr (.inl (some 0)))), (2, .inr (.inr (.inl (some 53)))), (3, .inr (.inr (.inl (some 109)))), (4, .inl (iz x4))] [] h (.inl (some (.inl v)), n) M') ∧ (∀ (M : Mm) (x4 x5 x6 : Int) (h : mvH) (v : Int) (n : Nat) (M' : Mm), rg (L : Int) → l0 L xs f 177 M x4 x5 x6 = some (v, n, M') → rp h M → rg x4 → rg x5 → rg x6 → evx L xs 47 0 177 [(0, .inr (.inr (.inr 1))), (1, .inr (.inr (.inl (some 0)))), (2, .inr (.inr (.inl (some 53)))), (3, .inr (.inr (.inl (some 109)))), (4, .inl (iz x4)), (5, .inl (iz x5)), (6, .inl (iz x6))] [] h (.inl (some (.inl v)), n) M') ∧ (∀ (M : Mm) (x4 x5 x6 : Int) (h : mvH) (v : Int) (n : Nat) (M' : Mm), rg (L : Int) → l0 L xs f 245 M x4 x5 x6 = some (v, n, M') → rp h M → rg x4 → rg x5 → rg x6 → evx L xs 47 0 245 [(0, .inr (.inr (.inr 1))), (1, .inr (.inr (.inl (some 0)))), (2, .inr (.inr (.inl (some 53)))), (3, .inr (.inr (.inl (some 109)))), (4, .inl (iz x4)), (5, .inl (iz x5)), (6, .inl (iz x6))] [] h (.inl (some (.inl v)), n) M') ∧ (∀ (M : Mm) (x4 x5 x6 : Int) (h : mvH) (v : Int) (n : Nat) (M' : Mm), rg (L : Int) → l0 L xs f 301 M x4 x5 x6 = some (v, n, M') → rp h M → rg x4 → rg x5 → rg x6 → evx L xs 47 0 301 [(0, .inr (.inr (.inr 1))), (1, .inr (.inr (.inl (some 0)))), (2, .inr (.inr (.inl (some 53)))), (3, .inr (.inr (.inl (some 109)))), (4, .inl (iz x4)), (5, .inl (iz x5)), (6, .inl (iz x6))] [] h (.inl (some (.inl v)), n) M') ∧ (∀ (M : Mm) (x4 x5 x6 : Int) (h : mvH) (v : Int) (n : Nat) (M' : Mm), rg (L : Int) → l0 L xs f 369 M x4 x5 x6 = some (v, n, M') → rp h M → rg x4 → rg x5 → rg x6 → evx L xs 47 0 369 [(0, .inr (.inr (.inr 1))), (1, .inr (.inr (.inl (some 0)))), (2, .inr (.inr (.inl (some 53)))), (3, .inr (.inr (.inl (some 109)))), (4, .inl (iz x4)), (5, .inl (iz x5)), (6, .inl (iz x6))] [] h (.inl (some (.inl v)), n) M') ∧ (∀ (M : Mm) (x4 x5 x6 : Int) (h : mvH) (v : Int) (n : Nat) (M' : Mm), rg (L : Int) → l0 L xs f 425 M x4 x5 x6 = some (v, n, M') → rp h M → rg x4 → rg x5 → rg x6 → evx L xs 47 0 425 [(0, .inr (.inr (.inr 1))), (1, .inr (.inr (.inl (some 0)))), (2, .inr (.inr (.inl (some 53)))), (3, .inr (.inr (.inl (some 109)))), (4, .inl (iz x4)), (5, .inl (iz x5)), (6, .inl (iz x6))] [] h (.inl (some (.inl v)), n) M') ∧ (∀ (M : Mm) (x4 x5 x6 : Int) (h : mvH) (v : Int) (n : Nat) (M' : Mm), rg (L : Int) → l0 L xs f 481 M x4 x5 x6 = some (v, n, M') → rp h M → rg x4 → rg x5 → rg x6 → evx L xs 47 0 481 [(0, .inr (.inr (.inr 1))), (1, .inr (.inr (.inl (some 0)))), (2, .inr (.inr (.inl (some 53)))), (3, .inr (.inr (.inl (some 109)))), (4, .inl (iz x4)), (5, .inl (iz x5)), (6, .inl (iz x6))] [] h (.inl (some (.inl v)), n) M') ∧ (∀ (M : Mm) (x4 x5 x6 : Int) (h : mvH) (v : Int) (n : Nat) (M' : Mm), rg (L : Int) → l0 L xs f 537 M x4 x5 x6 = some (v, n, M') → rp h M → rg x4 → rg x5 → rg x6 → evx L xs 47 0 537 [(0, .inr (.inr (.inr 1))), (1, .inr (.inr (.inl (some 0)))), (2, .inr (.inr (.inl (some 53)))), (3, .inr (.inr (.inl (some 109)))), (4, .inl (iz x4)), (5, .inl (iz x5)), (6, .inl (iz x6))] [] h (.inl (some (.inl v)), n) M') ∧ (∀ (M : Mm) (x4 x5 x6 : Int) (h : mvH) (v : Int) (n : Nat) (M' : Mm), rg (L : Int) → l0 L xs f 593 M x4 x5 x6 = some (v, n, M') → rp h M → rg x4 → rg x5 → rg x6 → evx L xs 47 0 593 [(0, .inr (.inr (.inr 1))), (1, .inr (.inr (.inl (some 0)))), (2, .inr (.inr (.inl (some 53)))), (3, .inr (.inr (.inl (some 109)))), (4, .inl (iz x4)), (5, .inl (iz x5)), (6, .inl (iz x6))] [] h (.inl (some (.inl v)), n) M') ∧ (∀ (M : Mm) (x4 x5 x6 : Int) (h : mvH) (v : Int) (n : Nat) (M' : Mm), rg (L : Int) → l0 L xs f 661 M x4 x5 x6 = some (v, n, M') → rp h M → rg x4 → rg x5 → rg x6 → evx L xs 47 0 661 [(0, .inr (.inr (.inr 1))), (1, .inr (.inr (.inl (some 0)))), (2, .inr (.inr (.inl (some 53)))), (3, .inr (.inr (.inl (some 109)))), (4, .inl (iz x4)), (5, .inl (iz x5)), (6, .inl (iz x6))] [] h (.inl (some (.inl v)), n) M') ∧ (∀ (M : Mm) (x4 x5 x6 : Int) (h : mvH) (v : Int) (n : Nat) (M' : Mm), rg (L : Int) → l0 L xs f 729 M x4 x5 x6 = some (v, n, M') → rp h M → rg x4 → rg x5 → rg x6 → evx L xs 47 0 729 [(0, .inr (.inr (.inr 1))), (1, .inr (.inr (.inl (some 0)))), (2, .inr (.inr (.inl (some 53)))), (3, .inr (.inr (.inl (some 109)))), (4, .inl (iz x4)), (5, .inl (iz x5)), (6, .inl (iz x6))] [] h (.inl (some (.inl v)), n) M') ∧ (∀ (M : Mm) (x4 x5 x6 : Int) (h : mvH) (v : Int) (n : Nat) (M' : Mm), rg (L : Int) → l0 L xs f 785 M x4 x5 x6 = some (v, n, M') → rp h M → rg x4 → rg x5 → rg x6 → evx L xs 47 0 785 [(0, .inr (.inr (.inr 1))), (1, .inr (.inr (.inl (some 0)))), (2, .inr (.inr (.inl (some 53)))), (3, .inr (.inr (.inl (some 109)))), (4, .inl (iz x4)), (5, .inl (iz x5)), (6, .inl (iz x6))] [] h (.inl (some (.inl v)), n) M') ∧ (∀ (M : Mm) (x4 x5 x6 : Int) (h : mvH) (v : Int) (n : Nat) (M' : Mm), rg (L : Int) → l0 L xs f 903 M x4 x5 x6 = some (v, n, M') → rp h M → rg x4 → rg x5 → rg x6 → evx L xs 47 0 903 [(0, .inr (.inr (.inr 1))), (1, .inr (.inr (.inl (some 0)))), (2, .inr (.inr (.inl (some 53)))), (3, .inr (.inr (.inl (some 109)))), (4, .inl (iz x4)), (5, .inl (iz x5)), (6, .inl (iz x6))] [] h (.inl (some (.inl v)), n) M') ∧ (∀ (M : Mm) (x4 x5 x6 : Int) (h : mvH) (v : Int) (n : Nat) (M' : Mm), rg (L : Int) → l0 L xs f 959 M x4 x5 x6 = some (v, n, M') → rp h M → rg x4 → rg x5 → rg x6 → evx L xs 47 0 959 [(0, .inr (.inr (.inr 1))), (1, .inr (.inr (.inl (some 0)))), (2, .inr (.inr (.inl (some 53)))), (3, .inr (.inr (.inl (some 109)))), (4, .inl (iz x4)), (5, .inl (iz x5)), (6, .inl (iz x6))] [] h (.inl (some (.inl v)), n) M') ∧ (∀ (M : Mm) (x4 x5 x6 : Int) (h : mvH) (v : Int) (n : Nat) (M' : Mm), rg (L : Int) → l0 L xs f 1027 M x4 x5 x6 = some (v, n, M') → rp h M → rg x4 → rg x5 → rg x6 → evx L xs 47 0 1027 [(0, .inr (.inr (.inr 1))), (1, .inr (.inr (.inl (some 0)))), (2, .inr (.inr (.inl (some 53)))), (3, .inr (.inr (.inl (some 109)))), (4, .inl (iz x4)), (5, .inl (iz x5)), (6, .inl (iz x6))] [] h (.inl (some (.inl v)), n) M') ∧ (∀ (M : Mm) (x4 x5 x6 : Int) (h : mvH) (v : Int) (n : Nat) (M' : Mm), rg (L : Int) → l0 L xs f 1102 M x4 x5 x6 = some (v, n, M') → rp h M → rg x4 → rg x5 → rg x6 → evx L xs 47 0 1102 [(0, .inr (.inr (.inr 1))), (1, .inr (.inr (.inl (some 0)))), (2, .inr (.inr (.inl (some 53)))), (3, .inr (.inr (.inl (some 109)))), (4, .inl (iz x4)), (5, .inl (iz x5)), (6, .inl (iz x6))] [] h (.inl (some (.inl v)), n) M') ∧ (∀ (M : Mm) (x4 x5 x6 : Int) (h : mvH) (v : Int) (n : Nat) (M' : Mm), rg (L : Int) → l0 L xs f 1170 M x4 x5 x6 = some (v, n, M') → rp h M → rg x4 → rg x5 → rg x6 → evx L xs 47 0 1170 [(0, .inr (.inr (.inr 1))), (1, .inr (.inr (.inl (some 0)))), (2, .inr (.inr (.inl (some 53)))), (3, .inr (.inr (.inl (some 109)))), (4, .inl (iz x4)), (5, .inl (iz x5)), (6, .inl (iz x6))] [] h (.inl (some (.inl v)), n) M') ∧ (∀ (M : Mm) (x4 x5 x6 : Int) (h : mvH) (v : Int) (n : Nat) (M' : Mm), rg (L : Int) → l0 L xs f 1226 M x4 x5 x6 = some (v, n, M') → rp h M → rg x4 → rg x5 → rg x6 → evx L xs 47 0 1226 [(0, .inr (.inr (.inr 1))), (1, .inr (.inr (.inl (some 0)))), (2, .inr (.inr (.inl (some 53)))), (3, .inr (.inr (.inl (some 109)))), (4, .inl (iz x4)), (5, .inl (iz x5)), (6, .inl (iz x6))] [] h (.inl (some (.inl v)), n) M') ∧ (∀ (M : Mm) (x4 : Int) (h : mvH) (v : Int) (n : Nat) (M' : Mm), rg (L : Int) → l0 L xs f 1229 M x4 0 0 = some (v, n, M') → rp h M → rg x4 → evx L xs 47 0 1229 [(0, .inr (.inr (.inr 1))), (1, .inr (.inr (.inl (some 0)))), (2, .inr (.inr (.inl (some 53)))), (3, .inr (.inr (.inl (some 109)))), (4, .inl (iz x4))] [] h (.inl (some (.inl v)), n) M') := by
  induction f with
  | zero => exact ⟨(fun M x4 h v n M' _ hs _ _ => by cases hs), (fun M x4 x5 x6 h v n M' _ hs _ _ _ _ => by cases hs), (fun M x4 x5 x6 h v n M' _ hs _ _ _ _ => by cases hs), (fun M x4 x5 x6 h v n M' _ hs _ _ _ _ => by cases hs), (fun M x4 x5 x6 h v n M' _ hs _ _ _ _ => by cases hs), (fun M x4 x5 x6 h v n M' _ hs _ _ _ _ => by cases hs), (fun M x4 x5 x6 h v n M' _ hs _ _ _ _ => by cases hs), (fun M x4 x5 x6 h v n M' _ hs _ _ _ _ => by cases hs), (fun M x4 x5 x6 h v n M' _ hs _ _ _ _ => by cases hs), (fun M x4 x5 x6 h v n M' _ hs _ _ _ _ => by cases hs), (fun M x4 x5 x6 h v n M' _ hs _ _ _ _ => by cases hs), (fun M x4 x5 x6 h v n M' _ hs _ _ _ _ => by cases hs), (fun M x4 x5 x6 h v n M' _ hs _ _ _ _ => by cases hs), (fun M x4 x5 x6 h v n M' _ hs _ _ _ _ => by cases hs), (fun M x4 x5 x6 h v n M' _ hs _ _ _ _ => by cases hs), (fun M x4 x5 x6 h v n M' _ hs _ _ _ _ => by cases hs), (fun M x4 x5 x6 h v n M' _ hs _ _ _ _ => by cases hs), (fun M x4 x5 x6 h v n M' _ hs _ _ _ _ => by cases hs), (fun M x4 h v n M' _ hs _ _ => by cases hs)⟩
  | succ f ih =>
    refine ⟨?_, ?_, ?_, ?_, ?_, ?_, ?_, ?_, ?_, ?_, ?_, ?_, ?_, ?_, ?_, ?_, ?_, ?_, ?_⟩
    · intro M x4 h v n M' hL hs R rx4
      rw [l0] at hs
      refine evx_F E0 D0_23 rfl rfl ?_
      refine evx_F E0 D0_25 rfl rfl ?_
      refine evx_tln E0 D0_26 ?_
      refine evx_k (k := 7) E0 D0_27 rfl (by decide) ?_
      refine evx_sub E0 D0_29 ?_
      obtain ⟨k1, hs⟩ := ck hs
      by_cases cb2 : ((L : Int) - 7) < x4
      · rw [if_pos cb2] at hs
        refine evx_F E0 D0_30 rfl (ifT (c2_gt_T rx4 k1 cb2)) ?_
        refine evx_F E0 D0_1235 rfl rfl ?_
        cases hs
        exact evx_ret E0 D0_1236 rfl (fun d => rfl) rfl (show rg _ from (by decide)) R
      · rw [if_neg cb2] at hs
        refine evx_F E0 D0_30 rfl (ifF (c2_gt_F rx4 k1 (by omega))) ?_
        refine evx_F E0 D0_33 rfl rfl ?_
        refine evx_F E0 D0_34 rfl rfl ?_
        obtain ⟨k3, hs⟩ := ck hs
        refine evx_tab E0 D0_36 (by decide) rfl (Int.ofNat_lt.mp hL.2) k3 (iz_back _).symm ?_
        refine evx_k (k := 31) E0 D0_37 rfl (by decide) ?_
        refine evx_iand E0 D0_39 ?_
        by_cases cb4 : (bAnd ((xs (Int.toNat x4)).toInt) 31) = 0
        · rw [if_pos cb4] at hs
          refine evx_tsi (0) E0 D0_40 cb4 (by decide) (by decide) rfl rfl ?_
          refine evx_F E0 D0_124 rfl rfl ?_
          refine evx_F E0 D0_125 rfl rfl ?_
          refine evx_F E0 D0_126 rfl rfl ?_
          refine evx_F E0 D0_128 rfl rfl ?_
          refine evx_add E0 D0_129 ?_
          obtain ⟨k5, hs⟩ := ck hs
          refine evx_tab E0 D0_130 (by decide) rfl (Int.ofNat_lt.mp hL.2) k5 (iz_back _).symm ?_
          refine evx_F E0 D0_131 rfl rfl ?_
          obtain ⟨⟨q7, M11⟩, e6, hs⟩ := Option.bind_eq_some_iff.mp hs
          dsimp only at hs
          obtain ⟨n12, hn12, rfl⟩ := adc_inv hs
          have hs := hn12
          refine evx_csn (D := 46) (n1 := ad q7) (n2 := n12) E0 D0_132 I0_72 rfl rfl (Nat.le_of_ble_eq_true rfl) ⟨rfl, Nat.le_of_ble_eq_true rfl⟩ rfl (evx_up (Nat.le_of_ble_eq_true rfl) (c15_0_109 R (iz_rg _) e6)) ?_
          intro h8 R9 w10
          have w10 : rg q7 := w10
          show evx _ _ _ _ _ _ (.inl (iz q7) :: _) _ _ _
          refine evx_F E0 D0_135 rfl rfl ?_
          refine evx_F E0 D0_137 rfl rfl ?_
          refine evx_F E0 D0_138 rfl rfl ?_
          refine evx_F E0 D0_139 rfl rfl ?_
          refine evx_F E0 D0_141 rfl rfl ?_
          refine evx_add E0 D0_142 ?_
          refine evx_tab E0 D0_143 (by decide) rfl (Int.ofNat_lt.mp hL.2) k5 (iz_back _).symm ?_
          obtain ⟨⟨q14, M18⟩, e13, hs⟩ := Option.bind_eq_some_iff.mp hs
          dsimp only at hs
          refine evx_cv (D := 46) E0 D0_144 I0_77 rfl rfl H53 ⟨Nat.le_of_ble_eq_true rfl, Nat.le_of_ble_eq_true rfl⟩ ⟨rfl, Nat.le_of_ble_eq_true rfl⟩ rfl R9 (evx_up (Nat.le_of_ble_eq_true rfl) (c189 R9 (iz_rg _) e13)) ?_
          intro h15 R16 w17
          have w17 : rg q14 := w17
          show evx _ _ _ _ _ _ (.inl (iz q14) :: _) _ _ _
          refine evx_F E0 D0_147 rfl rfl ?_
          refine evx_F E0 D0_149 rfl rfl ?_
          obtain ⟨q20, e19, hs⟩ := Option.bind_eq_some_iff.mp hs
          refine evx_cv (D := 46) E0 D0_150 I0_78 rfl rfl H53 ⟨Nat.le_of_ble_eq_true rfl, Nat.le_of_ble_eq_true rfl⟩ ⟨rfl, Nat.le_of_ble_eq_true rfl⟩ rfl R16 (evx_up (Nat.le_of_ble_eq_true rfl) (c188 R16  e19)) ?_
          intro h21 R22 w23
          have w23 : rg q20 := w23
          show evx _ _ _ _ _ _ (.inl (iz q20) :: _) _ _ _
          refine evx_F E0 D0_153 rfl rfl ?_
          by_cases cb24 : q20 = q7
          · rw [if_pos cb24] at hs
            refine evx_F E0 D0_155 rfl (ifT (c2_eq_T w23 w10 cb24)) ?_
            refine evx_F E0 D0_160 rfl rfl ?_
            by_cases cb25 : ¬ q7 = 0
            · rw [if_pos cb25] at hs
              refine evx_F E0 D0_162 rfl (ifT (c1_ne_T w10 cb25)) ?_
              show evx _ _ _ _ _ [(6, .inl (iz q14)), (5, .inl (iz q7)), (0, .inr (.inr (.inr 1))), (1, .inr (.inr (.inl (some 0)))), (2, .inr (.inr (.inl (some 53)))), (3, .inr (.inr (.inl (some 109)))), (4, .inl (iz x4))] _ _ _ _
              exact evx_lv (lvLe_mk (fm rfl (fm rfl (fm rfl (fm rfl (fm rfl (fm rfl (fm rfl fn))))))) (fm rfl (fm rfl (fm rfl (fm rfl (fm rfl (fm rfl (fm rfl fn))))))) (fm rfl (fm rfl (fm rfl (fm rfl (fm rfl (fm rfl (fm rfl fn)))))))) (ih.2.1 _ _ _ _ _ _ _ _ hL hs R22 rx4 w10 w17)
            · rw [if_neg cb25] at hs
              refine evx_F E0 D0_162 rfl (ifF (c1_ne_F w10 (by omega))) ?_
              refine evx_F E0 D0_165 rfl rfl ?_
              refine evx_F E0 D0_166 rfl rfl ?_
              refine evx_lal E0 D0_167 H109 (by decide) R22 (by decide) ?_
              refine evx_F E0 D0_168 rfl rfl ?_
              refine evx_F E0 D0_170 rfl rfl ?_
              refine evx_F E0 D0_171 rfl rfl ?_
              by_cases cb26 : (M18 109 (Int.toNat 0)) = q14
              · rw [if_pos cb26] at hs
                refine evx_F E0 D0_172 rfl (ifT (lc_eq_T (R22.1 109 (Int.toNat 0)) w17 cb26)) ?_
                show evx _ _ _ _ _ [(6, .inl (iz q14)), (5, .inl (iz q7)), (0, .inr (.inr (.inr 1))), (1, .inr (.inr (.inl (some 0)))), (2, .inr (.inr (.inl (some 53)))), (3, .inr (.inr (.inl (some 109)))), (4, .inl (iz x4))] _ _ _ _
                exact evx_lv (lvLe_mk (fm rfl (fm rfl (fm rfl (fm rfl (fm rfl (fm rfl (fm rfl fn))))))) (fm rfl (fm rfl (fm rfl (fm rfl (fm rfl (fm rfl (fm rfl fn))))))) (fm rfl (fm rfl (fm rfl (fm rfl (fm rfl (fm rfl (fm rfl fn)))))))) (ih.2.1 _ _ _ _ _ _ _ _ hL hs R22 rx4 w10 w17)
              · rw [if_neg cb26] at hs
                refine evx_F E0 D0_172 rfl (ifF (lc_eq_F (R22.1 109 (Int.toNat 0)) w17 cb26)) ?_
                refine evx_F E0 D0_175 rfl rfl ?_
                cases hs
          · rw [if_neg cb24] at hs
            refine evx_F E0 D0_155 rfl (ifF (c2_eq_F w23 w10 (by omega))) ?_
            refine evx_F E0 D0_158 rfl rfl ?_
            cases hs
        · rw [if_neg cb4] at hs
          by_cases cb27 : (bAnd ((xs (Int.toNat x4)).toInt) 31) = 1
          · rw [if_pos cb27] at hs
            refine evx_tsi (1) E0 D0_40 cb27 (by decide) (by decide) rfl rfl ?_
            refine evx_F E0 D0_180 rfl rfl ?_
            refine evx_F E0 D0_181 rfl rfl ?_
            refine evx_F E0 D0_182 rfl rfl ?_
            refine evx_F E0 D0_184 rfl rfl ?_
            refine evx_add E0 D0_185 ?_
            obtain ⟨k28, hs⟩ := ck hs
            refine evx_tab E0 D0_186 (by decide) rfl (Int.ofNat_lt.mp hL.2) k28 (iz_back _).symm ?_
            refine evx_F E0 D0_187 rfl rfl ?_
            refine evx_F E0 D0_188 rfl rfl ?_
            refine evx_F E0 D0_190 rfl rfl ?_
            refine evx_add E0 D0_191 ?_
            obtain ⟨k29, hs⟩ := ck hs
            refine evx_tab E0 D0_192 (by decide) rfl (Int.ofNat_lt.mp hL.2) k29 (iz_back _).symm ?_
            refine evx_F E0 D0_193 rfl rfl ?_
            obtain ⟨⟨q31, M35⟩, e30, hs⟩ := Option.bind_eq_some_iff.mp hs
            dsimp only at hs
            obtain ⟨n36, hn36, rfl⟩ := adc_inv hs
            have hs := hn36
            refine evx_csn (D := 46) (n1 := ad q31) (n2 := n36) E0 D0_194 I0_82 rfl rfl (Nat.le_of_ble_eq_true rfl) ⟨rfl, Nat.le_of_ble_eq_true rfl⟩ rfl (evx_up (Nat.le_of_ble_eq_true rfl) (c22_0_109 R (iz_rg _) (iz_rg _) e30)) ?_
            intro h32 R33 w34
            have w34 : rg q31 := w34
            show evx _ _ _ _ _ _ (.inl (iz q31) :: _) _ _ _
            refine evx_F E0 D0_197 rfl rfl ?_
            refine evx_F E0 D0_199 rfl rfl ?_
            refine evx_F E0 D0_200 rfl rfl ?_
            refine evx_F E0 D0_201 rfl rfl ?_
            refine evx_F E0 D0_203 rfl rfl ?_
            refine evx_add E0 D0_204 ?_
            refine evx_tab E0 D0_205 (by decide) rfl (Int.ofNat_lt.mp hL.2) k28 (iz_back _).symm ?_
            refine evx_F E0 D0_206 rfl rfl ?_
            refine evx_F E0 D0_207 rfl rfl ?_
            refine evx_F E0 D0_209 rfl rfl ?_
            refine evx_add E0 D0_210 ?_
            refine evx_tab E0 D0_211 (by decide) rfl (Int.ofNat_lt.mp hL.2) k29 (iz_back _).symm ?_
            obtain ⟨⟨q38, M42⟩, e37, hs⟩ := Option.bind_eq_some_iff.mp hs
            dsimp only at hs
            refine evx_cv (D := 46) E0 D0_212 I0_85 rfl rfl H53 ⟨Nat.le_of_ble_eq_true rfl, Nat.le_of_ble_eq_true rfl⟩ ⟨rfl, Nat.le_of_ble_eq_true rfl⟩ rfl R33 (evx_up (Nat.le_of_ble_eq_true rfl) (c193 R33 (iz_rg _) (iz_rg _) e37)) ?_
            intro h39 R40 w41
            have w41 : rg q38 := w41
            show evx _ _ _ _ _ _ (.inl (iz q38) :: _) _ _ _
            refine evx_F E0 D0_215 rfl rfl ?_
            refine evx_F E0 D0_217 rfl rfl ?_
            obtain ⟨q44, e43, hs⟩ := Option.bind_eq_some_iff.mp hs
            refine evx_cv (D := 46) E0 D0_218 I0_78 rfl rfl H53 ⟨Nat.le_of_ble_eq_true rfl, Nat.le_of_ble_eq_true rfl⟩ ⟨rfl, Nat.le_of_ble_eq_true rfl⟩ rfl R40 (evx_up (Nat.le_of_ble_eq_true rfl) (c188 R40  e43)) ?_
            intro h45 R46 w47
            have w47 : rg q44 := w47
            show evx _ _ _ _ _ _ (.inl (iz q44) :: _) _ _ _
            refine evx_F E0 D0_221 rfl rfl ?_
            by_cases cb48 : q44 = q31
            · rw [if_pos cb48] at hs
              refine evx_F E0 D0_223 rfl (ifT (c2_eq_T w47 w34 cb48)) ?_
              refine evx_F E0 D0_228 rfl rfl ?_
              by_cases cb49 : ¬ q31 = 0
              · rw [if_pos cb49] at hs
                refine evx_F E0 D0_230 rfl (ifT (c1_ne_T w34 cb49)) ?_
                show evx _ _ _ _ _ [(6, .inl (iz q38)), (5, .inl (iz q31)), (0, .inr (.inr (.inr 1))), (1, .inr (.inr (.inl (some 0)))), (2, .inr (.inr (.inl (some 53)))), (3, .inr (.inr (.inl (some 109)))), (4, .inl (iz x4))] _ _ _ _
                exact evx_lv (lvLe_mk (fm rfl (fm rfl (fm rfl (fm rfl (fm rfl (fm rfl (fm rfl fn))))))) (fm rfl (fm rfl (fm rfl (fm rfl (fm rfl (fm rfl (fm rfl fn))))))) (fm rfl (fm rfl (fm rfl (fm rfl (fm rfl (fm rfl (fm rfl fn)))))))) (ih.2.2.1 _ _ _ _ _ _ _ _ hL hs R46 rx4 w34 w41)
              · rw [if_neg cb49] at hs
                refine evx_F E0 D0_230 rfl (ifF (c1_ne_F w34 (by omega))) ?_
                refine evx_F E0 D0_233 rfl rfl ?_
                refine evx_F E0 D0_234 rfl rfl ?_
                refine evx_lal E0 D0_235 H109 (by decide) R46 (by decide) ?_
                refine evx_F E0 D0_236 rfl rfl ?_
                refine evx_F E0 D0_238 rfl rfl ?_
                refine evx_F E0 D0_239 rfl rfl ?_
                by_cases cb50 : (M42 109 (Int.toNat 0)) = q38
                · rw [if_pos cb50] at hs
                  refine evx_F E0 D0_240 rfl (ifT (lc_eq_T (R46.1 109 (Int.toNat 0)) w41 cb50)) ?_
                  show evx _ _ _ _ _ [(6, .inl (iz q38)), (5, .inl (iz q31)), (0, .inr (.inr (.inr 1))), (1, .inr (.inr (.inl (some 0)))), (2, .inr (.inr (.inl (some 53)))), (3, .inr (.inr (.inl (some 109)))), (4, .inl (iz x4))] _ _ _ _
                  exact evx_lv (lvLe_mk (fm rfl (fm rfl (fm rfl (fm rfl (fm rfl (fm rfl (fm rfl fn))))))) (fm rfl (fm rfl (fm rfl (fm rfl (fm rfl (fm rfl (fm rfl fn))))))) (fm rfl (fm rfl (fm rfl (fm rfl (fm rfl (fm rfl (fm rfl fn)))))))) (ih.2.2.1 _ _ _ _ _ _ _ _ hL hs R46 rx4 w34 w41)
                · rw [if_neg cb50] at hs
                  refine evx_F E0 D0_240 rfl (ifF (lc_eq_F (R46.1 109 (Int.toNat 0)) w41 cb50)) ?_
                  refine evx_F E0 D0_243 rfl rfl ?_
                  cases hs
            · rw [if_neg cb48] at hs
              refine evx_F E0 D0_223 rfl (ifF (c2_eq_F w47 w34 (by omega))) ?_
              refine evx_F E0 D0_226 rfl rfl ?_
              cases hs
          · rw [if_neg cb27] at hs
            by_cases cb51 : (bAnd ((xs (Int.toNat x4)).toInt) 31) = 2
            · rw [if_pos cb51] at hs
              refine evx_tsi (2) E0 D0_40 cb51 (by decide) (by decide) rfl rfl ?_
              refine evx_F E0 D0_248 rfl rfl ?_
              refine evx_F E0 D0_249 rfl rfl ?_
              refine evx_F E0 D0_250 rfl rfl ?_
              refine evx_F E0 D0_252 rfl rfl ?_
              refine evx_add E0 D0_253 ?_
              obtain ⟨k52, hs⟩ := ck hs
              refine evx_tab E0 D0_254 (by decide) rfl (Int.ofNat_lt.mp hL.2) k52 (iz_back _).symm ?_
              refine evx_F E0 D0_255 rfl rfl ?_
              obtain ⟨⟨q54, M58⟩, e53, hs⟩ := Option.bind_eq_some_iff.mp hs
              dsimp only at hs
              obtain ⟨n59, hn59, rfl⟩ := adc_inv hs
              have hs := hn59
              refine evx_csn (D := 46) (n1 := ad q54) (n2 := n59) E0 D0_256 I0_86 rfl rfl (Nat.le_of_ble_eq_true rfl) ⟨rfl, Nat.le_of_ble_eq_true rfl⟩ rfl (evx_up (Nat.le_of_ble_eq_true rfl) (c24_0_109 R (iz_rg _) e53)) ?_
              intro h55 R56 w57
              have w57 : rg q54 := w57
              show evx _ _ _ _ _ _ (.inl (iz q54) :: _) _ _ _
              refine evx_F E0 D0_259 rfl rfl ?_
              refine evx_F E0 D0_261 rfl rfl ?_
              refine evx_F E0 D0_262 rfl rfl ?_
              refine evx_F E0 D0_263 rfl rfl ?_
              refine evx_F E0 D0_265 rfl rfl ?_
              refine evx_add E0 D0_266 ?_
              refine evx_tab E0 D0_267 (by decide) rfl (Int.ofNat_lt.mp hL.2) k52 (iz_back _).symm ?_
              obtain ⟨⟨q61, M65⟩, e60, hs⟩ := Option.bind_eq_some_iff.mp hs
              dsimp only at hs
              refine evx_cv (D := 46) E0 D0_268 I0_88 rfl rfl H53 ⟨Nat.le_of_ble_eq_true rfl, Nat.le_of_ble_eq_true rfl⟩ ⟨rfl, Nat.le_of_ble_eq_true rfl⟩ rfl R56 (evx_up (Nat.le_of_ble_eq_true rfl) (c194 R56 (iz_rg _) e60)) ?_
              intro h62 R63 w64
              have w64 : rg q61 := w64
              show evx _ _ _ _ _ _ (.inl (iz q61) :: _) _ _ _
              refine evx_F E0 D0_271 rfl rfl ?_
              refine evx_F E0 D0_273 rfl rfl ?_
              obtain ⟨q67, e66, hs⟩ := Option.bind_eq_some_iff.mp hs
              refine evx_cv (D := 46) E0 D0_274 I0_78 rfl rfl H53 ⟨Nat.le_of_ble_eq_true rfl, Nat.le_of_ble_eq_true rfl⟩ ⟨rfl, Nat.le_of_ble_eq_true rfl⟩ rfl R63 (evx_up (Nat.le_of_ble_eq_true rfl) (c188 R63  e66)) ?_
              intro h68 R69 w70
              have w70 : rg q67 := w70
              show evx _ _ _ _ _ _ (.inl (iz q67) :: _) _ _ _
              refine evx_F E0 D0_277 rfl rfl ?_
              by_cases cb71 : q67 = q54
              · rw [if_pos cb71] at hs
                refine evx_F E0 D0_279 rfl (ifT (c2_eq_T w70 w57 cb71)) ?_
                refine evx_F E0 D0_284 rfl rfl ?_
                by_cases cb72 : ¬ q54 = 0
                · rw [if_pos cb72] at hs
                  refine evx_F E0 D0_286 rfl (ifT (c1_ne_T w57 cb72)) ?_
                  show evx _ _ _ _ _ [(6, .inl (iz q61)), (5, .inl (iz q54)), (0, .inr (.inr (.inr 1))), (1, .inr (.inr (.inl (some 0)))), (2, .inr (.inr (.inl (some 53)))), (3, .inr (.inr (.inl (some 109)))), (4, .inl (iz x4))] _ _ _ _
                  exact evx_lv (lvLe_mk (fm rfl (fm rfl (fm rfl (fm rfl (fm rfl (fm rfl (fm rfl fn))))))) (fm rfl (fm rfl (fm rfl (fm rfl (fm rfl (fm rfl (fm rfl fn))))))) (fm rfl (fm rfl (fm rfl (fm rfl (fm rfl (fm rfl (fm rfl fn)))))))) (ih.2.2.2.1 _ _ _ _ _ _ _ _ hL hs R69 rx4 w57 w64)
                · rw [if_neg cb72] at hs
                  refine evx_F E0 D0_286 rfl (ifF (c1_ne_F w57 (by omega))) ?_
                  refine evx_F E0 D0_289 rfl rfl ?_
                  refine evx_F E0 D0_290 rfl rfl ?_
                  refine evx_lal E0 D0_291 H109 (by decide) R69 (by decide) ?_
                  refine evx_F E0 D0_292 rfl rfl ?_
                  refine evx_F E0 D0_294 rfl rfl ?_
                  refine evx_F E0 D0_295 rfl rfl ?_
                  by_cases cb73 : (M65 109 (Int.toNat 0)) = q61
                  · rw [if_pos cb73] at hs
                    refine evx_F E0 D0_296 rfl (ifT (lc_eq_T (R69.1 109 (Int.toNat 0)) w64 cb73)) ?_
                    show evx _ _ _ _ _ [(6, .inl (iz q61)), (5, .inl (iz q54)), (0, .inr (.inr (.inr 1))), (1, .inr (.inr (.inl (some 0)))), (2, .inr (.inr (.inl (some 53)))), (3, .inr (.inr (.inl (some 109)))), (4, .inl (iz x4))] _ _ _ _
                    exact evx_lv (lvLe_mk (fm rfl (fm rfl (fm rfl (fm rfl (fm rfl (fm rfl (fm rfl fn))))))) (fm rfl (fm rfl (fm rfl (fm rfl (fm rfl (fm rfl (fm rfl fn))))))) (fm rfl (fm rfl (fm rfl (fm rfl (fm rfl (fm rfl (fm rfl fn)))))))) (ih.2.2.2.1 _ _ _ _ _ _ _ _ hL hs R69 rx4 w57 w64)
                  · rw [if_neg cb73] at hs
                    refine evx_F E0 D0_296 rfl (ifF (lc_eq_F (R69.1 109 (Int.toNat 0)) w64 cb73)) ?_
                    refine evx_F E0 D0_299 rfl rfl ?_
                    cases hs
              · rw [if_neg cb71] at hs
                refine evx_F E0 D0_279 rfl (ifF (c2_eq_F w70 w57 (by omega))) ?_
                refine evx_F E0 D0_282 rfl rfl ?_
                cases hs
            · rw [if_neg cb51] at hs
              by_cases cb74 : (bAnd ((xs (Int.toNat x4)).toInt) 31) = 3
              · rw [if_pos cb74] at hs
                refine evx_tsi (3) E0 D0_40 cb74 (by decide) (by decide) rfl rfl ?_
                refine evx_F E0 D0_304 rfl rfl ?_
                refine evx_F E0 D0_305 rfl rfl ?_
                refine evx_F E0 D0_306 rfl rfl ?_
                refine evx_F E0 D0_308 rfl rfl ?_
                refine evx_add E0 D0_309 ?_
                obtain ⟨k75, hs⟩ := ck hs
                refine evx_tab E0 D0_310 (by decide) rfl (Int.ofNat_lt.mp hL.2) k75 (iz_back _).symm ?_
                refine evx_F E0 D0_311 rfl rfl ?_
                refine evx_F E0 D0_312 rfl rfl ?_
                refine evx_F E0 D0_314 rfl rfl ?_
                refine evx_add E0 D0_315 ?_
                obtain ⟨k76, hs⟩ := ck hs
                refine evx_tab E0 D0_316 (by decide) rfl (Int.ofNat_lt.mp hL.2) k76 (iz_back _).symm ?_
                refine evx_F E0 D0_317 rfl rfl ?_
                obtain ⟨⟨q78, M82⟩, e77, hs⟩ := Option.bind_eq_some_iff.mp hs
                dsimp only at hs
                obtain ⟨n83, hn83, rfl⟩ := adc_inv hs
                have hs := hn83
                refine evx_csn (D := 46) (n1 := ad q78) (n2 := n83) E0 D0_318 I0_89 rfl rfl (Nat.le_of_ble_eq_true rfl) ⟨rfl, Nat.le_of_ble_eq_true rfl⟩ rfl (evx_up (Nat.le_of_ble_eq_true rfl) (c29_0_109 R (iz_rg _) (iz_rg _) e77)) ?_
                intro h79 R80 w81
                have w81 : rg q78 := w81
                show evx _ _ _ _ _ _ (.inl (iz q78) :: _) _ _ _
                refine evx_F E0 D0_321 rfl rfl ?_
                refine evx_F E0 D0_323 rfl rfl ?_
                refine evx_F E0 D0_324 rfl rfl ?_
                refine evx_F E0 D0_325 rfl rfl ?_
                refine evx_F E0 D0_327 rfl rfl ?_
                refine evx_add E0 D0_328 ?_
                refine evx_tab E0 D0_329 (by decide) rfl (Int.ofNat_lt.mp hL.2) k75 (iz_back _).symm ?_
                refine evx_F E0 D0_330 rfl rfl ?_
                refine evx_F E0 D0_331 rfl rfl ?_
                refine evx_F E0 D0_333 rfl rfl ?_
                refine evx_add E0 D0_334 ?_
                refine evx_tab E0 D0_335 (by decide) rfl (Int.ofNat_lt.mp hL.2) k76 (iz_back _).symm ?_
                obtain ⟨⟨q85, M89⟩, e84, hs⟩ := Option.bind_eq_some_iff.mp hs
                dsimp only at hs
                refine evx_cv (D := 46) E0 D0_336 I0_91 rfl rfl H53 ⟨Nat.le_of_ble_eq_true rfl, Nat.le_of_ble_eq_true rfl⟩ ⟨rfl, Nat.le_of_ble_eq_true rfl⟩ rfl R80 (evx_up (Nat.le_of_ble_eq_true rfl) (c196 R80 (iz_rg _) (iz_rg _) e84)) ?_
                intro h86 R87 w88
                have w88 : rg q85 := w88
                show evx _ _ _ _ _ _ (.inl (iz q85) :: _) _ _ _
                refine evx_F E0 D0_339 rfl rfl ?_
                refine evx_F E0 D0_341 rfl rfl ?_
                obtain ⟨q91, e90, hs⟩ := Option.bind_eq_some_iff.mp hs
                refine evx_cv (D := 46) E0 D0_342 I0_78 rfl rfl H53 ⟨Nat.le_of_ble_eq_true rfl, Nat.le_of_ble_eq_true rfl⟩ ⟨rfl, Nat.le_of_ble_eq_true rfl⟩ rfl R87 (evx_up (Nat.le_of_ble_eq_true rfl) (c188 R87  e90)) ?_
                intro h92 R93 w94
                have w94 : rg q91 := w94
                show evx _ _ _ _ _ _ (.inl (iz q91) :: _) _ _ _
                refine evx_F E0 D0_345 rfl rfl ?_
                by_cases cb95 : q91 = q78
                · rw [if_pos cb95] at hs
                  refine evx_F E0 D0_347 rfl (ifT (c2_eq_T w94 w81 cb95)) ?_
                  refine evx_F E0 D0_352 rfl rfl ?_
                  by_cases cb96 : ¬ q78 = 0
                  · rw [if_pos cb96] at hs
                    refine evx_F E0 D0_354 rfl (ifT (c1_ne_T w81 cb96)) ?_
                    show evx _ _ _ _ _ [(6, .inl (iz q85)), (5, .inl (iz q78)), (0, .inr (.inr (.inr 1))), (1, .inr (.inr (.inl (some 0)))), (2, .inr (.inr (.inl (some 53)))), (3, .inr (.inr (.inl (some 109)))), (4, .inl (iz x4))] _ _ _ _
                    exact evx_lv (lvLe_mk (fm rfl (fm rfl (fm rfl (fm rfl (fm rfl (fm rfl (fm rfl fn))))))) (fm rfl (fm rfl (fm rfl (fm rfl (fm rfl (fm rfl (fm rfl fn))))))) (fm rfl (fm rfl (fm rfl (fm rfl (fm rfl (fm rfl (fm rfl fn)))))))) (ih.2.2.2.2.1 _ _ _ _ _ _ _ _ hL hs R93 rx4 w81 w88)
                  · rw [if_neg cb96] at hs
                    refine evx_F E0 D0_354 rfl (ifF (c1_ne_F w81 (by omega))) ?_
                    refine evx_F E0 D0_357 rfl rfl ?_
                    refine evx_F E0 D0_358 rfl rfl ?_
                    refine evx_lal E0 D0_359 H109 (by decide) R93 (by decide) ?_
                    refine evx_F E0 D0_360 rfl rfl ?_
                    refine evx_F E0 D0_362 rfl rfl ?_
                    refine evx_F E0 D0_363 rfl rfl ?_
                    by_cases cb97 : (M89 109 (Int.toNat 0)) = q85
                    · rw [if_pos cb97] at hs
                      refine evx_F E0 D0_364 rfl (ifT (lc_eq_T (R93.1 109 (Int.toNat 0)) w88 cb97)) ?_
                      show evx _ _ _ _ _ [(6, .inl (iz q85)), (5, .inl (iz q78)), (0, .inr (.inr (.inr 1))), (1, .inr (.inr (.inl (some 0)))), (2, .inr (.inr (.inl (some 53)))), (3, .inr (.inr (.inl (some 109)))), (4, .inl (iz x4))] _ _ _ _
                      exact evx_lv (lvLe_mk (fm rfl (fm rfl (fm rfl (fm rfl (fm rfl (fm rfl (fm rfl fn))))))) (fm rfl (fm rfl (fm rfl (fm rfl (fm rfl (fm rfl (fm rfl fn))))))) (fm rfl (fm rfl (fm rfl (fm rfl (fm rfl (fm rfl (fm rfl fn)))))))) (ih.2.2.2.2.1 _ _ _ _ _ _ _ _ hL hs R93 rx4 w81 w88)
                    · rw [if_neg cb97] at hs
                      refine evx_F E0 D0_364 rfl (ifF (lc_eq_F (R93.1 109 (Int.toNat 0)) w88 cb97)) ?_
                      refine evx_F E0 D0_367 rfl rfl ?_
                      cases hs
                · rw [if_neg cb95] at hs
                  refine evx_F E0 D0_347 rfl (ifF (c2_eq_F w94 w81 (by omega))) ?_
                  refine evx_F E0 D0_350 rfl rfl ?_
                  cases hs
              · rw [if_neg cb74] at hs
                by_cases cb98 : (bAnd ((xs (Int.toNat x4)).toInt) 31) = 4
                · rw [if_pos cb98] at hs
                  refine evx_tsi (4) E0 D0_40 cb98 (by decide) (by decide) rfl rfl ?_
                  refine evx_F E0 D0_372 rfl rfl ?_
                  refine evx_F E0 D0_373 rfl rfl ?_
                  refine evx_F E0 D0_374 rfl rfl ?_
                  refine evx_F E0 D0_376 rfl rfl ?_
                  refine evx_add E0 D0_377 ?_
                  obtain ⟨k99, hs⟩ := ck hs
                  refine evx_tab E0 D0_378 (by decide) rfl (Int.ofNat_lt.mp hL.2) k99 (iz_back _).symm ?_
                  refine evx_F E0 D0_379 rfl rfl ?_
                  obtain ⟨⟨q101, M105⟩, e100, hs⟩ := Option.bind_eq_some_iff.mp hs
                  dsimp only at hs
                  obtain ⟨n106, hn106, rfl⟩ := adc_inv hs
                  have hs := hn106
                  refine evx_csn (D := 46) (n1 := ad q101) (n2 := n106) E0 D0_380 I0_92 rfl rfl (Nat.le_of_ble_eq_true rfl) ⟨rfl, Nat.le_of_ble_eq_true rfl⟩ rfl (evx_up (Nat.le_of_ble_eq_true rfl) (c36_0_109 R (iz_rg _) e100)) ?_
                  intro h102 R103 w104
                  have w104 : rg q101 := w104
                  show evx _ _ _ _ _ _ (.inl (iz q101) :: _) _ _ _
                  refine evx_F E0 D0_383 rfl rfl ?_
                  refine evx_F E0 D0_385 rfl rfl ?_
                  refine evx_F E0 D0_386 rfl rfl ?_
                  refine evx_F E0 D0_387 rfl rfl ?_
                  refine evx_F E0 D0_389 rfl rfl ?_
                  refine evx_add E0 D0_390 ?_
                  refine evx_tab E0 D0_391 (by decide) rfl (Int.ofNat_lt.mp hL.2) k99 (iz_back _).symm ?_
                  obtain ⟨⟨q108, M112⟩, e107, hs⟩ := Option.bind_eq_some_iff.mp hs
                  dsimp only at hs
                  refine evx_cv (D := 46) E0 D0_392 I0_94 rfl rfl H53 ⟨Nat.le_of_ble_eq_true rfl, Nat.le_of_ble_eq_true rfl⟩ ⟨rfl, Nat.le_of_ble_eq_true rfl⟩ rfl R103 (evx_up (Nat.le_of_ble_eq_true rfl) (c200 R103 (iz_rg _) e107)) ?_
                  intro h109 R110 w111
                  have w111 : rg q108 := w111
                  show evx _ _ _ _ _ _ (.inl (iz q108) :: _) _ _ _
                  refine evx_F E0 D0_395 rfl rfl ?_
                  refine evx_F E0 D0_397 rfl rfl ?_
                  obtain ⟨q114, e113, hs⟩ := Option.bind_eq_some_iff.mp hs
                  refine evx_cv (D := 46) E0 D0_398 I0_78 rfl rfl H53 ⟨Nat.le_of_ble_eq_true rfl, Nat.le_of_ble_eq_true rfl⟩ ⟨rfl, Nat.le_of_ble_eq_true rfl⟩ rfl R110 (evx_up (Nat.le_of_ble_eq_true rfl) (c188 R110  e113)) ?_
                  intro h115 R116 w117
                  have w117 : rg q114 := w117
                  show evx _ _ _ _ _ _ (.inl (iz q114) :: _) _ _ _
                  refine evx_F E0 D0_401 rfl rfl ?_
                  by_cases cb118 : q114 = q101
                  · rw [if_pos cb118] at hs
                    refine evx_F E0 D0_403 rfl (ifT (c2_eq_T w117 w104 cb118)) ?_
                    refine evx_F E0 D0_408 rfl rfl ?_
                    by_cases cb119 : ¬ q101 = 0
                    · rw [if_pos cb119] at hs
                      refine evx_F E0 D0_410 rfl (ifT (c1_ne_T w104 cb119)) ?_
                      show evx _ _ _ _ _ [(6, .inl (iz q108)), (5, .inl (iz q101)), (0, .inr (.inr (.inr 1))), (1, .inr (.inr (.inl (some 0)))), (2, .inr (.inr (.inl (some 53)))), (3, .inr (.inr (.inl (some 109)))), (4, .inl (iz x4))] _ _ _ _
                      exact evx_lv (lvLe_mk (fm rfl (fm rfl (fm rfl (fm rfl (fm rfl (fm rfl (fm rfl fn))))))) (fm rfl (fm rfl (fm rfl (fm rfl (fm rfl (fm rfl (fm rfl fn))))))) (fm rfl (fm rfl (fm rfl (fm rfl (fm rfl (fm rfl (fm rfl fn)))))))) (ih.2.2.2.2.2.1 _ _ _ _ _ _ _ _ hL hs R116 rx4 w104 w111)
                    · rw [if_neg cb119] at hs
                      refine evx_F E0 D0_410 rfl (ifF (c1_ne_F w104 (by omega))) ?_
                      refine evx_F E0 D0_413 rfl rfl ?_
                      refine evx_F E0 D0_414 rfl rfl ?_
                      refine evx_lal E0 D0_415 H109 (by decide) R116 (by decide) ?_
                      refine evx_F E0 D0_416 rfl rfl ?_
                      refine evx_F E0 D0_418 rfl rfl ?_
                      refine evx_F E0 D0_419 rfl rfl ?_
                      by_cases cb120 : (M112 109 (Int.toNat 0)) = q108
                      · rw [if_pos cb120] at hs
                        refine evx_F E0 D0_420 rfl (ifT (lc_eq_T (R116.1 109 (Int.toNat 0)) w111 cb120)) ?_
                        show evx _ _ _ _ _ [(6, .inl (iz q108)), (5, .inl (iz q101)), (0, .inr (.inr (.inr 1))), (1, .inr (.inr (.inl (some 0)))), (2, .inr (.inr (.inl (some 53)))), (3, .inr (.inr (.inl (some 109)))), (4, .inl (iz x4))] _ _ _ _
                        exact evx_lv (lvLe_mk (fm rfl (fm rfl (fm rfl (fm rfl (fm rfl (fm rfl (fm rfl fn))))))) (fm rfl (fm rfl (fm rfl (fm rfl (fm rfl (fm rfl (fm rfl fn))))))) (fm rfl (fm rfl (fm rfl (fm rfl (fm rfl (fm rfl (fm rfl fn)))))))) (ih.2.2.2.2.2.1 _ _ _ _ _ _ _ _ hL hs R116 rx4 w104 w111)
                      · rw [if_neg cb120] at hs
                        refine evx_F E0 D0_420 rfl (ifF (lc_eq_F (R116.1 109 (Int.toNat 0)) w111 cb120)) ?_
                        refine evx_F E0 D0_423 rfl rfl ?_
                        cases hs
                  · rw [if_neg cb118] at hs
                    refine evx_F E0 D0_403 rfl (ifF (c2_eq_F w117 w104 (by omega))) ?_
                    refine evx_F E0 D0_406 rfl rfl ?_
                    cases hs
                · rw [if_neg cb98] at hs
                  by_cases cb121 : (bAnd ((xs (Int.toNat x4)).toInt) 31) = 5
                  · rw [if_pos cb121] at hs
                    refine evx_tsi (5) E0 D0_40 cb121 (by decide) (by decide) rfl rfl ?_
                    refine evx_F E0 D0_428 rfl rfl ?_
                    refine evx_F E0 D0_429 rfl rfl ?_
                    refine evx_F E0 D0_430 rfl rfl ?_
                    refine evx_F E0 D0_432 rfl rfl ?_
                    refine evx_add E0 D0_433 ?_
                    obtain ⟨k122, hs⟩ := ck hs
                    refine evx_tab E0 D0_434 (by decide) rfl (Int.ofNat_lt.mp hL.2) k122 (iz_back _).symm ?_
                    refine evx_F E0 D0_435 rfl rfl ?_
                    obtain ⟨⟨q124, M128⟩, e123, hs⟩ := Option.bind_eq_some_iff.mp hs
                    dsimp only at hs
                    obtain ⟨n129, hn129, rfl⟩ := adc_inv hs
                    have hs := hn129
                    refine evx_csn (D := 46) (n1 := ad q124) (n2 := n129) E0 D0_436 I0_95 rfl rfl (Nat.le_of_ble_eq_true rfl) ⟨rfl, Nat.le_of_ble_eq_true rfl⟩ rfl (evx_up (Nat.le_of_ble_eq_true rfl) (c42_0_109 R (iz_rg _) e123)) ?_
                    intro h125 R126 w127
                    have w127 : rg q124 := w127
                    show evx _ _ _ _ _ _ (.inl (iz q124) :: _) _ _ _
                    refine evx_F E0 D0_439 rfl rfl ?_
                    refine evx_F E0 D0_441 rfl rfl ?_
                    refine evx_F E0 D0_442 rfl rfl ?_
                    refine evx_F E0 D0_443 rfl rfl ?_
                    refine evx_F E0 D0_445 rfl rfl ?_
                    refine evx_add E0 D0_446 ?_
                    refine evx_tab E0 D0_447 (by decide) rfl (Int.ofNat_lt.mp hL.2) k122 (iz_back _).symm ?_
                    obtain ⟨⟨q131, M135⟩, e130, hs⟩ := Option.bind_eq_some_iff.mp hs
                    dsimp only at hs
                    refine evx_cv (D := 46) E0 D0_448 I0_97 rfl rfl H53 ⟨Nat.le_of_ble_eq_true rfl, Nat.le_of_ble_eq_true rfl⟩ ⟨rfl, Nat.le_of_ble_eq_true rfl⟩ rfl R126 (evx_up (Nat.le_of_ble_eq_true rfl) (c202 R126 (iz_rg _) e130)) ?_
                    intro h132 R133 w134
                    have w134 : rg q131 := w134
                    show evx _ _ _ _ _ _ (.inl (iz q131) :: _) _ _ _
                    refine evx_F E0 D0_451 rfl rfl ?_
                    refine evx_F E0 D0_453 rfl rfl ?_
                    obtain ⟨q137, e136, hs⟩ := Option.bind_eq_some_iff.mp hs
                    refine evx_cv (D := 46) E0 D0_454 I0_78 rfl rfl H53 ⟨Nat.le_of_ble_eq_true rfl, Nat.le_of_ble_eq_true rfl⟩ ⟨rfl, Nat.le_of_ble_eq_true rfl⟩ rfl R133 (evx_up (Nat.le_of_ble_eq_true rfl) (c188 R133  e136)) ?_
                    intro h138 R139 w140
                    have w140 : rg q137 := w140
                    show evx _ _ _ _ _ _ (.inl (iz q137) :: _) _ _ _
                    refine evx_F E0 D0_457 rfl rfl ?_
                    by_cases cb141 : q137 = q124
                    · rw [if_pos cb141] at hs
                      refine evx_F E0 D0_459 rfl (ifT (c2_eq_T w140 w127 cb141)) ?_
                      refine evx_F E0 D0_464 rfl rfl ?_
                      by_cases cb142 : ¬ q124 = 0
                      · rw [if_pos cb142] at hs
                        refine evx_F E0 D0_466 rfl (ifT (c1_ne_T w127 cb142)) ?_
                        show evx _ _ _ _ _ [(6, .inl (iz q131)), (5, .inl (iz q124)), (0, .inr (.inr (.inr 1))), (1, .inr (.inr (.inl (some 0)))), (2, .inr (.inr (.inl (some 53)))), (3, .inr (.inr (.inl (some 109)))), (4, .inl (iz x4))] _ _ _ _
                        exact evx_lv (lvLe_mk (fm rfl (fm rfl (fm rfl (fm rfl (fm rfl (fm rfl (fm rfl fn))))))) (fm rfl (fm rfl (fm rfl (fm rfl (fm rfl (fm rfl (fm rfl fn))))))) (fm rfl (fm rfl (fm rfl (fm rfl (fm rfl (fm rfl (fm rfl fn)))))))) (ih.2.2.2.2.2.2.1 _ _ _ _ _ _ _ _ hL hs R139 rx4 w127 w134)
                      · rw [if_neg cb142] at hs
                        refine evx_F E0 D0_466 rfl (ifF (c1_ne_F w127 (by omega))) ?_
                        refine evx_F E0 D0_469 rfl rfl ?_
                        refine evx_F E0 D0_470 rfl rfl ?_
                        refine evx_lal E0 D0_471 H109 (by decide) R139 (by decide) ?_
                        refine evx_F E0 D0_472 rfl rfl ?_
                        refine evx_F E0 D0_474 rfl rfl ?_
                        refine evx_F E0 D0_475 rfl rfl ?_
                        by_cases cb143 : (M135 109 (Int.toNat 0)) = q131
                        · rw [if_pos cb143] at hs
                          refine evx_F E0 D0_476 rfl (ifT (lc_eq_T (R139.1 109 (Int.toNat 0)) w134 cb143)) ?_
                          show evx _ _ _ _ _ [(6, .inl (iz q131)), (5, .inl (iz q124)), (0, .inr (.inr (.inr 1))), (1, .inr (.inr (.inl (some 0)))), (2, .inr (.inr (.inl (some 53)))), (3, .inr (.inr (.inl (some 109)))), (4, .inl (iz x4))] _ _ _ _
                          exact evx_lv (lvLe_mk (fm rfl (fm rfl (fm rfl (fm rfl (fm rfl (fm rfl (fm rfl fn))))))) (fm rfl (fm rfl (fm rfl (fm rfl (fm rfl (fm rfl (fm rfl fn))))))) (fm rfl (fm rfl (fm rfl (fm rfl (fm rfl (fm rfl (fm rfl fn)))))))) (ih.2.2.2.2.2.2.1 _ _ _ _ _ _ _ _ hL hs R139 rx4 w127 w134)
                        · rw [if_neg cb143] at hs
                          refine evx_F E0 D0_476 rfl (ifF (lc_eq_F (R139.1 109 (Int.toNat 0)) w134 cb143)) ?_
                          refine evx_F E0 D0_479 rfl rfl ?_
                          cases hs
                    · rw [if_neg cb141] at hs
                      refine evx_F E0 D0_459 rfl (ifF (c2_eq_F w140 w127 (by omega))) ?_
                      refine evx_F E0 D0_462 rfl rfl ?_
                      cases hs
                  · rw [if_neg cb121] at hs
                    by_cases cb144 : (bAnd ((xs (Int.toNat x4)).toInt) 31) = 6
                    · rw [if_pos cb144] at hs
                      refine evx_tsi (6) E0 D0_40 cb144 (by decide) (by decide) rfl rfl ?_
                      refine evx_F E0 D0_484 rfl rfl ?_
                      refine evx_F E0 D0_485 rfl rfl ?_
                      refine evx_F E0 D0_486 rfl rfl ?_
                      refine evx_F E0 D0_488 rfl rfl ?_
                      refine evx_add E0 D0_489 ?_
                      obtain ⟨k145, hs⟩ := ck hs
                      refine evx_tab E0 D0_490 (by decide) rfl (Int.ofNat_lt.mp hL.2) k145 (iz_back _).symm ?_
                      refine evx_F E0 D0_491 rfl rfl ?_
                      obtain ⟨⟨q147, M151⟩, e146, hs⟩ := Option.bind_eq_some_iff.mp hs
                      dsimp only at hs
                      obtain ⟨n152, hn152, rfl⟩ := adc_inv hs
                      have hs := hn152
                      refine evx_csn (D := 46) (n1 := ad q147) (n2 := n152) E0 D0_492 I0_98 rfl rfl (Nat.le_of_ble_eq_true rfl) ⟨rfl, Nat.le_of_ble_eq_true rfl⟩ rfl (evx_up (Nat.le_of_ble_eq_true rfl) (c44_0_109 R (iz_rg _) e146)) ?_
                      intro h148 R149 w150
                      have w150 : rg q147 := w150
                      show evx _ _ _ _ _ _ (.inl (iz q147) :: _) _ _ _
                      refine evx_F E0 D0_495 rfl rfl ?_
                      refine evx_F E0 D0_497 rfl rfl ?_
                      refine evx_F E0 D0_498 rfl rfl ?_
                      refine evx_F E0 D0_499 rfl rfl ?_
                      refine evx_F E0 D0_501 rfl rfl ?_
                      refine evx_add E0 D0_502 ?_
                      refine evx_tab E0 D0_503 (by decide) rfl (Int.ofNat_lt.mp hL.2) k145 (iz_back _).symm ?_
                      obtain ⟨⟨q154, M158⟩, e153, hs⟩ := Option.bind_eq_some_iff.mp hs
                      dsimp only at hs
                      refine evx_cv (D := 46) E0 D0_504 I0_100 rfl rfl H53 ⟨Nat.le_of_ble_eq_true rfl, Nat.le_of_ble_eq_true rfl⟩ ⟨rfl, Nat.le_of_ble_eq_true rfl⟩ rfl R149 (evx_up (Nat.le_of_ble_eq_true rfl) (c204 R149 (iz_rg _) e153)) ?_
                      intro h155 R156 w157
                      have w157 : rg q154 := w157
                      show evx _ _ _ _ _ _ (.inl (iz q154) :: _) _ _ _
                      refine evx_F E0 D0_507 rfl rfl ?_
                      refine evx_F E0 D0_509 rfl rfl ?_
                      obtain ⟨q160, e159, hs⟩ := Option.bind_eq_some_iff.mp hs
                      refine evx_cv (D := 46) E0 D0_510 I0_78 rfl rfl H53 ⟨Nat.le_of_ble_eq_true rfl, Nat.le_of_ble_eq_true rfl⟩ ⟨rfl, Nat.le_of_ble_eq_true rfl⟩ rfl R156 (evx_up (Nat.le_of_ble_eq_true rfl) (c188 R156  e159)) ?_
                      intro h161 R162 w163
                      have w163 : rg q160 := w163
                      show evx _ _ _ _ _ _ (.inl (iz q160) :: _) _ _ _
                      refine evx_F E0 D0_513 rfl rfl ?_
                      by_cases cb164 : q160 = q147
                      · rw [if_pos cb164] at hs
                        refine evx_F E0 D0_515 rfl (ifT (c2_eq_T w163 w150 cb164)) ?_
                        refine evx_F E0 D0_520 rfl rfl ?_
                        by_cases cb165 : ¬ q147 = 0
                        · rw [if_pos cb165] at hs
                          refine evx_F E0 D0_522 rfl (ifT (c1_ne_T w150 cb165)) ?_
                          show evx _ _ _ _ _ [(6, .inl (iz q154)), (5, .inl (iz q147)), (0, .inr (.inr (.inr 1))), (1, .inr (.inr (.inl (some 0)))), (2, .inr (.inr (.inl (some 53)))), (3, .inr (.inr (.inl (some 109)))), (4, .inl (iz x4))] _ _ _ _
                          exact evx_lv (lvLe_mk (fm rfl (fm rfl (fm rfl (fm rfl (fm rfl (fm rfl (fm rfl fn))))))) (fm rfl (fm rfl (fm rfl (fm rfl (fm rfl (fm rfl (fm rfl fn))))))) (fm rfl (fm rfl (fm rfl (fm rfl (fm rfl (fm rfl (fm rfl fn)))))))) (ih.2.2.2.2.2.2.2.1 _ _ _ _ _ _ _ _ hL hs R162 rx4 w150 w157)
                        · rw [if_neg cb165] at hs
                          refine evx_F E0 D0_522 rfl (ifF (c1_ne_F w150 (by omega))) ?_
                          refine evx_F E0 D0_525 rfl rfl ?_
                          refine evx_F E0 D0_526 rfl rfl ?_
                          refine evx_lal E0 D0_527 H109 (by decide) R162 (by decide) ?_
                          refine evx_F E0 D0_528 rfl rfl ?_
                          refine evx_F E0 D0_530 rfl rfl ?_
                          refine evx_F E0 D0_531 rfl rfl ?_
                          by_cases cb166 : (M158 109 (Int.toNat 0)) = q154
                          · rw [if_pos cb166] at hs
                            refine evx_F E0 D0_532 rfl (ifT (lc_eq_T (R162.1 109 (Int.toNat 0)) w157 cb166)) ?_
                            show evx _ _ _ _ _ [(6, .inl (iz q154)), (5, .inl (iz q147)), (0, .inr (.inr (.inr 1))), (1, .inr (.inr (.inl (some 0)))), (2, .inr (.inr (.inl (some 53)))), (3, .inr (.inr (.inl (some 109)))), (4, .inl (iz x4))] _ _ _ _
                            exact evx_lv (lvLe_mk (fm rfl (fm rfl (fm rfl (fm rfl (fm rfl (fm rfl (fm rfl fn))))))) (fm rfl (fm rfl (fm rfl (fm rfl (fm rfl (fm rfl (fm rfl fn))))))) (fm rfl (fm rfl (fm rfl (fm rfl (fm rfl (fm rfl (fm rfl fn)))))))) (ih.2.2.2.2.2.2.2.1 _ _ _ _ _ _ _ _ hL hs R162 rx4 w150 w157)
                          · rw [if_neg cb166] at hs
                            refine evx_F E0 D0_532 rfl (ifF (lc_eq_F (R162.1 109 (Int.toNat 0)) w157 cb166)) ?_
                            refine evx_F E0 D0_535 rfl rfl ?_
                            cases hs
                      · rw [if_neg cb164] at hs
                        refine evx_F E0 D0_515 rfl (ifF (c2_eq_F w163 w150 (by omega))) ?_
                        refine evx_F E0 D0_518 rfl rfl ?_
                        cases hs
                    · rw [if_neg cb144] at hs
                      by_cases cb167 : (bAnd ((xs (Int.toNat x4)).toInt) 31) = 7
                      · rw [if_pos cb167] at hs
                        refine evx_tsi (7) E0 D0_40 cb167 (by decide) (by decide) rfl rfl ?_
                        refine evx_F E0 D0_540 rfl rfl ?_
                        refine evx_F E0 D0_541 rfl rfl ?_
                        refine evx_F E0 D0_542 rfl rfl ?_
                        refine evx_F E0 D0_544 rfl rfl ?_
                        refine evx_add E0 D0_545 ?_
                        obtain ⟨k168, hs⟩ := ck hs
                        refine evx_tab E0 D0_546 (by decide) rfl (Int.ofNat_lt.mp hL.2) k168 (iz_back _).symm ?_
                        refine evx_F E0 D0_547 rfl rfl ?_
                        obtain ⟨⟨q170, M174⟩, e169, hs⟩ := Option.bind_eq_some_iff.mp hs
                        dsimp only at hs
                        obtain ⟨n175, hn175, rfl⟩ := adc_inv hs
                        have hs := hn175
                        refine evx_csn (D := 46) (n1 := ad q170) (n2 := n175) E0 D0_548 I0_101 rfl rfl (Nat.le_of_ble_eq_true rfl) ⟨rfl, Nat.le_of_ble_eq_true rfl⟩ rfl (evx_up (Nat.le_of_ble_eq_true rfl) (c46_0_109 R (iz_rg _) e169)) ?_
                        intro h171 R172 w173
                        have w173 : rg q170 := w173
                        show evx _ _ _ _ _ _ (.inl (iz q170) :: _) _ _ _
                        refine evx_F E0 D0_551 rfl rfl ?_
                        refine evx_F E0 D0_553 rfl rfl ?_
                        refine evx_F E0 D0_554 rfl rfl ?_
                        refine evx_F E0 D0_555 rfl rfl ?_
                        refine evx_F E0 D0_557 rfl rfl ?_
                        refine evx_add E0 D0_558 ?_
                        refine evx_tab E0 D0_559 (by decide) rfl (Int.ofNat_lt.mp hL.2) k168 (iz_back _).symm ?_
                        obtain ⟨⟨q177, M181⟩, e176, hs⟩ := Option.bind_eq_some_iff.mp hs
                        dsimp only at hs
                        refine evx_cv (D := 46) E0 D0_560 I0_103 rfl rfl H53 ⟨Nat.le_of_ble_eq_true rfl, Nat.le_of_ble_eq_true rfl⟩ ⟨rfl, Nat.le_of_ble_eq_true rfl⟩ rfl R172 (evx_up (Nat.le_of_ble_eq_true rfl) (c205 R172 (iz_rg _) e176)) ?_
                        intro h178 R179 w180
                        have w180 : rg q177 := w180
                        show evx _ _ _ _ _ _ (.inl (iz q177) :: _) _ _ _
                        refine evx_F E0 D0_563 rfl rfl ?_
                        refine evx_F E0 D0_565 rfl rfl ?_
                        obtain ⟨q183, e182, hs⟩ := Option.bind_eq_some_iff.mp hs
                        refine evx_cv (D := 46) E0 D0_566 I0_78 rfl rfl H53 ⟨Nat.le_of_ble_eq_true rfl, Nat.le_of_ble_eq_true rfl⟩ ⟨rfl, Nat.le_of_ble_eq_true rfl⟩ rfl R179 (evx_up (Nat.le_of_ble_eq_true rfl) (c188 R179  e182)) ?_
                        intro h184 R185 w186
                        have w186 : rg q183 := w186
                        show evx _ _ _ _ _ _ (.inl (iz q183) :: _) _ _ _
                        refine evx_F E0 D0_569 rfl rfl ?_
                        by_cases cb187 : q183 = q170
                        · rw [if_pos cb187] at hs
                          refine evx_F E0 D0_571 rfl (ifT (c2_eq_T w186 w173 cb187)) ?_
                          refine evx_F E0 D0_576 rfl rfl ?_
                          by_cases cb188 : ¬ q170 = 0
                          · rw [if_pos cb188] at hs
                            refine evx_F E0 D0_578 rfl (ifT (c1_ne_T w173 cb188)) ?_
                            show evx _ _ _ _ _ [(6, .inl (iz q177)), (5, .inl (iz q170)), (0, .inr (.inr (.inr 1))), (1, .inr (.inr (.inl (some 0)))), (2, .inr (.inr (.inl (some 53)))), (3, .inr (.inr (.inl (some 109)))), (4, .inl (iz x4))] _ _ _ _
                            exact evx_lv (lvLe_mk (fm rfl (fm rfl (fm rfl (fm rfl (fm rfl (fm rfl (fm rfl fn))))))) (fm rfl (fm rfl (fm rfl (fm rfl (fm rfl (fm rfl (fm rfl fn))))))) (fm rfl (fm rfl (fm rfl (fm rfl (fm rfl (fm rfl (fm rfl fn)))))))) (ih.2.2.2.2.2.2.2.2.1 _ _ _ _ _ _ _ _ hL hs R185 rx4 w173 w180)
                          · rw [if_neg cb188] at hs
                            refine evx_F E0 D0_578 rfl (ifF (c1_ne_F w173 (by omega))) ?_
                            refine evx_F E0 D0_581 rfl rfl ?_
                            refine evx_F E0 D0_582 rfl rfl ?_
                            refine evx_lal E0 D0_583 H109 (by decide) R185 (by decide) ?_
                            refine evx_F E0 D0_584 rfl rfl ?_
                            refine evx_F E0 D0_586 rfl rfl ?_
                            refine evx_F E0 D0_587 rfl rfl ?_
                            by_cases cb189 : (M181 109 (Int.toNat 0)) = q177
                            · rw [if_pos cb189] at hs
                              refine evx_F E0 D0_588 rfl (ifT (lc_eq_T (R185.1 109 (Int.toNat 0)) w180 cb189)) ?_
                              show evx _ _ _ _ _ [(6, .inl (iz q177)), (5, .inl (iz q170)), (0, .inr (.inr (.inr 1))), (1, .inr (.inr (.inl (some 0)))), (2, .inr (.inr (.inl (some 53)))), (3, .inr (.inr (.inl (some 109)))), (4, .inl (iz x4))] _ _ _ _
                              exact evx_lv (lvLe_mk (fm rfl (fm rfl (fm rfl (fm rfl (fm rfl (fm rfl (fm rfl fn))))))) (fm rfl (fm rfl (fm rfl (fm rfl (fm rfl (fm rfl (fm rfl fn))))))) (fm rfl (fm rfl (fm rfl (fm rfl (fm rfl (fm rfl (fm rfl fn)))))))) (ih.2.2.2.2.2.2.2.2.1 _ _ _ _ _ _ _ _ hL hs R185 rx4 w173 w180)
                            · rw [if_neg cb189] at hs
                              refine evx_F E0 D0_588 rfl (ifF (lc_eq_F (R185.1 109 (Int.toNat 0)) w180 cb189)) ?_
                              refine evx_F E0 D0_591 rfl rfl ?_
                              cases hs
                        · rw [if_neg cb187] at hs
                          refine evx_F E0 D0_571 rfl (ifF (c2_eq_F w186 w173 (by omega))) ?_
                          refine evx_F E0 D0_574 rfl rfl ?_
                          cases hs
                      · rw [if_neg cb167] at hs
                        by_cases cb190 : (bAnd ((xs (Int.toNat x4)).toInt) 31) = 8
                        · rw [if_pos cb190] at hs
                          refine evx_tsi (8) E0 D0_40 cb190 (by decide) (by decide) rfl rfl ?_
                          refine evx_F E0 D0_596 rfl rfl ?_
                          refine evx_F E0 D0_597 rfl rfl ?_
                          refine evx_F E0 D0_598 rfl rfl ?_
                          refine evx_F E0 D0_600 rfl rfl ?_
                          refine evx_add E0 D0_601 ?_
                          obtain ⟨k191, hs⟩ := ck hs
                          refine evx_tab E0 D0_602 (by decide) rfl (Int.ofNat_lt.mp hL.2) k191 (iz_back _).symm ?_
                          refine evx_F E0 D0_603 rfl rfl ?_
                          refine evx_F E0 D0_604 rfl rfl ?_
                          refine evx_F E0 D0_606 rfl rfl ?_
                          refine evx_add E0 D0_607 ?_
                          obtain ⟨k192, hs⟩ := ck hs
                          refine evx_tab E0 D0_608 (by decide) rfl (Int.ofNat_lt.mp hL.2) k192 (iz_back _).symm ?_
                          refine evx_F E0 D0_609 rfl rfl ?_
                          obtain ⟨⟨q194, M198⟩, e193, hs⟩ := Option.bind_eq_some_iff.mp hs
                          dsimp only at hs
                          obtain ⟨n199, hn199, rfl⟩ := adc_inv hs
                          have hs := hn199
                          refine evx_csn (D := 46) (n1 := ad q194) (n2 := n199) E0 D0_610 I0_104 rfl rfl (Nat.le_of_ble_eq_true rfl) ⟨rfl, Nat.le_of_ble_eq_true rfl⟩ rfl (evx_up (Nat.le_of_ble_eq_true rfl) (c49_0_109 R (iz_rg _) (iz_rg _) e193)) ?_
                          intro h195 R196 w197
                          have w197 : rg q194 := w197
                          show evx _ _ _ _ _ _ (.inl (iz q194) :: _) _ _ _
                          refine evx_F E0 D0_613 rfl rfl ?_
                          refine evx_F E0 D0_615 rfl rfl ?_
                          refine evx_F E0 D0_616 rfl rfl ?_
                          refine evx_F E0 D0_617 rfl rfl ?_
                          refine evx_F E0 D0_619 rfl rfl ?_
                          refine evx_add E0 D0_620 ?_
                          refine evx_tab E0 D0_621 (by decide) rfl (Int.ofNat_lt.mp hL.2) k191 (iz_back _).symm ?_
                          refine evx_F E0 D0_622 rfl rfl ?_
                          refine evx_F E0 D0_623 rfl rfl ?_
                          refine evx_F E0 D0_625 rfl rfl ?_
                          refine evx_add E0 D0_626 ?_
                          refine evx_tab E0 D0_627 (by decide) rfl (Int.ofNat_lt.mp hL.2) k192 (iz_back _).symm ?_
                          obtain ⟨⟨q201, M205⟩, e200, hs⟩ := Option.bind_eq_some_iff.mp hs
                          dsimp only at hs
                          refine evx_cv (D := 46) E0 D0_628 I0_106 rfl rfl H53 ⟨Nat.le_of_ble_eq_true rfl, Nat.le_of_ble_eq_true rfl⟩ ⟨rfl, Nat.le_of_ble_eq_true rfl⟩ rfl R196 (evx_up (Nat.le_of_ble_eq_true rfl) (c207 R196 (iz_rg _) (iz_rg _) e200)) ?_
                          intro h202 R203 w204
                          have w204 : rg q201 := w204
                          show evx _ _ _ _ _ _ (.inl (iz q201) :: _) _ _ _
                          refine evx_F E0 D0_631 rfl rfl ?_
                          refine evx_F E0 D0_633 rfl rfl ?_
                          obtain ⟨q207, e206, hs⟩ := Option.bind_eq_some_iff.mp hs
                          refine evx_cv (D := 46) E0 D0_634 I0_78 rfl rfl H53 ⟨Nat.le_of_ble_eq_true rfl, Nat.le_of_ble_eq_true rfl⟩ ⟨rfl, Nat.le_of_ble_eq_true rfl⟩ rfl R203 (evx_up (Nat.le_of_ble_eq_true rfl) (c188 R203  e206)) ?_
                          intro h208 R209 w210
                          have w210 : rg q207 := w210
                          show evx _ _ _ _ _ _ (.inl (iz q207) :: _) _ _ _
                          refine evx_F E0 D0_637 rfl rfl ?_
                          by_cases cb211 : q207 = q194
                          · rw [if_pos cb211] at hs
                            refine evx_F E0 D0_639 rfl (ifT (c2_eq_T w210 w197 cb211)) ?_
                            refine evx_F E0 D0_644 rfl rfl ?_
                            by_cases cb212 : ¬ q194 = 0
                            · rw [if_pos cb212] at hs
                              refine evx_F E0 D0_646 rfl (ifT (c1_ne_T w197 cb212)) ?_
                              show evx _ _ _ _ _ [(6, .inl (iz q201)), (5, .inl (iz q194)), (0, .inr (.inr (.inr 1))), (1, .inr (.inr (.inl (some 0)))), (2, .inr (.inr (.inl (some 53)))), (3, .inr (.inr (.inl (some 109)))), (4, .inl (iz x4))] _ _ _ _
                              exact evx_lv (lvLe_mk (fm rfl (fm rfl (fm rfl (fm rfl (fm rfl (fm rfl (fm rfl fn))))))) (fm rfl (fm rfl (fm rfl (fm rfl (fm rfl (fm rfl (fm rfl fn))))))) (fm rfl (fm rfl (fm rfl (fm rfl (fm rfl (fm rfl (fm rfl fn)))))))) (ih.2.2.2.2.2.2.2.2.2.1 _ _ _ _ _ _ _ _ hL hs R209 rx4 w197 w204)
                            · rw [if_neg cb212] at hs
                              refine evx_F E0 D0_646 rfl (ifF (c1_ne_F w197 (by omega))) ?_
                              refine evx_F E0 D0_649 rfl rfl ?_
                              refine evx_F E0 D0_650 rfl rfl ?_
                              refine evx_lal E0 D0_651 H109 (by decide) R209 (by decide) ?_
                              refine evx_F E0 D0_652 rfl rfl ?_
                              refine evx_F E0 D0_654 rfl rfl ?_
                              refine evx_F E0 D0_655 rfl rfl ?_
                              by_cases cb213 : (M205 109 (Int.toNat 0)) = q201
                              · rw [if_pos cb213] at hs
                                refine evx_F E0 D0_656 rfl (ifT (lc_eq_T (R209.1 109 (Int.toNat 0)) w204 cb213)) ?_
                                show evx _ _ _ _ _ [(6, .inl (iz q201)), (5, .inl (iz q194)), (0, .inr (.inr (.inr 1))), (1, .inr (.inr (.inl (some 0)))), (2, .inr (.inr (.inl (some 53)))), (3, .inr (.inr (.inl (some 109)))), (4, .inl (iz x4))] _ _ _ _
                                exact evx_lv (lvLe_mk (fm rfl (fm rfl (fm rfl (fm rfl (fm rfl (fm rfl (fm rfl fn))))))) (fm rfl (fm rfl (fm rfl (fm rfl (fm rfl (fm rfl (fm rfl fn))))))) (fm rfl (fm rfl (fm rfl (fm rfl (fm rfl (fm rfl (fm rfl fn)))))))) (ih.2.2.2.2.2.2.2.2.2.1 _ _ _ _ _ _ _ _ hL hs R209 rx4 w197 w204)
                              · rw [if_neg cb213] at hs
                                refine evx_F E0 D0_656 rfl (ifF (lc_eq_F (R209.1 109 (Int.toNat 0)) w204 cb213)) ?_
                                refine evx_F E0 D0_659 rfl rfl ?_
                                cases hs
                          · rw [if_neg cb211] at hs
                            refine evx_F E0 D0_639 rfl (ifF (c2_eq_F w210 w197 (by omega))) ?_
                            refine evx_F E0 D0_642 rfl rfl ?_
                            cases hs
                        · rw [if_neg cb190] at hs
                          by_cases cb214 : (bAnd ((xs (Int.toNat x4)).toInt) 31) = 9
                          · rw [if_pos cb214] at hs
                            refine evx_tsi (9) E0 D0_40 cb214 (by decide) (by decide) rfl rfl ?_
                            refine evx_F E0 D0_664 rfl rfl ?_
                            refine evx_F E0 D0_665 rfl rfl ?_
                            refine evx_F E0 D0_666 rfl rfl ?_
                            refine evx_F E0 D0_668 rfl rfl ?_
                            refine evx_add E0 D0_669 ?_
                            obtain ⟨k215, hs⟩ := ck hs
                            refine evx_tab E0 D0_670 (by decide) rfl (Int.ofNat_lt.mp hL.2) k215 (iz_back _).symm ?_
                            refine evx_F E0 D0_671 rfl rfl ?_
                            refine evx_F E0 D0_672 rfl rfl ?_
                            refine evx_F E0 D0_674 rfl rfl ?_
                            refine evx_add E0 D0_675 ?_
                            obtain ⟨k216, hs⟩ := ck hs
                            refine evx_tab E0 D0_676 (by decide) rfl (Int.ofNat_lt.mp hL.2) k216 (iz_back _).symm ?_
                            refine evx_F E0 D0_677 rfl rfl ?_
                            obtain ⟨⟨q218, M222⟩, e217, hs⟩ := Option.bind_eq_some_iff.mp hs
                            dsimp only at hs
                            obtain ⟨n223, hn223, rfl⟩ := adc_inv hs
                            have hs := hn223
                            refine evx_csn (D := 46) (n1 := ad q218) (n2 := n223) E0 D0_678 I0_107 rfl rfl (Nat.le_of_ble_eq_true rfl) ⟨rfl, Nat.le_of_ble_eq_true rfl⟩ rfl (evx_up (Nat.le_of_ble_eq_true rfl) (c51_0_109 R (iz_rg _) (iz_rg _) e217)) ?_
                            intro h219 R220 w221
                            have w221 : rg q218 := w221
                            show evx _ _ _ _ _ _ (.inl (iz q218) :: _) _ _ _
                            refine evx_F E0 D0_681 rfl rfl ?_
                            refine evx_F E0 D0_683 rfl rfl ?_
                            refine evx_F E0 D0_684 rfl rfl ?_
                            refine evx_F E0 D0_685 rfl rfl ?_
                            refine evx_F E0 D0_687 rfl rfl ?_
                            refine evx_add E0 D0_688 ?_
                            refine evx_tab E0 D0_689 (by decide) rfl (Int.ofNat_lt.mp hL.2) k215 (iz_back _).symm ?_
                            refine evx_F E0 D0_690 rfl rfl ?_
                            refine evx_F E0 D0_691 rfl rfl ?_
                            refine evx_F E0 D0_693 rfl rfl ?_
                            refine evx_add E0 D0_694 ?_
                            refine evx_tab E0 D0_695 (by decide) rfl (Int.ofNat_lt.mp hL.2) k216 (iz_back _).symm ?_
                            obtain ⟨⟨q225, M229⟩, e224, hs⟩ := Option.bind_eq_some_iff.mp hs
                            dsimp only at hs
                            refine evx_cv (D := 46) E0 D0_696 I0_109 rfl rfl H53 ⟨Nat.le_of_ble_eq_true rfl, Nat.le_of_ble_eq_true rfl⟩ ⟨rfl, Nat.le_of_ble_eq_true rfl⟩ rfl R220 (evx_up (Nat.le_of_ble_eq_true rfl) (c208 R220 (iz_rg _) (iz_rg _) e224)) ?_
                            intro h226 R227 w228
                            have w228 : rg q225 := w228
                            show evx _ _ _ _ _ _ (.inl (iz q225) :: _) _ _ _
                            refine evx_F E0 D0_699 rfl rfl ?_
                            refine evx_F E0 D0_701 rfl rfl ?_
                            obtain ⟨q231, e230, hs⟩ := Option.bind_eq_some_iff.mp hs
                            refine evx_cv (D := 46) E0 D0_702 I0_78 rfl rfl H53 ⟨Nat.le_of_ble_eq_true rfl, Nat.le_of_ble_eq_true rfl⟩ ⟨rfl, Nat.le_of_ble_eq_true rfl⟩ rfl R227 (evx_up (Nat.le_of_ble_eq_true rfl) (c188 R227  e230)) ?_
                            intro h232 R233 w234
                            have w234 : rg q231 := w234
                            show evx _ _ _ _ _ _ (.inl (iz q231) :: _) _ _ _
                            refine evx_F E0 D0_705 rfl rfl ?_
                            by_cases cb235 : q231 = q218
                            · rw [if_pos cb235] at hs
                              refine evx_F E0 D0_707 rfl (ifT (c2_eq_T w234 w221 cb235)) ?_
                              refine evx_F E0 D0_712 rfl rfl ?_
                              by_cases cb236 : ¬ q218 = 0
                              · rw [if_pos cb236] at hs
                                refine evx_F E0 D0_714 rfl (ifT (c1_ne_T w221 cb236)) ?_
                                show evx _ _ _ _ _ [(6, .inl (iz q225)), (5, .inl (iz q218)), (0, .inr (.inr (.inr 1))), (1, .inr (.inr (.inl (some 0)))), (2, .inr (.inr (.inl (some 53)))), (3, .inr (.inr (.inl (some 109)))), (4, .inl (iz x4))] _ _ _ _
                                exact evx_lv (lvLe_mk (fm rfl (fm rfl (fm rfl (fm rfl (fm rfl (fm rfl (fm rfl fn))))))) (fm rfl (fm rfl (fm rfl (fm rfl (fm rfl (fm rfl (fm rfl fn))))))) (fm rfl (fm rfl (fm rfl (fm rfl (fm rfl (fm rfl (fm rfl fn)))))))) (ih.2.2.2.2.2.2.2.2.2.2.1 _ _ _ _ _ _ _ _ hL hs R233 rx4 w221 w228)
                              · rw [if_neg cb236] at hs
                                refine evx_F E0 D0_714 rfl (ifF (c1_ne_F w221 (by omega))) ?_
                                refine evx_F E0 D0_717 rfl rfl ?_
                                refine evx_F E0 D0_718 rfl rfl ?_
                                refine evx_lal E0 D0_719 H109 (by decide) R233 (by decide) ?_
                                refine evx_F E0 D0_720 rfl rfl ?_
                                refine evx_F E0 D0_722 rfl rfl ?_
                                refine evx_F E0 D0_723 rfl rfl ?_
                                by_cases cb237 : (M229 109 (Int.toNat 0)) = q225
                                · rw [if_pos cb237] at hs
                                  refine evx_F E0 D0_724 rfl (ifT (lc_eq_T (R233.1 109 (Int.toNat 0)) w228 cb237)) ?_
                                  show evx _ _ _ _ _ [(6, .inl (iz q225)), (5, .inl (iz q218)), (0, .inr (.inr (.inr 1))), (1, .inr (.inr (.inl (some 0)))), (2, .inr (.inr (.inl (some 53)))), (3, .inr (.inr (.inl (some 109)))), (4, .inl (iz x4))] _ _ _ _
                                  exact evx_lv (lvLe_mk (fm rfl (fm rfl (fm rfl (fm rfl (fm rfl (fm rfl (fm rfl fn))))))) (fm rfl (fm rfl (fm rfl (fm rfl (fm rfl (fm rfl (fm rfl fn))))))) (fm rfl (fm rfl (fm rfl (fm rfl (fm rfl (fm rfl (fm rfl fn)))))))) (ih.2.2.2.2.2.2.2.2.2.2.1 _ _ _ _ _ _ _ _ hL hs R233 rx4 w221 w228)
                                · rw [if_neg cb237] at hs
                                  refine evx_F E0 D0_724 rfl (ifF (lc_eq_F (R233.1 109 (Int.toNat 0)) w228 cb237)) ?_
                                  refine evx_F E0 D0_727 rfl rfl ?_
                                  cases hs
                            · rw [if_neg cb235] at hs
                              refine evx_F E0 D0_707 rfl (ifF (c2_eq_F w234 w221 (by omega))) ?_
                              refine evx_F E0 D0_710 rfl rfl ?_
                              cases hs
                          · rw [if_neg cb214] at hs
                            by_cases cb238 : (bAnd ((xs (Int.toNat x4)).toInt) 31) = 10
                            · rw [if_pos cb238] at hs
                              refine evx_tsi (10) E0 D0_40 cb238 (by decide) (by decide) rfl rfl ?_
                              refine evx_F E0 D0_732 rfl rfl ?_
                              refine evx_F E0 D0_733 rfl rfl ?_
                              refine evx_F E0 D0_734 rfl rfl ?_
                              refine evx_F E0 D0_736 rfl rfl ?_
                              refine evx_add E0 D0_737 ?_
                              obtain ⟨k239, hs⟩ := ck hs
                              refine evx_tab E0 D0_738 (by decide) rfl (Int.ofNat_lt.mp hL.2) k239 (iz_back _).symm ?_
                              refine evx_F E0 D0_739 rfl rfl ?_
                              obtain ⟨⟨q241, M245⟩, e240, hs⟩ := Option.bind_eq_some_iff.mp hs
                              dsimp only at hs
                              obtain ⟨n246, hn246, rfl⟩ := adc_inv hs
                              have hs := hn246
                              refine evx_csn (D := 46) (n1 := ad q241) (n2 := n246) E0 D0_740 I0_110 rfl rfl (Nat.le_of_ble_eq_true rfl) ⟨rfl, Nat.le_of_ble_eq_true rfl⟩ rfl (evx_up (Nat.le_of_ble_eq_true rfl) (c54_0_109 R (iz_rg _) e240)) ?_
                              intro h242 R243 w244
                              have w244 : rg q241 := w244
                              show evx _ _ _ _ _ _ (.inl (iz q241) :: _) _ _ _
                              refine evx_F E0 D0_743 rfl rfl ?_
                              refine evx_F E0 D0_745 rfl rfl ?_
                              refine evx_F E0 D0_746 rfl rfl ?_
                              refine evx_F E0 D0_747 rfl rfl ?_
                              refine evx_F E0 D0_749 rfl rfl ?_
                              refine evx_add E0 D0_750 ?_
                              refine evx_tab E0 D0_751 (by decide) rfl (Int.ofNat_lt.mp hL.2) k239 (iz_back _).symm ?_
                              obtain ⟨⟨q248, M252⟩, e247, hs⟩ := Option.bind_eq_some_iff.mp hs
                              dsimp only at hs
                              refine evx_cv (D := 46) E0 D0_752 I0_112 rfl rfl H53 ⟨Nat.le_of_ble_eq_true rfl, Nat.le_of_ble_eq_true rfl⟩ ⟨rfl, Nat.le_of_ble_eq_true rfl⟩ rfl R243 (evx_up (Nat.le_of_ble_eq_true rfl) (c209 R243 (iz_rg _) e247)) ?_
                              intro h249 R250 w251
                              have w251 : rg q248 := w251
                              show evx _ _ _ _ _ _ (.inl (iz q248) :: _) _ _ _
                              refine evx_F E0 D0_755 rfl rfl ?_
                              refine evx_F E0 D0_757 rfl rfl ?_
                              obtain ⟨q254, e253, hs⟩ := Option.bind_eq_some_iff.mp hs
                              refine evx_cv (D := 46) E0 D0_758 I0_78 rfl rfl H53 ⟨Nat.le_of_ble_eq_true rfl, Nat.le_of_ble_eq_true rfl⟩ ⟨rfl, Nat.le_of_ble_eq_true rfl⟩ rfl R250 (evx_up (Nat.le_of_ble_eq_true rfl) (c188 R250  e253)) ?_
                              intro h255 R256 w257
                              have w257 : rg q254 := w257
                              show evx _ _ _ _ _ _ (.inl (iz q254) :: _) _ _ _
                              refine evx_F E0 D0_761 rfl rfl ?_
                              by_cases cb258 : q254 = q241
                              · rw [if_pos cb258] at hs
                                refine evx_F E0 D0_763 rfl (ifT (c2_eq_T w257 w244 cb258)) ?_
                                refine evx_F E0 D0_768 rfl rfl ?_
                                by_cases cb259 : ¬ q241 = 0
                                · rw [if_pos cb259] at hs
                                  refine evx_F E0 D0_770 rfl (ifT (c1_ne_T w244 cb259)) ?_
                                  show evx _ _ _ _ _ [(6, .inl (iz q248)), (5, .inl (iz q241)), (0, .inr (.inr (.inr 1))), (1, .inr (.inr (.inl (some 0)))), (2, .inr (.inr (.inl (some 53)))), (3, .inr (.inr (.inl (some 109)))), (4, .inl (iz x4))] _ _ _ _
                                  exact evx_lv (lvLe_mk (fm rfl (fm rfl (fm rfl (fm rfl (fm rfl (fm rfl (fm rfl fn))))))) (fm rfl (fm rfl (fm rfl (fm rfl (fm rfl (fm rfl (fm rfl fn))))))) (fm rfl (fm rfl (fm rfl (fm rfl (fm rfl (fm rfl (fm rfl fn)))))))) (ih.2.2.2.2.2.2.2.2.2.2.2.1 _ _ _ _ _ _ _ _ hL hs R256 rx4 w244 w251)
                                · rw [if_neg cb259] at hs
                                  refine evx_F E0 D0_770 rfl (ifF (c1_ne_F w244 (by omega))) ?_
                                  refine evx_F E0 D0_773 rfl rfl ?_
                                  refine evx_F E0 D0_774 rfl rfl ?_
                                  refine evx_lal E0 D0_775 H109 (by decide) R256 (by decide) ?_
                                  refine evx_F E0 D0_776 rfl rfl ?_
                                  refine evx_F E0 D0_778 rfl rfl ?_
                                  refine evx_F E0 D0_779 rfl rfl ?_
                                  by_cases cb260 : (M252 109 (Int.toNat 0)) = q248
                                  · rw [if_pos cb260] at hs
                                    refine evx_F E0 D0_780 rfl (ifT (lc_eq_T (R256.1 109 (Int.toNat 0)) w251 cb260)) ?_
                                    show evx _ _ _ _ _ [(6, .inl (iz q248)), (5, .inl (iz q241)), (0, .inr (.inr (.inr 1))), (1, .inr (.inr (.inl (some 0)))), (2, .inr (.inr (.inl (some 53)))), (3, .inr (.inr (.inl (some 109)))), (4, .inl (iz x4))] _ _ _ _
                                    exact evx_lv (lvLe_mk (fm rfl (fm rfl (fm rfl (fm rfl (fm rfl (fm rfl (fm rfl fn))))))) (fm rfl (fm rfl (fm rfl (fm rfl (fm rfl (fm rfl (fm rfl fn))))))) (fm rfl (fm rfl (fm rfl (fm rfl (fm rfl (fm rfl (fm rfl fn)))))))) (ih.2.2.2.2.2.2.2.2.2.2.2.1 _ _ _ _ _ _ _ _ hL hs R256 rx4 w244 w251)
                                  · rw [if_neg cb260] at hs
                                    refine evx_F E0 D0_780 rfl (ifF (lc_eq_F (R256.1 109 (Int.toNat 0)) w251 cb260)) ?_
                                    refine evx_F E0 D0_783 rfl rfl ?_
                                    cases hs
                              · rw [if_neg cb258] at hs
                                refine evx_F E0 D0_763 rfl (ifF (c2_eq_F w257 w244 (by omega))) ?_
                                refine evx_F E0 D0_766 rfl rfl ?_
                                cases hs
                            · rw [if_neg cb238] at hs
                              by_cases cb261 : (bAnd ((xs (Int.toNat x4)).toInt) 31) = 11
                              · rw [if_pos cb261] at hs
                                refine evx_tsi (11) E0 D0_40 cb261 (by decide) (by decide) rfl rfl ?_
                                refine evx_F E0 D0_788 rfl rfl ?_
                                refine evx_F E0 D0_789 rfl rfl ?_
                                refine evx_F E0 D0_790 rfl rfl ?_
                                refine evx_F E0 D0_792 rfl rfl ?_
                                refine evx_add E0 D0_793 ?_
                                obtain ⟨k262, hs⟩ := ck hs
                                refine evx_tab E0 D0_794 (by decide) rfl (Int.ofNat_lt.mp hL.2) k262 (iz_back _).symm ?_
                                refine evx_F E0 D0_795 rfl rfl ?_
                                refine evx_F E0 D0_796 rfl rfl ?_
                                refine evx_F E0 D0_798 rfl rfl ?_
                                refine evx_add E0 D0_799 ?_
                                obtain ⟨k263, hs⟩ := ck hs
                                refine evx_tab E0 D0_800 (by decide) rfl (Int.ofNat_lt.mp hL.2) k263 (iz_back _).symm ?_
                                refine evx_F E0 D0_801 rfl rfl ?_
                                refine evx_F E0 D0_802 rfl rfl ?_
                                refine evx_F E0 D0_804 rfl rfl ?_
                                refine evx_add E0 D0_805 ?_
                                obtain ⟨k264, hs⟩ := ck hs
                                refine evx_tab E0 D0_806 (by decide) rfl (Int.ofNat_lt.mp hL.2) k264 (iz_back _).symm ?_
                                refine evx_F E0 D0_807 rfl rfl ?_
                                refine evx_F E0 D0_808 rfl rfl ?_
                                refine evx_F E0 D0_810 rfl rfl ?_
                                refine evx_add E0 D0_811 ?_
                                obtain ⟨k265, hs⟩ := ck hs
                                refine evx_tab E0 D0_812 (by decide) rfl (Int.ofNat_lt.mp hL.2) k265 (iz_back _).symm ?_
                                refine evx_F E0 D0_813 rfl rfl ?_
                                refine evx_F E0 D0_814 rfl rfl ?_
                                refine evx_F E0 D0_816 rfl rfl ?_
                                refine evx_add E0 D0_817 ?_
                                obtain ⟨k266, hs⟩ := ck hs
                                refine evx_tab E0 D0_818 (by decide) rfl (Int.ofNat_lt.mp hL.2) k266 (iz_back _).symm ?_
                                refine evx_F E0 D0_819 rfl rfl ?_
                                refine evx_F E0 D0_820 rfl rfl ?_
                                refine evx_k (k := 6) E0 D0_822 rfl (by decide) ?_
                                refine evx_add E0 D0_824 ?_
                                obtain ⟨k267, hs⟩ := ck hs
                                refine evx_tab E0 D0_825 (by decide) rfl (Int.ofNat_lt.mp hL.2) k267 (iz_back _).symm ?_
                                refine evx_F E0 D0_826 rfl rfl ?_
                                obtain ⟨⟨q269, M273⟩, e268, hs⟩ := Option.bind_eq_some_iff.mp hs
                                dsimp only at hs
                                obtain ⟨n274, hn274, rfl⟩ := adc_inv hs
                                have hs := hn274
                                refine evx_csn (D := 46) (n1 := ad q269) (n2 := n274) E0 D0_827 I0_113 rfl rfl (Nat.le_of_ble_eq_true rfl) ⟨rfl, Nat.le_of_ble_eq_true rfl⟩ rfl (evx_up (Nat.le_of_ble_eq_true rfl) (c57_0_109 R (iz_rg _) (iz_rg _) (iz_rg _) (iz_rg _) (iz_rg _) (iz_rg _) e268)) ?_
                                intro h270 R271 w272
                                have w272 : rg q269 := w272
                                show evx _ _ _ _ _ _ (.inl (iz q269) :: _) _ _ _
                                refine evx_F E0 D0_830 rfl rfl ?_
                                refine evx_F E0 D0_832 rfl rfl ?_
                                refine evx_F E0 D0_833 rfl rfl ?_
                                refine evx_F E0 D0_834 rfl rfl ?_
                                refine evx_F E0 D0_836 rfl rfl ?_
                                refine evx_add E0 D0_837 ?_
                                refine evx_tab E0 D0_838 (by decide) rfl (Int.ofNat_lt.mp hL.2) k262 (iz_back _).symm ?_
                                refine evx_F E0 D0_839 rfl rfl ?_
                                refine evx_F E0 D0_840 rfl rfl ?_
                                refine evx_F E0 D0_842 rfl rfl ?_
                                refine evx_add E0 D0_843 ?_
                                refine evx_tab E0 D0_844 (by decide) rfl (Int.ofNat_lt.mp hL.2) k263 (iz_back _).symm ?_
                                refine evx_F E0 D0_845 rfl rfl ?_
                                refine evx_F E0 D0_846 rfl rfl ?_
                                refine evx_F E0 D0_848 rfl rfl ?_
                                refine evx_add E0 D0_849 ?_
                                refine evx_tab E0 D0_850 (by decide) rfl (Int.ofNat_lt.mp hL.2) k264 (iz_back _).symm ?_
                                refine evx_F E0 D0_851 rfl rfl ?_
                                refine evx_F E0 D0_852 rfl rfl ?_
                                refine evx_F E0 D0_854 rfl rfl ?_
                                refine evx_add E0 D0_855 ?_
                                refine evx_tab E0 D0_856 (by decide) rfl (Int.ofNat_lt.mp hL.2) k265 (iz_back _).symm ?_
                                refine evx_F E0 D0_857 rfl rfl ?_
                                refine evx_F E0 D0_858 rfl rfl ?_
                                refine evx_F E0 D0_860 rfl rfl ?_
                                refine evx_add E0 D0_861 ?_
                                refine evx_tab E0 D0_862 (by decide) rfl (Int.ofNat_lt.mp hL.2) k266 (iz_back _).symm ?_
                                refine evx_F E0 D0_863 rfl rfl ?_
                                refine evx_F E0 D0_864 rfl rfl ?_
                                refine evx_k (k := 6) E0 D0_866 rfl (by decide) ?_
                                refine evx_add E0 D0_868 ?_
                                refine evx_tab E0 D0_869 (by decide) rfl (Int.ofNat_lt.mp hL.2) k267 (iz_back _).symm ?_
                                obtain ⟨⟨q276, M280⟩, e275, hs⟩ := Option.bind_eq_some_iff.mp hs
                                dsimp only at hs
                                refine evx_cv (D := 46) E0 D0_870 I0_116 rfl rfl H53 ⟨Nat.le_of_ble_eq_true rfl, Nat.le_of_ble_eq_true rfl⟩ ⟨rfl, Nat.le_of_ble_eq_true rfl⟩ rfl R271 (evx_up (Nat.le_of_ble_eq_true rfl) (c237 R271 (iz_rg _) (iz_rg _) (iz_rg _) (iz_rg _) (iz_rg _) (iz_rg _) e275)) ?_
                                intro h277 R278 w279
                                have w279 : rg q276 := w279
                                show evx _ _ _ _ _ _ (.inl (iz q276) :: _) _ _ _
                                refine evx_F E0 D0_873 rfl rfl ?_
                                refine evx_F E0 D0_875 rfl rfl ?_
                                obtain ⟨q282, e281, hs⟩ := Option.bind_eq_some_iff.mp hs
                                refine evx_cv (D := 46) E0 D0_876 I0_78 rfl rfl H53 ⟨Nat.le_of_ble_eq_true rfl, Nat.le_of_ble_eq_true rfl⟩ ⟨rfl, Nat.le_of_ble_eq_true rfl⟩ rfl R278 (evx_up (Nat.le_of_ble_eq_true rfl) (c188 R278  e281)) ?_
                                intro h283 R284 w285
                                have w285 : rg q282 := w285
                                show evx _ _ _ _ _ _ (.inl (iz q282) :: _) _ _ _
                                refine evx_F E0 D0_879 rfl rfl ?_
                                by_cases cb286 : q282 = q269
                                · rw [if_pos cb286] at hs
                                  refine evx_F E0 D0_881 rfl (ifT (c2_eq_T w285 w272 cb286)) ?_
                                  refine evx_F E0 D0_886 rfl rfl ?_
                                  by_cases cb287 : ¬ q269 = 0
                                  · rw [if_pos cb287] at hs
                                    refine evx_F E0 D0_888 rfl (ifT (c1_ne_T w272 cb287)) ?_
                                    show evx _ _ _ _ _ [(6, .inl (iz q276)), (5, .inl (iz q269)), (0, .inr (.inr (.inr 1))), (1, .inr (.inr (.inl (some 0)))), (2, .inr (.inr (.inl (some 53)))), (3, .inr (.inr (.inl (some 109)))), (4, .inl (iz x4))] _ _ _ _
                                    exact evx_lv (lvLe_mk (fm rfl (fm rfl (fm rfl (fm rfl (fm rfl (fm rfl (fm rfl fn))))))) (fm rfl (fm rfl (fm rfl (fm rfl (fm rfl (fm rfl (fm rfl fn))))))) (fm rfl (fm rfl (fm rfl (fm rfl (fm rfl (fm rfl (fm rfl fn)))))))) (ih.2.2.2.2.2.2.2.2.2.2.2.2.1 _ _ _ _ _ _ _ _ hL hs R284 rx4 w272 w279)
                                  · rw [if_neg cb287] at hs
                                    refine evx_F E0 D0_888 rfl (ifF (c1_ne_F w272 (by omega))) ?_
                                    refine evx_F E0 D0_891 rfl rfl ?_
                                    refine evx_F E0 D0_892 rfl rfl ?_
                                    refine evx_lal E0 D0_893 H109 (by decide) R284 (by decide) ?_
                                    refine evx_F E0 D0_894 rfl rfl ?_
                                    refine evx_F E0 D0_896 rfl rfl ?_
                                    refine evx_F E0 D0_897 rfl rfl ?_
                                    by_cases cb288 : (M280 109 (Int.toNat 0)) = q276
                                    · rw [if_pos cb288] at hs
                                      refine evx_F E0 D0_898 rfl (ifT (lc_eq_T (R284.1 109 (Int.toNat 0)) w279 cb288)) ?_
                                      show evx _ _ _ _ _ [(6, .inl (iz q276)), (5, .inl (iz q269)), (0, .inr (.inr (.inr 1))), (1, .inr (.inr (.inl (some 0)))), (2, .inr (.inr (.inl (some 53)))), (3, .inr (.inr (.inl (some 109)))), (4, .inl (iz x4))] _ _ _ _
                                      exact evx_lv (lvLe_mk (fm rfl (fm rfl (fm rfl (fm rfl (fm rfl (fm rfl (fm rfl fn))))))) (fm rfl (fm rfl (fm rfl (fm rfl (fm rfl (fm rfl (fm rfl fn))))))) (fm rfl (fm rfl (fm rfl (fm rfl (fm rfl (fm rfl (fm rfl fn)))))))) (ih.2.2.2.2.2.2.2.2.2.2.2.2.1 _ _ _ _ _ _ _ _ hL hs R284 rx4 w272 w279)
                                    · rw [if_neg cb288] at hs
                                      refine evx_F E0 D0_898 rfl (ifF (lc_eq_F (R284.1 109 (Int.toNat 0)) w279 cb288)) ?_
                                      refine evx_F E0 D0_901 rfl rfl ?_
                                      cases hs
                                · rw [if_neg cb286] at hs
                                  refine evx_F E0 D0_881 rfl (ifF (c2_eq_F w285 w272 (by omega))) ?_
                                  refine evx_F E0 D0_884 rfl rfl ?_
                                  cases hs
                              · rw [if_neg cb261] at hs
                                by_cases cb289 : (bAnd ((xs (Int.toNat x4)).toInt) 31) = 12
                                · rw [if_pos cb289] at hs
                                  refine evx_tsi (12) E0 D0_40 cb289 (by decide) (by decide) rfl rfl ?_
                                  refine evx_F E0 D0_906 rfl rfl ?_
                                  refine evx_F E0 D0_907 rfl rfl ?_
                                  refine evx_F E0 D0_908 rfl rfl ?_
                                  refine evx_F E0 D0_910 rfl rfl ?_
                                  refine evx_add E0 D0_911 ?_
                                  obtain ⟨k290, hs⟩ := ck hs
                                  refine evx_tab E0 D0_912 (by decide) rfl (Int.ofNat_lt.mp hL.2) k290 (iz_back _).symm ?_
                                  refine evx_F E0 D0_913 rfl rfl ?_
                                  obtain ⟨⟨q292, M296⟩, e291, hs⟩ := Option.bind_eq_some_iff.mp hs
                                  dsimp only at hs
                                  obtain ⟨n297, hn297, rfl⟩ := adc_inv hs
                                  have hs := hn297
                                  refine evx_csn (D := 46) (n1 := ad q292) (n2 := n297) E0 D0_914 I0_117 rfl rfl (Nat.le_of_ble_eq_true rfl) ⟨rfl, Nat.le_of_ble_eq_true rfl⟩ rfl (evx_up (Nat.le_of_ble_eq_true rfl) (c125_0_109 R (iz_rg _) e291)) ?_
                                  intro h293 R294 w295
                                  have w295 : rg q292 := w295
                                  show evx _ _ _ _ _ _ (.inl (iz q292) :: _) _ _ _
                                  refine evx_F E0 D0_917 rfl rfl ?_
                                  refine evx_F E0 D0_919 rfl rfl ?_
                                  refine evx_F E0 D0_920 rfl rfl ?_
                                  refine evx_F E0 D0_921 rfl rfl ?_
                                  refine evx_F E0 D0_923 rfl rfl ?_
                                  refine evx_add E0 D0_924 ?_
                                  refine evx_tab E0 D0_925 (by decide) rfl (Int.ofNat_lt.mp hL.2) k290 (iz_back _).symm ?_
                                  obtain ⟨⟨q299, M303⟩, e298, hs⟩ := Option.bind_eq_some_iff.mp hs
                                  dsimp only at hs
                                  refine evx_cv (D := 46) E0 D0_926 I0_119 rfl rfl H53 ⟨Nat.le_of_ble_eq_true rfl, Nat.le_of_ble_eq_true rfl⟩ ⟨rfl, Nat.le_of_ble_eq_true rfl⟩ rfl R294 (evx_up (Nat.le_of_ble_eq_true rfl) (c210 R294 (iz_rg _) e298)) ?_
                                  intro h300 R301 w302
                                  have w302 : rg q299 := w302
                                  show evx _ _ _ _ _ _ (.inl (iz q299) :: _) _ _ _
                                  refine evx_F E0 D0_929 rfl rfl ?_
                                  refine evx_F E0 D0_931 rfl rfl ?_
                                  obtain ⟨q305, e304, hs⟩ := Option.bind_eq_some_iff.mp hs
                                  refine evx_cv (D := 46) E0 D0_932 I0_78 rfl rfl H53 ⟨Nat.le_of_ble_eq_true rfl, Nat.le_of_ble_eq_true rfl⟩ ⟨rfl, Nat.le_of_ble_eq_true rfl⟩ rfl R301 (evx_up (Nat.le_of_ble_eq_true rfl) (c188 R301  e304)) ?_
                                  intro h306 R307 w308
                                  have w308 : rg q305 := w308
                                  show evx _ _ _ _ _ _ (.inl (iz q305) :: _) _ _ _
                                  refine evx_F E0 D0_935 rfl rfl ?_
                                  by_cases cb309 : q305 = q292
                                  · rw [if_pos cb309] at hs
                                    refine evx_F E0 D0_937 rfl (ifT (c2_eq_T w308 w295 cb309)) ?_
                                    refine evx_F E0 D0_942 rfl rfl ?_
                                    by_cases cb310 : ¬ q292 = 0
                                    · rw [if_pos cb310] at hs
                                      refine evx_F E0 D0_944 rfl (ifT (c1_ne_T w295 cb310)) ?_
                                      show evx _ _ _ _ _ [(6, .inl (iz q299)), (5, .inl (iz q292)), (0, .inr (.inr (.inr 1))), (1, .inr (.inr (.inl (some 0)))), (2, .inr (.inr (.inl (some 53)))), (3, .inr (.inr (.inl (some 109)))), (4, .inl (iz x4))] _ _ _ _
                                      exact evx_lv (lvLe_mk (fm rfl (fm rfl (fm rfl (fm rfl (fm rfl (fm rfl (fm rfl fn))))))) (fm rfl (fm rfl (fm rfl (fm rfl (fm rfl (fm rfl (fm rfl fn))))))) (fm rfl (fm rfl (fm rfl (fm rfl (fm rfl (fm rfl (fm rfl fn)))))))) (ih.2.2.2.2.2.2.2.2.2.2.2.2.2.1 _ _ _ _ _ _ _ _ hL hs R307 rx4 w295 w302)
                                    · rw [if_neg cb310] at hs
                                      refine evx_F E0 D0_944 rfl (ifF (c1_ne_F w295 (by omega))) ?_
                                      refine evx_F E0 D0_947 rfl rfl ?_
                                      refine evx_F E0 D0_948 rfl rfl ?_
                                      refine evx_lal E0 D0_949 H109 (by decide) R307 (by decide) ?_
                                      refine evx_F E0 D0_950 rfl rfl ?_
                                      refine evx_F E0 D0_952 rfl rfl ?_
                                      refine evx_F E0 D0_953 rfl rfl ?_
                                      by_cases cb311 : (M303 109 (Int.toNat 0)) = q299
                                      · rw [if_pos cb311] at hs
                                        refine evx_F E0 D0_954 rfl (ifT (lc_eq_T (R307.1 109 (Int.toNat 0)) w302 cb311)) ?_
                                        show evx _ _ _ _ _ [(6, .inl (iz q299)), (5, .inl (iz q292)), (0, .inr (.inr (.inr 1))), (1, .inr (.inr (.inl (some 0)))), (2, .inr (.inr (.inl (some 53)))), (3, .inr (.inr (.inl (some 109)))), (4, .inl (iz x4))] _ _ _ _
                                        exact evx_lv (lvLe_mk (fm rfl (fm rfl (fm rfl (fm rfl (fm rfl (fm rfl (fm rfl fn))))))) (fm rfl (fm rfl (fm rfl (fm rfl (fm rfl (fm rfl (fm rfl fn))))))) (fm rfl (fm rfl (fm rfl (fm rfl (fm rfl (fm rfl (fm rfl fn)))))))) (ih.2.2.2.2.2.2.2.2.2.2.2.2.2.1 _ _ _ _ _ _ _ _ hL hs R307 rx4 w295 w302)
                                      · rw [if_neg cb311] at hs
                                        refine evx_F E0 D0_954 rfl (ifF (lc_eq_F (R307.1 109 (Int.toNat 0)) w302 cb311)) ?_
                                        refine evx_F E0 D0_957 rfl rfl ?_
                                        cases hs
                                  · rw [if_neg cb309] at hs
                                    refine evx_F E0 D0_937 rfl (ifF (c2_eq_F w308 w295 (by omega))) ?_
                                    refine evx_F E0 D0_940 rfl rfl ?_
                                    cases hs
                                · rw [if_neg cb289] at hs
                                  by_cases cb312 : (bAnd ((xs (Int.toNat x4)).toInt) 31) = 13
                                  · rw [if_pos cb312] at hs
                                    refine evx_tsi (13) E0 D0_40 cb312 (by decide) (by decide) rfl rfl ?_
                                    refine evx_F E0 D0_962 rfl rfl ?_
                                    refine evx_F E0 D0_963 rfl rfl ?_
                                    refine evx_F E0 D0_964 rfl rfl ?_
                                    refine evx_F E0 D0_966 rfl rfl ?_
                                    refine evx_add E0 D0_967 ?_
                                    obtain ⟨k313, hs⟩ := ck hs
                                    refine evx_tab E0 D0_968 (by decide) rfl (Int.ofNat_lt.mp hL.2) k313 (iz_back _).symm ?_
                                    refine evx_F E0 D0_969 rfl rfl ?_
                                    refine evx_F E0 D0_970 rfl rfl ?_
                                    refine evx_F E0 D0_972 rfl rfl ?_
                                    refine evx_add E0 D0_973 ?_
                                    obtain ⟨k314, hs⟩ := ck hs
                                    refine evx_tab E0 D0_974 (by decide) rfl (Int.ofNat_lt.mp hL.2) k314 (iz_back _).symm ?_
                                    refine evx_F E0 D0_975 rfl rfl ?_
                                    obtain ⟨⟨q316, M320⟩, e315, hs⟩ := Option.bind_eq_some_iff.mp hs
                                    dsimp only at hs
                                    obtain ⟨n321, hn321, rfl⟩ := adc_inv hs
                                    have hs := hn321
                                    refine evx_csn (D := 46) (n1 := ad q316) (n2 := n321) E0 D0_976 I0_120 rfl rfl (Nat.le_of_ble_eq_true rfl) ⟨rfl, Nat.le_of_ble_eq_true rfl⟩ rfl (evx_up (Nat.le_of_ble_eq_true rfl) (c143_0_109 R (iz_rg _) (iz_rg _) e315)) ?_
                                    intro h317 R318 w319
                                    have w319 : rg q316 := w319
                                    show evx _ _ _ _ _ _ (.inl (iz q316) :: _) _ _ _
                                    refine evx_F E0 D0_979 rfl rfl ?_
                                    refine evx_F E0 D0_981 rfl rfl ?_
                                    refine evx_F E0 D0_982 rfl rfl ?_
                                    refine evx_F E0 D0_983 rfl rfl ?_
                                    refine evx_F E0 D0_985 rfl rfl ?_
                                    refine evx_add E0 D0_986 ?_
                                    refine evx_tab E0 D0_987 (by decide) rfl (Int.ofNat_lt.mp hL.2) k313 (iz_back _).symm ?_
                                    refine evx_F E0 D0_988 rfl rfl ?_
                                    refine evx_F E0 D0_989 rfl rfl ?_
                                    refine evx_F E0 D0_991 rfl rfl ?_
                                    refine evx_add E0 D0_992 ?_
                                    refine evx_tab E0 D0_993 (by decide) rfl (Int.ofNat_lt.mp hL.2) k314 (iz_back _).symm ?_
                                    obtain ⟨⟨q323, M327⟩, e322, hs⟩ := Option.bind_eq_some_iff.mp hs
                                    dsimp only at hs
                                    refine evx_cv (D := 46) E0 D0_994 I0_122 rfl rfl H53 ⟨Nat.le_of_ble_eq_true rfl, Nat.le_of_ble_eq_true rfl⟩ ⟨rfl, Nat.le_of_ble_eq_true rfl⟩ rfl R318 (evx_up (Nat.le_of_ble_eq_true rfl) (c236 R318 (iz_rg _) (iz_rg _) e322)) ?_
                                    intro h324 R325 w326
                                    have w326 : rg q323 := w326
                                    show evx _ _ _ _ _ _ (.inl (iz q323) :: _) _ _ _
                                    refine evx_F E0 D0_997 rfl rfl ?_
                                    refine evx_F E0 D0_999 rfl rfl ?_
                                    obtain ⟨q329, e328, hs⟩ := Option.bind_eq_some_iff.mp hs
                                    refine evx_cv (D := 46) E0 D0_1000 I0_78 rfl rfl H53 ⟨Nat.le_of_ble_eq_true rfl, Nat.le_of_ble_eq_true rfl⟩ ⟨rfl, Nat.le_of_ble_eq_true rfl⟩ rfl R325 (evx_up (Nat.le_of_ble_eq_true rfl) (c188 R325  e328)) ?_
                                    intro h330 R331 w332
                                    have w332 : rg q329 := w332
                                    show evx _ _ _ _ _ _ (.inl (iz q329) :: _) _ _ _
                                    refine evx_F E0 D0_1003 rfl rfl ?_
                                    by_cases cb333 : q329 = q316
                                    · rw [if_pos cb333] at hs
                                      refine evx_F E0 D0_1005 rfl (ifT (c2_eq_T w332 w319 cb333)) ?_
                                      refine evx_F E0 D0_1010 rfl rfl ?_
                                      by_cases cb334 : ¬ q316 = 0
                                      · rw [if_pos cb334] at hs
                                        refine evx_F E0 D0_1012 rfl (ifT (c1_ne_T w319 cb334)) ?_
                                        show evx _ _ _ _ _ [(6, .inl (iz q323)), (5, .inl (iz q316)), (0, .inr (.inr (.inr 1))), (1, .inr (.inr (.inl (some 0)))), (2, .inr (.inr (.inl (some 53)))), (3, .inr (.inr (.inl (some 109)))), (4, .inl (iz x4))] _ _ _ _
                                        exact evx_lv (lvLe_mk (fm rfl (fm rfl (fm rfl (fm rfl (fm rfl (fm rfl (fm rfl fn))))))) (fm rfl (fm rfl (fm rfl (fm rfl (fm rfl (fm rfl (fm rfl fn))))))) (fm rfl (fm rfl (fm rfl (fm rfl (fm rfl (fm rfl (fm rfl fn)))))))) (ih.2.2.2.2.2.2.2.2.2.2.2.2.2.2.1 _ _ _ _ _ _ _ _ hL hs R331 rx4 w319 w326)
                                      · rw [if_neg cb334] at hs
                                        refine evx_F E0 D0_1012 rfl (ifF (c1_ne_F w319 (by omega))) ?_
                                        refine evx_F E0 D0_1015 rfl rfl ?_
                                        refine evx_F E0 D0_1016 rfl rfl ?_
                                        refine evx_lal E0 D0_1017 H109 (by decide) R331 (by decide) ?_
                                        refine evx_F E0 D0_1018 rfl rfl ?_
                                        refine evx_F E0 D0_1020 rfl rfl ?_
                                        refine evx_F E0 D0_1021 rfl rfl ?_
                                        by_cases cb335 : (M327 109 (Int.toNat 0)) = q323
                                        · rw [if_pos cb335] at hs
                                          refine evx_F E0 D0_1022 rfl (ifT (lc_eq_T (R331.1 109 (Int.toNat 0)) w326 cb335)) ?_
                                          show evx _ _ _ _ _ [(6, .inl (iz q323)), (5, .inl (iz q316)), (0, .inr (.inr (.inr 1))), (1, .inr (.inr (.inl (some 0)))), (2, .inr (.inr (.inl (some 53)))), (3, .inr (.inr (.inl (some 109)))), (4, .inl (iz x4))] _ _ _ _
                                          exact evx_lv (lvLe_mk (fm rfl (fm rfl (fm rfl (fm rfl (fm rfl (fm rfl (fm rfl fn))))))) (fm rfl (fm rfl (fm rfl (fm rfl (fm rfl (fm rfl (fm rfl fn))))))) (fm rfl (fm rfl (fm rfl (fm rfl (fm rfl (fm rfl (fm rfl fn)))))))) (ih.2.2.2.2.2.2.2.2.2.2.2.2.2.2.1 _ _ _ _ _ _ _ _ hL hs R331 rx4 w319 w326)
                                        · rw [if_neg cb335] at hs
                                          refine evx_F E0 D0_1022 rfl (ifF (lc_eq_F (R331.1 109 (Int.toNat 0)) w326 cb335)) ?_
                                          refine evx_F E0 D0_1025 rfl rfl ?_
                                          cases hs
                                    · rw [if_neg cb333] at hs
                                      refine evx_F E0 D0_1005 rfl (ifF (c2_eq_F w332 w319 (by omega))) ?_
                                      refine evx_F E0 D0_1008 rfl rfl ?_
                                      cases hs
                                  · rw [if_neg cb312] at hs
                                    by_cases cb336 : (bAnd ((xs (Int.toNat x4)).toInt) 31) = 14
                                    · rw [if_pos cb336] at hs
                                      refine evx_tsi (14) E0 D0_40 cb336 (by decide) (by decide) rfl rfl ?_
                                      refine evx_F E0 D0_1030 rfl rfl ?_
                                      refine evx_F E0 D0_1031 rfl rfl ?_
                                      refine evx_F E0 D0_1032 rfl rfl ?_
                                      refine evx_F E0 D0_1034 rfl rfl ?_
                                      refine evx_add E0 D0_1035 ?_
                                      obtain ⟨k337, hs⟩ := ck hs
                                      refine evx_tab E0 D0_1036 (by decide) rfl (Int.ofNat_lt.mp hL.2) k337 (iz_back _).symm ?_
                                      refine evx_F E0 D0_1037 rfl rfl ?_
                                      refine evx_F E0 D0_1038 rfl rfl ?_
                                      refine evx_F E0 D0_1040 rfl rfl ?_
                                      refine evx_add E0 D0_1041 ?_
                                      obtain ⟨k338, hs⟩ := ck hs
                                      refine evx_tab E0 D0_1042 (by decide) rfl (Int.ofNat_lt.mp hL.2) k338 (iz_back _).symm ?_
                                      refine evx_F E0 D0_1043 rfl rfl ?_
                                      obtain ⟨⟨q340, M344⟩, e339, hs⟩ := Option.bind_eq_some_iff.mp hs
                                      dsimp only at hs
                                      obtain ⟨n345, hn345, rfl⟩ := adc_inv hs
                                      have hs := hn345
                                      refine evx_csn (D := 46) (n1 := ad q340) (n2 := n345) E0 D0_1044 I0_123 rfl rfl (Nat.le_of_ble_eq_true rfl) ⟨rfl, Nat.le_of_ble_eq_true rfl⟩ rfl (evx_up (Nat.le_of_ble_eq_true rfl) (c145_0_109 R (iz_rg _) (iz_rg _) e339)) ?_
                                      intro h341 R342 w343
                                      have w343 : rg q340 := w343
                                      show evx _ _ _ _ _ _ (.inl (iz q340) :: _) _ _ _
                                      refine evx_F E0 D0_1047 rfl rfl ?_
                                      refine evx_F E0 D0_1049 rfl rfl ?_
                                      refine evx_F E0 D0_1050 rfl rfl ?_
                                      refine evx_F E0 D0_1051 rfl rfl ?_
                                      refine evx_F E0 D0_1053 rfl rfl ?_
                                      refine evx_add E0 D0_1054 ?_
                                      refine evx_tab E0 D0_1055 (by decide) rfl (Int.ofNat_lt.mp hL.2) k337 (iz_back _).symm ?_
                                      refine evx_F E0 D0_1056 rfl rfl ?_
                                      refine evx_F E0 D0_1057 rfl rfl ?_
                                      refine evx_F E0 D0_1059 rfl rfl ?_
                                      refine evx_add E0 D0_1060 ?_
                                      refine evx_tab E0 D0_1061 (by decide) rfl (Int.ofNat_lt.mp hL.2) k338 (iz_back _).symm ?_
                                      obtain ⟨⟨q347, M351⟩, e346, hs⟩ := Option.bind_eq_some_iff.mp hs
                                      dsimp only at hs
                                      refine evx_cv (D := 46) E0 D0_1062 I0_125 rfl rfl H53 ⟨Nat.le_of_ble_eq_true rfl, Nat.le_of_ble_eq_true rfl⟩ ⟨rfl, Nat.le_of_ble_eq_true rfl⟩ rfl R342 (evx_up (Nat.le_of_ble_eq_true rfl) (c199 R342 (iz_rg _) (iz_rg _) e346)) ?_
                                      intro h348 R349 w350
                                      have w350 : rg q347 := w350
                                      show evx _ _ _ _ _ _ (.inl (iz q347) :: _) _ _ _
                                      refine evx_F E0 D0_1065 rfl rfl ?_
                                      refine evx_F E0 D0_1067 rfl rfl ?_
                                      obtain ⟨q353, e352, hs⟩ := Option.bind_eq_some_iff.mp hs
                                      refine evx_cv (D := 46) E0 D0_1068 I0_78 rfl rfl H53 ⟨Nat.le_of_ble_eq_true rfl, Nat.le_of_ble_eq_true rfl⟩ ⟨rfl, Nat.le_of_ble_eq_true rfl⟩ rfl R349 (evx_up (Nat.le_of_ble_eq_true rfl) (c188 R349  e352)) ?_
                                      intro h354 R355 w356
                                      have w356 : rg q353 := w356
                                      show evx _ _ _ _ _ _ (.inl (iz q353) :: _) _ _ _
                                      refine evx_F E0 D0_1071 rfl rfl ?_
                                      by_cases cb357 : q353 = q340
                                      · rw [if_pos cb357] at hs
                                        refine evx_F E0 D0_1073 rfl (ifT (c2_eq_T w356 w343 cb357)) ?_
                                        refine evx_F E0 D0_1078 rfl rfl ?_
                                        by_cases cb358 : ¬ q340 = 0
                                        · rw [if_pos cb358] at hs
                                          refine evx_F E0 D0_1080 rfl (ifT (c1_ne_T w343 cb358)) ?_
                                          show evx _ _ _ _ _ [(6, .inl (iz q347)), (5, .inl (iz q340)), (0, .inr (.inr (.inr 1))), (1, .inr (.inr (.inl (some 0)))), (2, .inr (.inr (.inl (some 53)))), (3, .inr (.inr (.inl (some 109)))), (4, .inl (iz x4))] _ _ _ _
                                          exact evx_lv (lvLe_mk (fm rfl (fm rfl (fm rfl (fm rfl (fm rfl (fm rfl (fm rfl fn))))))) (fm rfl (fm rfl (fm rfl (fm rfl (fm rfl (fm rfl (fm rfl fn))))))) (fm rfl (fm rfl (fm rfl (fm rfl (fm rfl (fm rfl (fm rfl fn)))))))) (ih.2.2.2.2.2.2.2.2.2.2.2.2.2.2.2.1 _ _ _ _ _ _ _ _ hL hs R355 rx4 w343 w350)
                                        · rw [if_neg cb358] at hs
                                          refine evx_F E0 D0_1080 rfl (ifF (c1_ne_F w343 (by omega))) ?_
                                          refine evx_F E0 D0_1083 rfl rfl ?_
                                          refine evx_F E0 D0_1084 rfl rfl ?_
                                          refine evx_lal E0 D0_1085 H109 (by decide) R355 (by decide) ?_
                                          refine evx_F E0 D0_1086 rfl rfl ?_
                                          by_cases cb359 : q347 = 0
                                          · rw [if_pos cb359] at hs
                                            refine evx_F E0 D0_1088 rfl (ifT (c1_eq_T w350 cb359)) ?_
                                            refine evx_F E0 D0_1095 rfl rfl ?_
                                            show evx _ _ _ _ _ _ (.inr (.inl (iz 0).toInt64) :: _) _ _ _
                                            refine evx_F E0 D0_1096 rfl rfl ?_
                                            by_cases cb360 : (M351 109 (Int.toNat 0)) = 0
                                            · rw [if_pos cb360] at hs
                                              refine evx_F E0 D0_1097 rfl (ifT (lc_eq_T (R355.1 109 (Int.toNat 0)) (by decide) cb360)) ?_
                                              show evx _ _ _ _ _ [(6, .inl (iz q347)), (5, .inl (iz q340)), (0, .inr (.inr (.inr 1))), (1, .inr (.inr (.inl (some 0)))), (2, .inr (.inr (.inl (some 53)))), (3, .inr (.inr (.inl (some 109)))), (4, .inl (iz x4))] _ _ _ _
                                              exact evx_lv (lvLe_mk (fm rfl (fm rfl (fm rfl (fm rfl (fm rfl (fm rfl (fm rfl fn))))))) (fm rfl (fm rfl (fm rfl (fm rfl (fm rfl (fm rfl (fm rfl fn))))))) (fm rfl (fm rfl (fm rfl (fm rfl (fm rfl (fm rfl (fm rfl fn)))))))) (ih.2.2.2.2.2.2.2.2.2.2.2.2.2.2.2.1 _ _ _ _ _ _ _ _ hL hs R355 rx4 w343 w350)
                                            · rw [if_neg cb360] at hs
                                              refine evx_F E0 D0_1097 rfl (ifF (lc_eq_F (R355.1 109 (Int.toNat 0)) (by decide) cb360)) ?_
                                              refine evx_F E0 D0_1100 rfl rfl ?_
                                              cases hs
                                          · rw [if_neg cb359] at hs
                                            refine evx_F E0 D0_1088 rfl (ifF (c1_eq_F w350 (by omega))) ?_
                                            refine evx_F E0 D0_1091 rfl rfl ?_
                                            show evx _ _ _ _ _ _ (.inr (.inl (iz 1).toInt64) :: _) _ _ _
                                            refine evx_F E0 D0_1092 rfl rfl ?_
                                            refine evx_F E0 D0_1096 rfl rfl ?_
                                            by_cases cb361 : (M351 109 (Int.toNat 0)) = 1
                                            · rw [if_pos cb361] at hs
                                              refine evx_F E0 D0_1097 rfl (ifT (lc_eq_T (R355.1 109 (Int.toNat 0)) (by decide) cb361)) ?_
                                              show evx _ _ _ _ _ [(6, .inl (iz q347)), (5, .inl (iz q340)), (0, .inr (.inr (.inr 1))), (1, .inr (.inr (.inl (some 0)))), (2, .inr (.inr (.inl (some 53)))), (3, .inr (.inr (.inl (some 109)))), (4, .inl (iz x4))] _ _ _ _
                                              exact evx_lv (lvLe_mk (fm rfl (fm rfl (fm rfl (fm rfl (fm rfl (fm rfl (fm rfl fn))))))) (fm rfl (fm rfl (fm rfl (fm rfl (fm rfl (fm rfl (fm rfl fn))))))) (fm rfl (fm rfl (fm rfl (fm rfl (fm rfl (fm rfl (fm rfl fn)))))))) (ih.2.2.2.2.2.2.2.2.2.2.2.2.2.2.2.1 _ _ _ _ _ _ _ _ hL hs R355 rx4 w343 w350)
                                            · rw [if_neg cb361] at hs
                                              refine evx_F E0 D0_1097 rfl (ifF (lc_eq_F (R355.1 109 (Int.toNat 0)) (by decide) cb361)) ?_
                                              refine evx_F E0 D0_1100 rfl rfl ?_
                                              cases hs
                                      · rw [if_neg cb357] at hs
                                        refine evx_F E0 D0_1073 rfl (ifF (c2_eq_F w356 w343 (by omega))) ?_
                                        refine evx_F E0 D0_1076 rfl rfl ?_
                                        cases hs
                                    · rw [if_neg cb336] at hs
                                      by_cases cb362 : (bAnd ((xs (Int.toNat x4)).toInt) 31) = 15
                                      · rw [if_pos cb362] at hs
                                        refine evx_tsi (15) E0 D0_40 cb362 (by decide) (by decide) rfl rfl ?_
                                        refine evx_F E0 D0_1105 rfl rfl ?_
                                        refine evx_F E0 D0_1106 rfl rfl ?_
                                        refine evx_F E0 D0_1107 rfl rfl ?_
                                        refine evx_F E0 D0_1109 rfl rfl ?_
                                        refine evx_add E0 D0_1110 ?_
                                        obtain ⟨k363, hs⟩ := ck hs
                                        refine evx_tab E0 D0_1111 (by decide) rfl (Int.ofNat_lt.mp hL.2) k363 (iz_back _).symm ?_
                                        refine evx_F E0 D0_1112 rfl rfl ?_
                                        refine evx_F E0 D0_1113 rfl rfl ?_
                                        refine evx_F E0 D0_1115 rfl rfl ?_
                                        refine evx_add E0 D0_1116 ?_
                                        obtain ⟨k364, hs⟩ := ck hs
                                        refine evx_tab E0 D0_1117 (by decide) rfl (Int.ofNat_lt.mp hL.2) k364 (iz_back _).symm ?_
                                        refine evx_F E0 D0_1118 rfl rfl ?_
                                        obtain ⟨⟨q366, M370⟩, e365, hs⟩ := Option.bind_eq_some_iff.mp hs
                                        dsimp only at hs
                                        obtain ⟨n371, hn371, rfl⟩ := adc_inv hs
                                        have hs := hn371
                                        refine evx_csn (D := 46) (n1 := ad q366) (n2 := n371) E0 D0_1119 I0_126 rfl rfl (Nat.le_of_ble_eq_true rfl) ⟨rfl, Nat.le_of_ble_eq_true rfl⟩ rfl (evx_up (Nat.le_of_ble_eq_true rfl) (c148_0_109 R (iz_rg _) (iz_rg _) e365)) ?_
                                        intro h367 R368 w369
                                        have w369 : rg q366 := w369
                                        show evx _ _ _ _ _ _ (.inl (iz q366) :: _) _ _ _
                                        refine evx_F E0 D0_1122 rfl rfl ?_
                                        refine evx_F E0 D0_1124 rfl rfl ?_
                                        refine evx_F E0 D0_1125 rfl rfl ?_
                                        refine evx_F E0 D0_1126 rfl rfl ?_
                                        refine evx_F E0 D0_1128 rfl rfl ?_
                                        refine evx_add E0 D0_1129 ?_
                                        refine evx_tab E0 D0_1130 (by decide) rfl (Int.ofNat_lt.mp hL.2) k363 (iz_back _).symm ?_
                                        refine evx_F E0 D0_1131 rfl rfl ?_
                                        refine evx_F E0 D0_1132 rfl rfl ?_
                                        refine evx_F E0 D0_1134 rfl rfl ?_
                                        refine evx_add E0 D0_1135 ?_
                                        refine evx_tab E0 D0_1136 (by decide) rfl (Int.ofNat_lt.mp hL.2) k364 (iz_back _).symm ?_
                                        obtain ⟨⟨q373, M377⟩, e372, hs⟩ := Option.bind_eq_some_iff.mp hs
                                        dsimp only at hs
                                        refine evx_cv (D := 46) E0 D0_1137 I0_128 rfl rfl H53 ⟨Nat.le_of_ble_eq_true rfl, Nat.le_of_ble_eq_true rfl⟩ ⟨rfl, Nat.le_of_ble_eq_true rfl⟩ rfl R368 (evx_up (Nat.le_of_ble_eq_true rfl) (c241 R368 (iz_rg _) (iz_rg _) e372)) ?_
                                        intro h374 R375 w376
                                        have w376 : rg q373 := w376
                                        show evx _ _ _ _ _ _ (.inl (iz q373) :: _) _ _ _
                                        refine evx_F E0 D0_1140 rfl rfl ?_
                                        refine evx_F E0 D0_1142 rfl rfl ?_
                                        obtain ⟨q379, e378, hs⟩ := Option.bind_eq_some_iff.mp hs
                                        refine evx_cv (D := 46) E0 D0_1143 I0_78 rfl rfl H53 ⟨Nat.le_of_ble_eq_true rfl, Nat.le_of_ble_eq_true rfl⟩ ⟨rfl, Nat.le_of_ble_eq_true rfl⟩ rfl R375 (evx_up (Nat.le_of_ble_eq_true rfl) (c188 R375  e378)) ?_
                                        intro h380 R381 w382
                                        have w382 : rg q379 := w382
                                        show evx _ _ _ _ _ _ (.inl (iz q379) :: _) _ _ _
                                        refine evx_F E0 D0_1146 rfl rfl ?_
                                        by_cases cb383 : q379 = q366
                                        · rw [if_pos cb383] at hs
                                          refine evx_F E0 D0_1148 rfl (ifT (c2_eq_T w382 w369 cb383)) ?_
                                          refine evx_F E0 D0_1153 rfl rfl ?_
                                          by_cases cb384 : ¬ q366 = 0
                                          · rw [if_pos cb384] at hs
                                            refine evx_F E0 D0_1155 rfl (ifT (c1_ne_T w369 cb384)) ?_
                                            show evx _ _ _ _ _ [(6, .inl (iz q373)), (5, .inl (iz q366)), (0, .inr (.inr (.inr 1))), (1, .inr (.inr (.inl (some 0)))), (2, .inr (.inr (.inl (some 53)))), (3, .inr (.inr (.inl (some 109)))), (4, .inl (iz x4))] _ _ _ _
                                            exact evx_lv (lvLe_mk (fm rfl (fm rfl (fm rfl (fm rfl (fm rfl (fm rfl (fm rfl fn))))))) (fm rfl (fm rfl (fm rfl (fm rfl (fm rfl (fm rfl (fm rfl fn))))))) (fm rfl (fm rfl (fm rfl (fm rfl (fm rfl (fm rfl (fm rfl fn)))))))) (ih.2.2.2.2.2.2.2.2.2.2.2.2.2.2.2.2.1 _ _ _ _ _ _ _ _ hL hs R381 rx4 w369 w376)
                                          · rw [if_neg cb384] at hs
                                            refine evx_F E0 D0_1155 rfl (ifF (c1_ne_F w369 (by omega))) ?_
                                            refine evx_F E0 D0_1158 rfl rfl ?_
                                            refine evx_F E0 D0_1159 rfl rfl ?_
                                            refine evx_lal E0 D0_1160 H109 (by decide) R381 (by decide) ?_
                                            refine evx_F E0 D0_1161 rfl rfl ?_
                                            refine evx_F E0 D0_1163 rfl rfl ?_
                                            refine evx_F E0 D0_1164 rfl rfl ?_
                                            by_cases cb385 : (M377 109 (Int.toNat 0)) = q373
                                            · rw [if_pos cb385] at hs
                                              refine evx_F E0 D0_1165 rfl (ifT (lc_eq_T (R381.1 109 (Int.toNat 0)) w376 cb385)) ?_
                                              show evx _ _ _ _ _ [(6, .inl (iz q373)), (5, .inl (iz q366)), (0, .inr (.inr (.inr 1))), (1, .inr (.inr (.inl (some 0)))), (2, .inr (.inr (.inl (some 53)))), (3, .inr (.inr (.inl (some 109)))), (4, .inl (iz x4))] _ _ _ _
                                              exact evx_lv (lvLe_mk (fm rfl (fm rfl (fm rfl (fm rfl (fm rfl (fm rfl (fm rfl fn))))))) (fm rfl (fm rfl (fm rfl (fm rfl (fm rfl (fm rfl (fm rfl fn))))))) (fm rfl (fm rfl (fm rfl (fm rfl (fm rfl (fm rfl (fm rfl fn)))))))) (ih.2.2.2.2.2.2.2.2.2.2.2.2.2.2.2.2.1 _ _ _ _ _ _ _ _ hL hs R381 rx4 w369 w376)
                                            · rw [if_neg cb385] at hs
                                              refine evx_F E0 D0_1165 rfl (ifF (lc_eq_F (R381.1 109 (Int.toNat 0)) w376 cb385)) ?_
                                              refine evx_F E0 D0_1168 rfl rfl ?_
                                              cases hs
                                        · rw [if_neg cb383] at hs
                                          refine evx_F E0 D0_1148 rfl (ifF (c2_eq_F w382 w369 (by omega))) ?_
                                          refine evx_F E0 D0_1151 rfl rfl ?_
                                          cases hs
                                      · rw [if_neg cb362] at hs
                                        by_cases cb386 : (bAnd ((xs (Int.toNat x4)).toInt) 31) = 16
                                        · rw [if_pos cb386] at hs
                                          refine evx_tsi (16) E0 D0_40 cb386 (by decide) (by decide) rfl rfl ?_
                                          refine evx_F E0 D0_1173 rfl rfl ?_
                                          refine evx_F E0 D0_1174 rfl rfl ?_
                                          refine evx_F E0 D0_1175 rfl rfl ?_
                                          refine evx_F E0 D0_1177 rfl rfl ?_
                                          refine evx_add E0 D0_1178 ?_
                                          obtain ⟨k387, hs⟩ := ck hs
                                          refine evx_tab E0 D0_1179 (by decide) rfl (Int.ofNat_lt.mp hL.2) k387 (iz_back _).symm ?_
                                          refine evx_F E0 D0_1180 rfl rfl ?_
                                          obtain ⟨⟨q389, M393⟩, e388, hs⟩ := Option.bind_eq_some_iff.mp hs
                                          dsimp only at hs
                                          obtain ⟨n394, hn394, rfl⟩ := adc_inv hs
                                          have hs := hn394
                                          refine evx_csn (D := 46) (n1 := ad q389) (n2 := n394) E0 D0_1181 I0_129 rfl rfl (Nat.le_of_ble_eq_true rfl) ⟨rfl, Nat.le_of_ble_eq_true rfl⟩ rfl (evx_up (Nat.le_of_ble_eq_true rfl) (c183_0_109 R (iz_rg _) e388)) ?_
                                          intro h390 R391 w392
                                          have w392 : rg q389 := w392
                                          show evx _ _ _ _ _ _ (.inl (iz q389) :: _) _ _ _
                                          refine evx_F E0 D0_1184 rfl rfl ?_
                                          refine evx_F E0 D0_1186 rfl rfl ?_
                                          refine evx_F E0 D0_1187 rfl rfl ?_
                                          refine evx_F E0 D0_1188 rfl rfl ?_
                                          refine evx_F E0 D0_1190 rfl rfl ?_
                                          refine evx_add E0 D0_1191 ?_
                                          refine evx_tab E0 D0_1192 (by decide) rfl (Int.ofNat_lt.mp hL.2) k387 (iz_back _).symm ?_
                                          obtain ⟨⟨q396, M400⟩, e395, hs⟩ := Option.bind_eq_some_iff.mp hs
                                          dsimp only at hs
                                          refine evx_cv (D := 46) E0 D0_1193 I0_131 rfl rfl H53 ⟨Nat.le_of_ble_eq_true rfl, Nat.le_of_ble_eq_true rfl⟩ ⟨rfl, Nat.le_of_ble_eq_true rfl⟩ rfl R391 (evx_up (Nat.le_of_ble_eq_true rfl) (c253 R391 (iz_rg _) e395)) ?_
                                          intro h397 R398 w399
                                          have w399 : rg q396 := w399
                                          show evx _ _ _ _ _ _ (.inl (iz q396) :: _) _ _ _
                                          refine evx_F E0 D0_1196 rfl rfl ?_
                                          refine evx_F E0 D0_1198 rfl rfl ?_
                                          obtain ⟨q402, e401, hs⟩ := Option.bind_eq_some_iff.mp hs
                                          refine evx_cv (D := 46) E0 D0_1199 I0_78 rfl rfl H53 ⟨Nat.le_of_ble_eq_true rfl, Nat.le_of_ble_eq_true rfl⟩ ⟨rfl, Nat.le_of_ble_eq_true rfl⟩ rfl R398 (evx_up (Nat.le_of_ble_eq_true rfl) (c188 R398  e401)) ?_
                                          intro h403 R404 w405
                                          have w405 : rg q402 := w405
                                          show evx _ _ _ _ _ _ (.inl (iz q402) :: _) _ _ _
                                          refine evx_F E0 D0_1202 rfl rfl ?_
                                          by_cases cb406 : q402 = q389
                                          · rw [if_pos cb406] at hs
                                            refine evx_F E0 D0_1204 rfl (ifT (c2_eq_T w405 w392 cb406)) ?_
                                            refine evx_F E0 D0_1209 rfl rfl ?_
                                            by_cases cb407 : ¬ q389 = 0
                                            · rw [if_pos cb407] at hs
                                              refine evx_F E0 D0_1211 rfl (ifT (c1_ne_T w392 cb407)) ?_
                                              show evx _ _ _ _ _ [(6, .inl (iz q396)), (5, .inl (iz q389)), (0, .inr (.inr (.inr 1))), (1, .inr (.inr (.inl (some 0)))), (2, .inr (.inr (.inl (some 53)))), (3, .inr (.inr (.inl (some 109)))), (4, .inl (iz x4))] _ _ _ _
                                              exact evx_lv (lvLe_mk (fm rfl (fm rfl (fm rfl (fm rfl (fm rfl (fm rfl (fm rfl fn))))))) (fm rfl (fm rfl (fm rfl (fm rfl (fm rfl (fm rfl (fm rfl fn))))))) (fm rfl (fm rfl (fm rfl (fm rfl (fm rfl (fm rfl (fm rfl fn)))))))) (ih.2.2.2.2.2.2.2.2.2.2.2.2.2.2.2.2.2.1 _ _ _ _ _ _ _ _ hL hs R404 rx4 w392 w399)
                                            · rw [if_neg cb407] at hs
                                              refine evx_F E0 D0_1211 rfl (ifF (c1_ne_F w392 (by omega))) ?_
                                              refine evx_F E0 D0_1214 rfl rfl ?_
                                              refine evx_F E0 D0_1215 rfl rfl ?_
                                              refine evx_lal E0 D0_1216 H109 (by decide) R404 (by decide) ?_
                                              refine evx_F E0 D0_1217 rfl rfl ?_
                                              refine evx_F E0 D0_1219 rfl rfl ?_
                                              refine evx_F E0 D0_1220 rfl rfl ?_
                                              by_cases cb408 : (M400 109 (Int.toNat 0)) = q396
                                              · rw [if_pos cb408] at hs
                                                refine evx_F E0 D0_1221 rfl (ifT (lc_eq_T (R404.1 109 (Int.toNat 0)) w399 cb408)) ?_
                                                show evx _ _ _ _ _ [(6, .inl (iz q396)), (5, .inl (iz q389)), (0, .inr (.inr (.inr 1))), (1, .inr (.inr (.inl (some 0)))), (2, .inr (.inr (.inl (some 53)))), (3, .inr (.inr (.inl (some 109)))), (4, .inl (iz x4))] _ _ _ _
                                                exact evx_lv (lvLe_mk (fm rfl (fm rfl (fm rfl (fm rfl (fm rfl (fm rfl (fm rfl fn))))))) (fm rfl (fm rfl (fm rfl (fm rfl (fm rfl (fm rfl (fm rfl fn))))))) (fm rfl (fm rfl (fm rfl (fm rfl (fm rfl (fm rfl (fm rfl fn)))))))) (ih.2.2.2.2.2.2.2.2.2.2.2.2.2.2.2.2.2.1 _ _ _ _ _ _ _ _ hL hs R404 rx4 w392 w399)
                                              · rw [if_neg cb408] at hs
                                                refine evx_F E0 D0_1221 rfl (ifF (lc_eq_F (R404.1 109 (Int.toNat 0)) w399 cb408)) ?_
                                                refine evx_F E0 D0_1224 rfl rfl ?_
                                                cases hs
                                          · rw [if_neg cb406] at hs
                                            refine evx_F E0 D0_1204 rfl (ifF (c2_eq_F w405 w392 (by omega))) ?_
                                            refine evx_F E0 D0_1207 rfl rfl ?_
                                            cases hs
                                        · rw [if_neg cb386] at hs
                                          refine evx_tso E0 D0_40 (iz_rg _) (by omega) rfl ?_
                                          show evx _ _ _ _ _ [(0, .inr (.inr (.inr 1))), (1, .inr (.inr (.inl (some 0)))), (2, .inr (.inr (.inl (some 53)))), (3, .inr (.inr (.inl (some 109)))), (4, .inl (iz x4))] _ _ _ _
                                          exact evx_lv (lvLe_mk (fm rfl (fm rfl (fm rfl (fm rfl (fm rfl fn))))) (fm rfl (fm rfl (fm rfl (fm rfl (fm rfl fn))))) (fm rfl (fm rfl (fm rfl (fm rfl (fm rfl fn)))))) (ih.2.2.2.2.2.2.2.2.2.2.2.2.2.2.2.2.2.2 _ _ _ _ _ _ hL hs R rx4)
    · intro M x4 x5 x6 h v n M' hL hs R rx4 rx5 rx6
      rw [l0] at hs
      refine evx_F E0 D0_177 rfl rfl ?_
      show evx _ _ _ _ _ [(0, .inr (.inr (.inr 1))), (1, .inr (.inr (.inl (some 0)))), (2, .inr (.inr (.inl (some 53)))), (3, .inr (.inr (.inl (some 109)))), (4, .inl (iz x4)), (5, .inl (iz x5)), (6, .inl (iz x6))] _ _ _ _
      exact evx_lv (lvLe_mk (fm rfl (fm rfl (fm rfl (fm rfl (fm rfl fn))))) (fm rfl (fm rfl (fm rfl (fm rfl (fm rfl (fm rfl (fm rfl fn))))))) (fm rfl (fm rfl (fm rfl (fm rfl (fm rfl fn)))))) (ih.2.2.2.2.2.2.2.2.2.2.2.2.2.2.2.2.2.2 _ _ _ _ _ _ hL hs R rx4)
    · intro M x4 x5 x6 h v n M' hL hs R rx4 rx5 rx6
      rw [l0] at hs
      refine evx_F E0 D0_245 rfl rfl ?_
      show evx _ _ _ _ _ [(0, .inr (.inr (.inr 1))), (1, .inr (.inr (.inl (some 0)))), (2, .inr (.inr (.inl (some 53)))), (3, .inr (.inr (.inl (some 109)))), (4, .inl (iz x4)), (5, .inl (iz x5)), (6, .inl (iz x6))] _ _ _ _
      exact evx_lv (lvLe_mk (fm rfl (fm rfl (fm rfl (fm rfl (fm rfl fn))))) (fm rfl (fm rfl (fm rfl (fm rfl (fm rfl (fm rfl (fm rfl fn))))))) (fm rfl (fm rfl (fm rfl (fm rfl (fm rfl fn)))))) (ih.2.2.2.2.2.2.2.2.2.2.2.2.2.2.2.2.2.2 _ _ _ _ _ _ hL hs R rx4)
    · intro M x4 x5 x6 h v n M' hL hs R rx4 rx5 rx6
      rw [l0] at hs
      refine evx_F E0 D0_301 rfl rfl ?_
      show evx _ _ _ _ _ [(0, .inr (.inr (.inr 1))), (1, .inr (.inr (.inl (some 0)))), (2, .inr (.inr (.inl (some 53)))), (3, .inr (.inr (.inl (some 109)))), (4, .inl (iz x4)), (5, .inl (iz x5)), (6, .inl (iz x6))] _ _ _ _
      exact evx_lv (lvLe_mk (fm rfl (fm rfl (fm rfl (fm rfl (fm rfl fn))))) (fm rfl (fm rfl (fm rfl (fm rfl (fm rfl (fm rfl (fm rfl fn))))))) (fm rfl (fm rfl (fm rfl (fm rfl (fm rfl fn)))))) (ih.2.2.2.2.2.2.2.2.2.2.2.2.2.2.2.2.2.2 _ _ _ _ _ _ hL hs R rx4)
    · intro M x4 x5 x6 h v n M' hL hs R rx4 rx5 rx6
      rw [l0] at hs
      refine evx_F E0 D0_369 rfl rfl ?_
      show evx _ _ _ _ _ [(0, .inr (.inr (.inr 1))), (1, .inr (.inr (.inl (some 0)))), (2, .inr (.inr (.inl (some 53)))), (3, .inr (.inr (.inl (some 109)))), (4, .inl (iz x4)), (5, .inl (iz x5)), (6, .inl (iz x6))] _ _ _ _
      exact evx_lv (lvLe_mk (fm rfl (fm rfl (fm rfl (fm rfl (fm rfl fn))))) (fm rfl (fm rfl (fm rfl (fm rfl (fm rfl (fm rfl (fm rfl fn))))))) (fm rfl (fm rfl (fm rfl (fm rfl (fm rfl fn)))))) (ih.2.2.2.2.2.2.2.2.2.2.2.2.2.2.2.2.2.2 _ _ _ _ _ _ hL hs R rx4)
    · intro M x4 x5 x6 h v n M' hL hs R rx4 rx5 rx6
      rw [l0] at hs
      refine evx_F E0 D0_425 rfl rfl ?_
      show evx _ _ _ _ _ [(0, .inr (.inr (.inr 1))), (1, .inr (.inr (.inl (some 0)))), (2, .inr (.inr (.inl (some 53)))), (3, .inr (.inr (.inl (some 109)))), (4, .inl (iz x4)), (5, .inl (iz x5)), (6, .inl (iz x6))] _ _ _ _
      exact evx_lv (lvLe_mk (fm rfl (fm rfl (fm rfl (fm rfl (fm rfl fn))))) (fm rfl (fm rfl (fm rfl (fm rfl (fm rfl (fm rfl (fm rfl fn))))))) (fm rfl (fm rfl (fm rfl (fm rfl (fm rfl fn)))))) (ih.2.2.2.2.2.2.2.2.2.2.2.2.2.2.2.2.2.2 _ _ _ _ _ _ hL hs R rx4)
    · intro M x4 x5 x6 h v n M' hL hs R rx4 rx5 rx6
      rw [l0] at hs
      refine evx_F E0 D0_481 rfl rfl ?_
      show evx _ _ _ _ _ [(0, .inr (.inr (.inr 1))), (1, .inr (.inr (.inl (some 0)))), (2, .inr (.inr (.inl (some 53)))), (3, .inr (.inr (.inl (some 109)))), (4, .inl (iz x4)), (5, .inl (iz x5)), (6, .inl (iz x6))] _ _ _ _
      exact evx_lv (lvLe_mk (fm rfl (fm rfl (fm rfl (fm rfl (fm rfl fn))))) (fm rfl (fm rfl (fm rfl (fm rfl (fm rfl (fm rfl (fm rfl fn))))))) (fm rfl (fm rfl (fm rfl (fm rfl (fm rfl fn)))))) (ih.2.2.2.2.2.2.2.2.2.2.2.2.2.2.2.2.2.2 _ _ _ _ _ _ hL hs R rx4)
    · intro M x4 x5 x6 h v n M' hL hs R rx4 rx5 rx6
      rw [l0] at hs
      refine evx_F E0 D0_537 rfl rfl ?_
      show evx _ _ _ _ _ [(0, .inr (.inr (.inr 1))), (1, .inr (.inr (.inl (some 0)))), (2, .inr (.inr (.inl (some 53)))), (3, .inr (.inr (.inl (some 109)))), (4, .inl (iz x4)), (5, .inl (iz x5)), (6, .inl (iz x6))] _ _ _ _
      exact evx_lv (lvLe_mk (fm rfl (fm rfl (fm rfl (fm rfl (fm rfl fn))))) (fm rfl (fm rfl (fm rfl (fm rfl (fm rfl (fm rfl (fm rfl fn))))))) (fm rfl (fm rfl (fm rfl (fm rfl (fm rfl fn)))))) (ih.2.2.2.2.2.2.2.2.2.2.2.2.2.2.2.2.2.2 _ _ _ _ _ _ hL hs R rx4)
    · intro M x4 x5 x6 h v n M' hL hs R rx4 rx5 rx6
      rw [l0] at hs
      refine evx_F E0 D0_593 rfl rfl ?_
      show evx _ _ _ _ _ [(0, .inr (.inr (.inr 1))), (1, .inr (.inr (.inl (some 0)))), (2, .inr (.inr (.inl (some 53)))), (3, .inr (.inr (.inl (some 109)))), (4, .inl (iz x4)), (5, .inl (iz x5)), (6, .inl (iz x6))] _ _ _ _
      exact evx_lv (lvLe_mk (fm rfl (fm rfl (fm rfl (fm rfl (fm rfl fn))))) (fm rfl (fm rfl (fm rfl (fm rfl (fm rfl (fm rfl (fm rfl fn))))))) (fm rfl (fm rfl (fm rfl (fm rfl (fm rfl fn)))))) (ih.2.2.2.2.2.2.2.2.2.2.2.2.2.2.2.2.2.2 _ _ _ _ _ _ hL hs R rx4)
    · intro M x4 x5 x6 h v n M' hL hs R rx4 rx5 rx6
      rw [l0] at hs
      refine evx_F E0 D0_661 rfl rfl ?_
      show evx _ _ _ _ _ [(0, .inr (.inr (.inr 1))), (1, .inr (.inr (.inl (some 0)))), (2, .inr (.inr (.inl (some 53)))), (3, .inr (.inr (.inl (some 109)))), (4, .inl (iz x4)), (5, .inl (iz x5)), (6, .inl (iz x6))] _ _ _ _
      exact evx_lv (lvLe_mk (fm rfl (fm rfl (fm rfl (fm rfl (fm rfl fn))))) (fm rfl (fm rfl (fm rfl (fm rfl (fm rfl (fm rfl (fm rfl fn))))))) (fm rfl (fm rfl (fm rfl (fm rfl (fm rfl fn)))))) (ih.2.2.2.2.2.2.2.2.2.2.2.2.2.2.2.2.2.2 _ _ _ _ _ _ hL hs R rx4)
    · intro M x4 x5 x6 h v n M' hL hs R rx4 rx5 rx6
      rw [l0] at hs
      refine evx_F E0 D0_729 rfl rfl ?_
      show evx _ _ _ _ _ [(0, .inr (.inr (.inr 1))), (1, .inr (.inr (.inl (some 0)))), (2, .inr (.inr (.inl (some 53)))), (3, .inr (.inr (.inl (some 109)))), (4, .inl (iz x4)), (5, .inl (iz x5)), (6, .inl (iz x6))] _ _ _ _
      exact evx_lv (lvLe_mk (fm rfl (fm rfl (fm rfl (fm rfl (fm rfl fn))))) (fm rfl (fm rfl (fm rfl (fm rfl (fm rfl (fm rfl (fm rfl fn))))))) (fm rfl (fm rfl (fm rfl (fm rfl (fm rfl fn)))))) (ih.2.2.2.2.2.2.2.2.2.2.2.2.2.2.2.2.2.2 _ _ _ _ _ _ hL hs R rx4)
    · intro M x4 x5 x6 h v n M' hL hs R rx4 rx5 rx6
      rw [l0] at hs
      refine evx_F E0 D0_785 rfl rfl ?_
      show evx _ _ _ _ _ [(0, .inr (.inr (.inr 1))), (1, .inr (.inr (.inl (some 0)))), (2, .inr (.inr (.inl (some 53)))), (3, .inr (.inr (.inl (some 109)))), (4, .inl (iz x4)), (5, .inl (iz x5)), (6, .inl (iz x6))] _ _ _ _
      exact evx_lv (lvLe_mk (fm rfl (fm rfl (fm rfl (fm rfl (fm rfl fn))))) (fm rfl (fm rfl (fm rfl (fm rfl (fm rfl (fm rfl (fm rfl fn))))))) (fm rfl (fm rfl (fm rfl (fm rfl (fm rfl fn)))))) (ih.2.2.2.2.2.2.2.2.2.2.2.2.2.2.2.2.2.2 _ _ _ _ _ _ hL hs R rx4)
    · intro M x4 x5 x6 h v n M' hL hs R rx4 rx5 rx6
      rw [l0] at hs
      refine evx_F E0 D0_903 rfl rfl ?_
      show evx _ _ _ _ _ [(0, .inr (.inr (.inr 1))), (1, .inr (.inr (.inl (some 0)))), (2, .inr (.inr (.inl (some 53)))), (3, .inr (.inr (.inl (some 109)))), (4, .inl (iz x4)), (5, .inl (iz x5)), (6, .inl (iz x6))] _ _ _ _
      exact evx_lv (lvLe_mk (fm rfl (fm rfl (fm rfl (fm rfl (fm rfl fn))))) (fm rfl (fm rfl (fm rfl (fm rfl (fm rfl (fm rfl (fm rfl fn))))))) (fm rfl (fm rfl (fm rfl (fm rfl (fm rfl fn)))))) (ih.2.2.2.2.2.2.2.2.2.2.2.2.2.2.2.2.2.2 _ _ _ _ _ _ hL hs R rx4)
    · intro M x4 x5 x6 h v n M' hL hs R rx4 rx5 rx6
      rw [l0] at hs
      refine evx_F E0 D0_959 rfl rfl ?_
      show evx _ _ _ _ _ [(0, .inr (.inr (.inr 1))), (1, .inr (.inr (.inl (some 0)))), (2, .inr (.inr (.inl (some 53)))), (3, .inr (.inr (.inl (some 109)))), (4, .inl (iz x4)), (5, .inl (iz x5)), (6, .inl (iz x6))] _ _ _ _
      exact evx_lv (lvLe_mk (fm rfl (fm rfl (fm rfl (fm rfl (fm rfl fn))))) (fm rfl (fm rfl (fm rfl (fm rfl (fm rfl (fm rfl (fm rfl fn))))))) (fm rfl (fm rfl (fm rfl (fm rfl (fm rfl fn)))))) (ih.2.2.2.2.2.2.2.2.2.2.2.2.2.2.2.2.2.2 _ _ _ _ _ _ hL hs R rx4)
    · intro M x4 x5 x6 h v n M' hL hs R rx4 rx5 rx6
      rw [l0] at hs
      refine evx_F E0 D0_1027 rfl rfl ?_
      show evx _ _ _ _ _ [(0, .inr (.inr (.inr 1))), (1, .inr (.inr (.inl (some 0)))), (2, .inr (.inr (.inl (some 53)))), (3, .inr (.inr (.inl (some 109)))), (4, .inl (iz x4)), (5, .inl (iz x5)), (6, .inl (iz x6))] _ _ _ _
      exact evx_lv (lvLe_mk (fm rfl (fm rfl (fm rfl (fm rfl (fm rfl fn))))) (fm rfl (fm rfl (fm rfl (fm rfl (fm rfl (fm rfl (fm rfl fn))))))) (fm rfl (fm rfl (fm rfl (fm rfl (fm rfl fn)))))) (ih.2.2.2.2.2.2.2.2.2.2.2.2.2.2.2.2.2.2 _ _ _ _ _ _ hL hs R rx4)
    · intro M x4 x5 x6 h v n M' hL hs R rx4 rx5 rx6
      rw [l0] at hs
      refine evx_F E0 D0_1102 rfl rfl ?_
      show evx _ _ _ _ _ [(0, .inr (.inr (.inr 1))), (1, .inr (.inr (.inl (some 0)))), (2, .inr (.inr (.inl (some 53)))), (3, .inr (.inr (.inl (some 109)))), (4, .inl (iz x4)), (5, .inl (iz x5)), (6, .inl (iz x6))] _ _ _ _
      exact evx_lv (lvLe_mk (fm rfl (fm rfl (fm rfl (fm rfl (fm rfl fn))))) (fm rfl (fm rfl (fm rfl (fm rfl (fm rfl (fm rfl (fm rfl fn))))))) (fm rfl (fm rfl (fm rfl (fm rfl (fm rfl fn)))))) (ih.2.2.2.2.2.2.2.2.2.2.2.2.2.2.2.2.2.2 _ _ _ _ _ _ hL hs R rx4)
    · intro M x4 x5 x6 h v n M' hL hs R rx4 rx5 rx6
      rw [l0] at hs
      refine evx_F E0 D0_1170 rfl rfl ?_
      show evx _ _ _ _ _ [(0, .inr (.inr (.inr 1))), (1, .inr (.inr (.inl (some 0)))), (2, .inr (.inr (.inl (some 53)))), (3, .inr (.inr (.inl (some 109)))), (4, .inl (iz x4)), (5, .inl (iz x5)), (6, .inl (iz x6))] _ _ _ _
      exact evx_lv (lvLe_mk (fm rfl (fm rfl (fm rfl (fm rfl (fm rfl fn))))) (fm rfl (fm rfl (fm rfl (fm rfl (fm rfl (fm rfl (fm rfl fn))))))) (fm rfl (fm rfl (fm rfl (fm rfl (fm rfl fn)))))) (ih.2.2.2.2.2.2.2.2.2.2.2.2.2.2.2.2.2.2 _ _ _ _ _ _ hL hs R rx4)
    · intro M x4 x5 x6 h v n M' hL hs R rx4 rx5 rx6
      rw [l0] at hs
      refine evx_F E0 D0_1226 rfl rfl ?_
      show evx _ _ _ _ _ [(0, .inr (.inr (.inr 1))), (1, .inr (.inr (.inl (some 0)))), (2, .inr (.inr (.inl (some 53)))), (3, .inr (.inr (.inl (some 109)))), (4, .inl (iz x4)), (5, .inl (iz x5)), (6, .inl (iz x6))] _ _ _ _
      exact evx_lv (lvLe_mk (fm rfl (fm rfl (fm rfl (fm rfl (fm rfl fn))))) (fm rfl (fm rfl (fm rfl (fm rfl (fm rfl (fm rfl (fm rfl fn))))))) (fm rfl (fm rfl (fm rfl (fm rfl (fm rfl fn)))))) (ih.2.2.2.2.2.2.2.2.2.2.2.2.2.2.2.2.2.2 _ _ _ _ _ _ hL hs R rx4)
    · intro M x4 h v n M' hL hs R rx4
      rw [l0] at hs
      refine evx_inc E0 D0_1229 (Nat.le_of_ble_eq_true rfl) rfl ?_
      refine evx_F E0 D0_1232 rfl rfl ?_
      obtain ⟨k409, hs⟩ := ck hs
      show evx _ _ _ _ _ [(4, .inl (iz (x4 + 7))), (0, .inr (.inr (.inr 1))), (1, .inr (.inr (.inl (some 0)))), (2, .inr (.inr (.inl (some 53)))), (3, .inr (.inr (.inl (some 109))))] _ _ _ _
      exact evx_lv (lvLe_mk (fm rfl (fm rfl (fm rfl (fm rfl (fm rfl fn))))) (fm rfl (fm rfl (fm rfl (fm rfl (fm rfl fn))))) (fm rfl (fm rfl (fm rfl (fm rfl (fm rfl fn)))))) (ih.1 _ _ _ _ _ _ hL hs R k409)
