theorem d_Law_law_0 : decode code 0 = .ok (.new 8, 3) := by decide +kernel
theorem d_Law_law_3 : decode code 3 = .ok (.dup, 1) := by decide +kernel
theorem d_Law_law_4 : decode code 4 = .ok (.aload_n 0, 1) := by decide +kernel
theorem d_Law_law_5 : decode code 5 = .ok (.iconst 0, 1) := by decide +kernel
theorem d_Law_law_6 : decode code 6 = .ok (.invokestatic 73, 3) := by decide +kernel
theorem d_Law_law_9 : decode code 9 = .ok (.invokespecial 79, 3) := by decide +kernel
theorem d_Law_law_12 : decode code 12 = .ok (.astore_n 1, 1) := by decide +kernel
theorem d_Law_law_13 : decode code 13 = .ok (.new 82, 3) := by decide +kernel
theorem d_Law_law_16 : decode code 16 = .ok (.dup, 1) := by decide +kernel
theorem d_Law_law_17 : decode code 17 = .ok (.aload_n 0, 1) := by decide +kernel
theorem d_Law_law_18 : decode code 18 = .ok (.iconst 0, 1) := by decide +kernel
theorem d_Law_law_19 : decode code 19 = .ok (.invokestatic 73, 3) := by decide +kernel
theorem d_Law_law_22 : decode code 22 = .ok (.invokespecial 84, 3) := by decide +kernel
theorem d_Law_law_25 : decode code 25 = .ok (.astore_n 2, 1) := by decide +kernel
theorem d_Law_law_26 : decode code 26 = .ok (.iconst 1, 1) := by decide +kernel
theorem d_Law_law_27 : decode code 27 = .ok (.newarray .long, 2) := by decide +kernel
theorem d_Law_law_29 : decode code 29 = .ok (.astore_n 3, 1) := by decide +kernel
theorem d_Law_law_30 : decode code 30 = .ok (.iconst 1, 1) := by decide +kernel
theorem d_Law_law_31 : decode code 31 = .ok (.newarray .double, 2) := by decide +kernel
theorem d_Law_law_33 : decode code 33 = .ok (.astore 4, 2) := by decide +kernel
theorem d_Law_law_35 : decode code 35 = .ok (.iconst 1, 1) := by decide +kernel
theorem d_Law_law_36 : decode code 36 = .ok (.istore 5, 2) := by decide +kernel
theorem d_Law_law_38 : decode code 38 = .ok (.iload 5, 2) := by decide +kernel
theorem d_Law_law_40 : decode code 40 = .ok (.aload_n 0, 1) := by decide +kernel
theorem d_Law_law_41 : decode code 41 = .ok (.arraylength, 1) := by decide +kernel
theorem d_Law_law_42 : decode code 42 = .ok (.iconst 5, 1) := by decide +kernel
theorem d_Law_law_43 : decode code 43 = .ok (.isub, 1) := by decide +kernel
theorem d_Law_law_44 : decode code 44 = .ok (.if_icmp .gt 1415, 3) := by decide +kernel
theorem d_Law_law_47 : decode code 47 = .ok (.aload_n 0, 1) := by decide +kernel
theorem d_Law_law_48 : decode code 48 = .ok (.iload 5, 2) := by decide +kernel
theorem d_Law_law_50 : decode code 50 = .ok (.iaload, 1) := by decide +kernel
theorem d_Law_law_51 : decode code 51 = .ok (.bipush 31, 2) := by decide +kernel
theorem d_Law_law_53 : decode code 53 = .ok (.iand, 1) := by decide +kernel
theorem d_Law_law_54 : decode code 54 = .ok (.tableswitch 1399 0 17 #[86, 208, 288, 368, 470, 538, 650, 740, 804, 850, 898, 985, 1062, 1151, 1240, 1281, 1294, 1374], 86) := by decide +kernel
theorem d_Law_law_140 : decode code 140 = .ok (.aload_n 1, 1) := by decide +kernel
theorem d_Law_law_141 : decode code 141 = .ok (.aload_n 0, 1) := by decide +kernel
theorem d_Law_law_142 : decode code 142 = .ok (.iload 5, 2) := by decide +kernel
theorem d_Law_law_144 : decode code 144 = .ok (.iconst 1, 1) := by decide +kernel
theorem d_Law_law_145 : decode code 145 = .ok (.iadd, 1) := by decide +kernel
theorem d_Law_law_146 : decode code 146 = .ok (.iaload, 1) := by decide +kernel
theorem d_Law_law_147 : decode code 147 = .ok (.i2d, 1) := by decide +kernel
theorem d_Law_law_148 : decode code 148 = .ok (.ldc2_w 85, 3) := by decide +kernel
theorem d_Law_law_151 : decode code 151 = .ok (.dmul, 1) := by decide +kernel
theorem d_Law_law_152 : decode code 152 = .ok (.aload_n 0, 1) := by decide +kernel
theorem d_Law_law_153 : decode code 153 = .ok (.iload 5, 2) := by decide +kernel
theorem d_Law_law_155 : decode code 155 = .ok (.iconst 2, 1) := by decide +kernel
theorem d_Law_law_156 : decode code 156 = .ok (.iadd, 1) := by decide +kernel
theorem d_Law_law_157 : decode code 157 = .ok (.iaload, 1) := by decide +kernel
theorem d_Law_law_158 : decode code 158 = .ok (.i2d, 1) := by decide +kernel
theorem d_Law_law_159 : decode code 159 = .ok (.ldc2_w 85, 3) := by decide +kernel
theorem d_Law_law_162 : decode code 162 = .ok (.dmul, 1) := by decide +kernel
theorem d_Law_law_163 : decode code 163 = .ok (.aload_n 0, 1) := by decide +kernel
theorem d_Law_law_164 : decode code 164 = .ok (.iload 5, 2) := by decide +kernel
theorem d_Law_law_166 : decode code 166 = .ok (.iconst 3, 1) := by decide +kernel
theorem d_Law_law_167 : decode code 167 = .ok (.iadd, 1) := by decide +kernel
theorem d_Law_law_168 : decode code 168 = .ok (.iaload, 1) := by decide +kernel
theorem d_Law_law_169 : decode code 169 = .ok (.i2d, 1) := by decide +kernel
theorem d_Law_law_170 : decode code 170 = .ok (.ldc2_w 85, 3) := by decide +kernel
theorem d_Law_law_173 : decode code 173 = .ok (.dmul, 1) := by decide +kernel
theorem d_Law_law_174 : decode code 174 = .ok (.aload_n 0, 1) := by decide +kernel
theorem d_Law_law_175 : decode code 175 = .ok (.iload 5, 2) := by decide +kernel
theorem d_Law_law_177 : decode code 177 = .ok (.iconst 4, 1) := by decide +kernel
theorem d_Law_law_178 : decode code 178 = .ok (.iadd, 1) := by decide +kernel
theorem d_Law_law_179 : decode code 179 = .ok (.iaload, 1) := by decide +kernel
theorem d_Law_law_180 : decode code 180 = .ok (.aload_n 3, 1) := by decide +kernel
theorem d_Law_law_181 : decode code 181 = .ok (.invokestatic 87, 3) := by decide +kernel
theorem d_Law_law_184 : decode code 184 = .ok (.istore 6, 2) := by decide +kernel
theorem d_Law_law_186 : decode code 186 = .ok (.aload_n 2, 1) := by decide +kernel
theorem d_Law_law_187 : decode code 187 = .ok (.aload_n 0, 1) := by decide +kernel
theorem d_Law_law_188 : decode code 188 = .ok (.iload 5, 2) := by decide +kernel
theorem d_Law_law_190 : decode code 190 = .ok (.iconst 1, 1) := by decide +kernel
theorem d_Law_law_191 : decode code 191 = .ok (.iadd, 1) := by decide +kernel
theorem d_Law_law_192 : decode code 192 = .ok (.iaload, 1) := by decide +kernel
theorem d_Law_law_193 : decode code 193 = .ok (.i2d, 1) := by decide +kernel
theorem d_Law_law_194 : decode code 194 = .ok (.ldc2_w 85, 3) := by decide +kernel
theorem d_Law_law_197 : decode code 197 = .ok (.dmul, 1) := by decide +kernel
theorem d_Law_law_198 : decode code 198 = .ok (.aload_n 0, 1) := by decide +kernel
theorem d_Law_law_199 : decode code 199 = .ok (.iload 5, 2) := by decide +kernel
theorem d_Law_law_201 : decode code 201 = .ok (.iconst 2, 1) := by decide +kernel
theorem d_Law_law_202 : decode code 202 = .ok (.iadd, 1) := by decide +kernel
theorem d_Law_law_203 : decode code 203 = .ok (.iaload, 1) := by decide +kernel
theorem d_Law_law_204 : decode code 204 = .ok (.i2d, 1) := by decide +kernel
theorem d_Law_law_205 : decode code 205 = .ok (.ldc2_w 85, 3) := by decide +kernel
theorem d_Law_law_208 : decode code 208 = .ok (.dmul, 1) := by decide +kernel
theorem d_Law_law_209 : decode code 209 = .ok (.aload_n 0, 1) := by decide +kernel
theorem d_Law_law_210 : decode code 210 = .ok (.iload 5, 2) := by decide +kernel
theorem d_Law_law_212 : decode code 212 = .ok (.iconst 3, 1) := by decide +kernel
theorem d_Law_law_213 : decode code 213 = .ok (.iadd, 1) := by decide +kernel
theorem d_Law_law_214 : decode code 214 = .ok (.iaload, 1) := by decide +kernel
theorem d_Law_law_215 : decode code 215 = .ok (.i2d, 1) := by decide +kernel
theorem d_Law_law_216 : decode code 216 = .ok (.ldc2_w 85, 3) := by decide +kernel
theorem d_Law_law_219 : decode code 219 = .ok (.dmul, 1) := by decide +kernel
theorem d_Law_law_220 : decode code 220 = .ok (.aload_n 0, 1) := by decide +kernel
theorem d_Law_law_221 : decode code 221 = .ok (.iload 5, 2) := by decide +kernel
theorem d_Law_law_223 : decode code 223 = .ok (.iconst 4, 1) := by decide +kernel
theorem d_Law_law_224 : decode code 224 = .ok (.iadd, 1) := by decide +kernel
theorem d_Law_law_225 : decode code 225 = .ok (.iaload, 1) := by decide +kernel
theorem d_Law_law_226 : decode code 226 = .ok (.invokevirtual 90, 3) := by decide +kernel
theorem d_Law_law_229 : decode code 229 = .ok (.istore 7, 2) := by decide +kernel
theorem d_Law_law_231 : decode code 231 = .ok (.aload_n 2, 1) := by decide +kernel
theorem d_Law_law_232 : decode code 232 = .ok (.invokevirtual 91, 3) := by decide +kernel
theorem d_Law_law_235 : decode code 235 = .ok (.iload 6, 2) := by decide +kernel
theorem d_Law_law_237 : decode code 237 = .ok (.if_icmp .eq 5, 3) := by decide +kernel
theorem d_Law_law_240 : decode code 240 = .ok (.iconst 0, 1) := by decide +kernel
theorem d_Law_law_241 : decode code 241 = .ok (.ireturn, 1) := by decide +kernel
theorem d_Law_law_242 : decode code 242 = .ok (.iload 6, 2) := by decide +kernel
theorem d_Law_law_244 : decode code 244 = .ok (.ifCond .ne 15, 3) := by decide +kernel
theorem d_Law_law_247 : decode code 247 = .ok (.aload_n 3, 1) := by decide +kernel
theorem d_Law_law_248 : decode code 248 = .ok (.iconst 0, 1) := by decide +kernel
theorem d_Law_law_249 : decode code 249 = .ok (.laload, 1) := by decide +kernel
theorem d_Law_law_250 : decode code 250 = .ok (.iload 7, 2) := by decide +kernel
theorem d_Law_law_252 : decode code 252 = .ok (.i2l, 1) := by decide +kernel
theorem d_Law_law_253 : decode code 253 = .ok (.lcmp, 1) := by decide +kernel
theorem d_Law_law_254 : decode code 254 = .ok (.ifCond .eq 5, 3) := by decide +kernel
theorem d_Law_law_257 : decode code 257 = .ok (.iconst 0, 1) := by decide +kernel
theorem d_Law_law_258 : decode code 258 = .ok (.ireturn, 1) := by decide +kernel
theorem d_Law_law_259 : decode code 259 = .ok (.goto 1194, 3) := by decide +kernel
theorem d_Law_law_262 : decode code 262 = .ok (.aload_n 1, 1) := by decide +kernel
theorem d_Law_law_263 : decode code 263 = .ok (.aload_n 0, 1) := by decide +kernel
theorem d_Law_law_264 : decode code 264 = .ok (.iload 5, 2) := by decide +kernel
theorem d_Law_law_266 : decode code 266 = .ok (.iconst 1, 1) := by decide +kernel
theorem d_Law_law_267 : decode code 267 = .ok (.iadd, 1) := by decide +kernel
theorem d_Law_law_268 : decode code 268 = .ok (.iaload, 1) := by decide +kernel
theorem d_Law_law_269 : decode code 269 = .ok (.aload_n 0, 1) := by decide +kernel
theorem d_Law_law_270 : decode code 270 = .ok (.iload 5, 2) := by decide +kernel
theorem d_Law_law_272 : decode code 272 = .ok (.iconst 2, 1) := by decide +kernel
theorem d_Law_law_273 : decode code 273 = .ok (.iadd, 1) := by decide +kernel
theorem d_Law_law_274 : decode code 274 = .ok (.iaload, 1) := by decide +kernel
theorem d_Law_law_275 : decode code 275 = .ok (.i2d, 1) := by decide +kernel
theorem d_Law_law_276 : decode code 276 = .ok (.ldc2_w 85, 3) := by decide +kernel
theorem d_Law_law_279 : decode code 279 = .ok (.dmul, 1) := by decide +kernel
theorem d_Law_law_280 : decode code 280 = .ok (.aload_n 0, 1) := by decide +kernel
theorem d_Law_law_281 : decode code 281 = .ok (.iload 5, 2) := by decide +kernel
theorem d_Law_law_283 : decode code 283 = .ok (.iconst 3, 1) := by decide +kernel
theorem d_Law_law_284 : decode code 284 = .ok (.iadd, 1) := by decide +kernel
theorem d_Law_law_285 : decode code 285 = .ok (.iaload, 1) := by decide +kernel
theorem d_Law_law_286 : decode code 286 = .ok (.i2d, 1) := by decide +kernel
theorem d_Law_law_287 : decode code 287 = .ok (.ldc2_w 85, 3) := by decide +kernel
theorem d_Law_law_290 : decode code 290 = .ok (.dmul, 1) := by decide +kernel
theorem d_Law_law_291 : decode code 291 = .ok (.invokestatic 95, 3) := by decide +kernel
theorem d_Law_law_294 : decode code 294 = .ok (.istore 6, 2) := by decide +kernel
theorem d_Law_law_296 : decode code 296 = .ok (.aload_n 2, 1) := by decide +kernel
theorem d_Law_law_297 : decode code 297 = .ok (.aload_n 0, 1) := by decide +kernel
theorem d_Law_law_298 : decode code 298 = .ok (.iload 5, 2) := by decide +kernel
theorem d_Law_law_300 : decode code 300 = .ok (.iconst 1, 1) := by decide +kernel
theorem d_Law_law_301 : decode code 301 = .ok (.iadd, 1) := by decide +kernel
theorem d_Law_law_302 : decode code 302 = .ok (.iaload, 1) := by decide +kernel
theorem d_Law_law_303 : decode code 303 = .ok (.aload_n 0, 1) := by decide +kernel
theorem d_Law_law_304 : decode code 304 = .ok (.iload 5, 2) := by decide +kernel
theorem d_Law_law_306 : decode code 306 = .ok (.iconst 2, 1) := by decide +kernel
theorem d_Law_law_307 : decode code 307 = .ok (.iadd, 1) := by decide +kernel
theorem d_Law_law_308 : decode code 308 = .ok (.iaload, 1) := by decide +kernel
theorem d_Law_law_309 : decode code 309 = .ok (.i2d, 1) := by decide +kernel
theorem d_Law_law_310 : decode code 310 = .ok (.ldc2_w 85, 3) := by decide +kernel
theorem d_Law_law_313 : decode code 313 = .ok (.dmul, 1) := by decide +kernel
theorem d_Law_law_314 : decode code 314 = .ok (.aload_n 0, 1) := by decide +kernel
theorem d_Law_law_315 : decode code 315 = .ok (.iload 5, 2) := by decide +kernel
theorem d_Law_law_317 : decode code 317 = .ok (.iconst 3, 1) := by decide +kernel
theorem d_Law_law_318 : decode code 318 = .ok (.iadd, 1) := by decide +kernel
theorem d_Law_law_319 : decode code 319 = .ok (.iaload, 1) := by decide +kernel
theorem d_Law_law_320 : decode code 320 = .ok (.i2d, 1) := by decide +kernel
theorem d_Law_law_321 : decode code 321 = .ok (.ldc2_w 85, 3) := by decide +kernel
theorem d_Law_law_324 : decode code 324 = .ok (.dmul, 1) := by decide +kernel
theorem d_Law_law_325 : decode code 325 = .ok (.invokevirtual 98, 3) := by decide +kernel
theorem d_Law_law_328 : decode code 328 = .ok (.aload_n 2, 1) := by decide +kernel
theorem d_Law_law_329 : decode code 329 = .ok (.invokevirtual 91, 3) := by decide +kernel
theorem d_Law_law_332 : decode code 332 = .ok (.iload 6, 2) := by decide +kernel
theorem d_Law_law_334 : decode code 334 = .ok (.if_icmp .eq 5, 3) := by decide +kernel
theorem d_Law_law_337 : decode code 337 = .ok (.iconst 0, 1) := by decide +kernel
theorem d_Law_law_338 : decode code 338 = .ok (.ireturn, 1) := by decide +kernel
theorem d_Law_law_339 : decode code 339 = .ok (.goto 1114, 3) := by decide +kernel
theorem d_Law_law_342 : decode code 342 = .ok (.aload_n 1, 1) := by decide +kernel
theorem d_Law_law_343 : decode code 343 = .ok (.aload_n 0, 1) := by decide +kernel
theorem d_Law_law_344 : decode code 344 = .ok (.iload 5, 2) := by decide +kernel
theorem d_Law_law_346 : decode code 346 = .ok (.iconst 1, 1) := by decide +kernel
theorem d_Law_law_347 : decode code 347 = .ok (.iadd, 1) := by decide +kernel
theorem d_Law_law_348 : decode code 348 = .ok (.iaload, 1) := by decide +kernel
theorem d_Law_law_349 : decode code 349 = .ok (.aload_n 0, 1) := by decide +kernel
theorem d_Law_law_350 : decode code 350 = .ok (.iload 5, 2) := by decide +kernel
theorem d_Law_law_352 : decode code 352 = .ok (.iconst 2, 1) := by decide +kernel
theorem d_Law_law_353 : decode code 353 = .ok (.iadd, 1) := by decide +kernel
theorem d_Law_law_354 : decode code 354 = .ok (.iaload, 1) := by decide +kernel
theorem d_Law_law_355 : decode code 355 = .ok (.i2d, 1) := by decide +kernel
theorem d_Law_law_356 : decode code 356 = .ok (.ldc2_w 85, 3) := by decide +kernel
theorem d_Law_law_359 : decode code 359 = .ok (.dmul, 1) := by decide +kernel
theorem d_Law_law_360 : decode code 360 = .ok (.aload_n 0, 1) := by decide +kernel
theorem d_Law_law_361 : decode code 361 = .ok (.iload 5, 2) := by decide +kernel
theorem d_Law_law_363 : decode code 363 = .ok (.iconst 3, 1) := by decide +kernel
theorem d_Law_law_364 : decode code 364 = .ok (.iadd, 1) := by decide +kernel
theorem d_Law_law_365 : decode code 365 = .ok (.iaload, 1) := by decide +kernel
theorem d_Law_law_366 : decode code 366 = .ok (.i2d, 1) := by decide +kernel
theorem d_Law_law_367 : decode code 367 = .ok (.ldc2_w 85, 3) := by decide +kernel
theorem d_Law_law_370 : decode code 370 = .ok (.dmul, 1) := by decide +kernel
theorem d_Law_law_371 : decode code 371 = .ok (.invokestatic 99, 3) := by decide +kernel
theorem d_Law_law_374 : decode code 374 = .ok (.istore 6, 2) := by decide +kernel
theorem d_Law_law_376 : decode code 376 = .ok (.aload_n 2, 1) := by decide +kernel
theorem d_Law_law_377 : decode code 377 = .ok (.aload_n 0, 1) := by decide +kernel
theorem d_Law_law_378 : decode code 378 = .ok (.iload 5, 2) := by decide +kernel
theorem d_Law_law_380 : decode code 380 = .ok (.iconst 1, 1) := by decide +kernel
theorem d_Law_law_381 : decode code 381 = .ok (.iadd, 1) := by decide +kernel
theorem d_Law_law_382 : decode code 382 = .ok (.iaload, 1) := by decide +kernel
theorem d_Law_law_383 : decode code 383 = .ok (.aload_n 0, 1) := by decide +kernel
theorem d_Law_law_384 : decode code 384 = .ok (.iload 5, 2) := by decide +kernel
theorem d_Law_law_386 : decode code 386 = .ok (.iconst 2, 1) := by decide +kernel
theorem d_Law_law_387 : decode code 387 = .ok (.iadd, 1) := by decide +kernel
theorem d_Law_law_388 : decode code 388 = .ok (.iaload, 1) := by decide +kernel
theorem d_Law_law_389 : decode code 389 = .ok (.i2d, 1) := by decide +kernel
theorem d_Law_law_390 : decode code 390 = .ok (.ldc2_w 85, 3) := by decide +kernel
theorem d_Law_law_393 : decode code 393 = .ok (.dmul, 1) := by decide +kernel
theorem d_Law_law_394 : decode code 394 = .ok (.aload_n 0, 1) := by decide +kernel
theorem d_Law_law_395 : decode code 395 = .ok (.iload 5, 2) := by decide +kernel
theorem d_Law_law_397 : decode code 397 = .ok (.iconst 3, 1) := by decide +kernel
theorem d_Law_law_398 : decode code 398 = .ok (.iadd, 1) := by decide +kernel
theorem d_Law_law_399 : decode code 399 = .ok (.iaload, 1) := by decide +kernel
theorem d_Law_law_400 : decode code 400 = .ok (.i2d, 1) := by decide +kernel
theorem d_Law_law_401 : decode code 401 = .ok (.ldc2_w 85, 3) := by decide +kernel
theorem d_Law_law_404 : decode code 404 = .ok (.dmul, 1) := by decide +kernel
theorem d_Law_law_405 : decode code 405 = .ok (.invokevirtual 101, 3) := by decide +kernel
theorem d_Law_law_408 : decode code 408 = .ok (.aload_n 2, 1) := by decide +kernel
theorem d_Law_law_409 : decode code 409 = .ok (.invokevirtual 91, 3) := by decide +kernel
theorem d_Law_law_412 : decode code 412 = .ok (.iload 6, 2) := by decide +kernel
theorem d_Law_law_414 : decode code 414 = .ok (.if_icmp .eq 5, 3) := by decide +kernel
theorem d_Law_law_417 : decode code 417 = .ok (.iconst 0, 1) := by decide +kernel
theorem d_Law_law_418 : decode code 418 = .ok (.ireturn, 1) := by decide +kernel
theorem d_Law_law_419 : decode code 419 = .ok (.goto 1034, 3) := by decide +kernel
theorem d_Law_law_422 : decode code 422 = .ok (.aload_n 1, 1) := by decide +kernel
theorem d_Law_law_423 : decode code 423 = .ok (.aload_n 0, 1) := by decide +kernel
theorem d_Law_law_424 : decode code 424 = .ok (.iload 5, 2) := by decide +kernel
theorem d_Law_law_426 : decode code 426 = .ok (.iconst 1, 1) := by decide +kernel
theorem d_Law_law_427 : decode code 427 = .ok (.iadd, 1) := by decide +kernel
theorem d_Law_law_428 : decode code 428 = .ok (.iaload, 1) := by decide +kernel
theorem d_Law_law_429 : decode code 429 = .ok (.aload_n 0, 1) := by decide +kernel
theorem d_Law_law_430 : decode code 430 = .ok (.iload 5, 2) := by decide +kernel
theorem d_Law_law_432 : decode code 432 = .ok (.iconst 2, 1) := by decide +kernel
theorem d_Law_law_433 : decode code 433 = .ok (.iadd, 1) := by decide +kernel
theorem d_Law_law_434 : decode code 434 = .ok (.iaload, 1) := by decide +kernel
theorem d_Law_law_435 : decode code 435 = .ok (.i2d, 1) := by decide +kernel
theorem d_Law_law_436 : decode code 436 = .ok (.ldc2_w 85, 3) := by decide +kernel
theorem d_Law_law_439 : decode code 439 = .ok (.dmul, 1) := by decide +kernel
theorem d_Law_law_440 : decode code 440 = .ok (.aload_n 0, 1) := by decide +kernel
theorem d_Law_law_441 : decode code 441 = .ok (.iload 5, 2) := by decide +kernel
theorem d_Law_law_443 : decode code 443 = .ok (.iconst 3, 1) := by decide +kernel
theorem d_Law_law_444 : decode code 444 = .ok (.iadd, 1) := by decide +kernel
theorem d_Law_law_445 : decode code 445 = .ok (.iaload, 1) := by decide +kernel
theorem d_Law_law_446 : decode code 446 = .ok (.i2d, 1) := by decide +kernel
theorem d_Law_law_447 : decode code 447 = .ok (.ldc2_w 85, 3) := by decide +kernel
theorem d_Law_law_450 : decode code 450 = .ok (.dmul, 1) := by decide +kernel
theorem d_Law_law_451 : decode code 451 = .ok (.aload_n 0, 1) := by decide +kernel
theorem d_Law_law_452 : decode code 452 = .ok (.iload 5, 2) := by decide +kernel
theorem d_Law_law_454 : decode code 454 = .ok (.iconst 4, 1) := by decide +kernel
theorem d_Law_law_455 : decode code 455 = .ok (.iadd, 1) := by decide +kernel
theorem d_Law_law_456 : decode code 456 = .ok (.iaload, 1) := by decide +kernel
theorem d_Law_law_457 : decode code 457 = .ok (.i2d, 1) := by decide +kernel
theorem d_Law_law_458 : decode code 458 = .ok (.ldc2_w 85, 3) := by decide +kernel
theorem d_Law_law_461 : decode code 461 = .ok (.dmul, 1) := by decide +kernel
theorem d_Law_law_462 : decode code 462 = .ok (.invokestatic 102, 3) := by decide +kernel
theorem d_Law_law_465 : decode code 465 = .ok (.istore 6, 2) := by decide +kernel
theorem d_Law_law_467 : decode code 467 = .ok (.aload_n 2, 1) := by decide +kernel
theorem d_Law_law_468 : decode code 468 = .ok (.aload_n 0, 1) := by decide +kernel
theorem d_Law_law_469 : decode code 469 = .ok (.iload 5, 2) := by decide +kernel
theorem d_Law_law_471 : decode code 471 = .ok (.iconst 1, 1) := by decide +kernel
theorem d_Law_law_472 : decode code 472 = .ok (.iadd, 1) := by decide +kernel
theorem d_Law_law_473 : decode code 473 = .ok (.iaload, 1) := by decide +kernel
theorem d_Law_law_474 : decode code 474 = .ok (.aload_n 0, 1) := by decide +kernel
theorem d_Law_law_475 : decode code 475 = .ok (.iload 5, 2) := by decide +kernel
theorem d_Law_law_477 : decode code 477 = .ok (.iconst 2, 1) := by decide +kernel
theorem d_Law_law_478 : decode code 478 = .ok (.iadd, 1) := by decide +kernel
theorem d_Law_law_479 : decode code 479 = .ok (.iaload, 1) := by decide +kernel
theorem d_Law_law_480 : decode code 480 = .ok (.i2d, 1) := by decide +kernel
theorem d_Law_law_481 : decode code 481 = .ok (.ldc2_w 85, 3) := by decide +kernel
theorem d_Law_law_484 : decode code 484 = .ok (.dmul, 1) := by decide +kernel
theorem d_Law_law_485 : decode code 485 = .ok (.aload_n 0, 1) := by decide +kernel
theorem d_Law_law_486 : decode code 486 = .ok (.iload 5, 2) := by decide +kernel
theorem d_Law_law_488 : decode code 488 = .ok (.iconst 3, 1) := by decide +kernel
theorem d_Law_law_489 : decode code 489 = .ok (.iadd, 1) := by decide +kernel
theorem d_Law_law_490 : decode code 490 = .ok (.iaload, 1) := by decide +kernel
theorem d_Law_law_491 : decode code 491 = .ok (.i2d, 1) := by decide +kernel
theorem d_Law_law_492 : decode code 492 = .ok (.ldc2_w 85, 3) := by decide +kernel
theorem d_Law_law_495 : decode code 495 = .ok (.dmul, 1) := by decide +kernel
theorem d_Law_law_496 : decode code 496 = .ok (.aload_n 0, 1) := by decide +kernel
theorem d_Law_law_497 : decode code 497 = .ok (.iload 5, 2) := by decide +kernel
theorem d_Law_law_499 : decode code 499 = .ok (.iconst 4, 1) := by decide +kernel
theorem d_Law_law_500 : decode code 500 = .ok (.iadd, 1) := by decide +kernel
theorem d_Law_law_501 : decode code 501 = .ok (.iaload, 1) := by decide +kernel
theorem d_Law_law_502 : decode code 502 = .ok (.i2d, 1) := by decide +kernel
theorem d_Law_law_503 : decode code 503 = .ok (.ldc2_w 85, 3) := by decide +kernel
theorem d_Law_law_506 : decode code 506 = .ok (.dmul, 1) := by decide +kernel
theorem d_Law_law_507 : decode code 507 = .ok (.invokevirtual 105, 3) := by decide +kernel
theorem d_Law_law_510 : decode code 510 = .ok (.aload_n 2, 1) := by decide +kernel
theorem d_Law_law_511 : decode code 511 = .ok (.invokevirtual 91, 3) := by decide +kernel
theorem d_Law_law_514 : decode code 514 = .ok (.iload 6, 2) := by decide +kernel
theorem d_Law_law_516 : decode code 516 = .ok (.if_icmp .eq 5, 3) := by decide +kernel
theorem d_Law_law_519 : decode code 519 = .ok (.iconst 0, 1) := by decide +kernel
theorem d_Law_law_520 : decode code 520 = .ok (.ireturn, 1) := by decide +kernel
theorem d_Law_law_521 : decode code 521 = .ok (.goto 932, 3) := by decide +kernel
theorem d_Law_law_524 : decode code 524 = .ok (.aload_n 1, 1) := by decide +kernel
theorem d_Law_law_525 : decode code 525 = .ok (.aload_n 0, 1) := by decide +kernel
theorem d_Law_law_526 : decode code 526 = .ok (.iload 5, 2) := by decide +kernel
theorem d_Law_law_528 : decode code 528 = .ok (.iconst 1, 1) := by decide +kernel
theorem d_Law_law_529 : decode code 529 = .ok (.iadd, 1) := by decide +kernel
theorem d_Law_law_530 : decode code 530 = .ok (.iaload, 1) := by decide +kernel
theorem d_Law_law_531 : decode code 531 = .ok (.i2d, 1) := by decide +kernel
theorem d_Law_law_532 : decode code 532 = .ok (.ldc2_w 85, 3) := by decide +kernel
theorem d_Law_law_535 : decode code 535 = .ok (.dmul, 1) := by decide +kernel
theorem d_Law_law_536 : decode code 536 = .ok (.aload_n 0, 1) := by decide +kernel
theorem d_Law_law_537 : decode code 537 = .ok (.iload 5, 2) := by decide +kernel
theorem d_Law_law_539 : decode code 539 = .ok (.iconst 2, 1) := by decide +kernel
theorem d_Law_law_540 : decode code 540 = .ok (.iadd, 1) := by decide +kernel
theorem d_Law_law_541 : decode code 541 = .ok (.iaload, 1) := by decide +kernel
theorem d_Law_law_542 : decode code 542 = .ok (.i2d, 1) := by decide +kernel
theorem d_Law_law_543 : decode code 543 = .ok (.ldc2_w 85, 3) := by decide +kernel
theorem d_Law_law_546 : decode code 546 = .ok (.dmul, 1) := by decide +kernel
theorem d_Law_law_547 : decode code 547 = .ok (.invokestatic 106, 3) := by decide +kernel
theorem d_Law_law_550 : decode code 550 = .ok (.istore 6, 2) := by decide +kernel
theorem d_Law_law_552 : decode code 552 = .ok (.aload_n 2, 1) := by decide +kernel
theorem d_Law_law_553 : decode code 553 = .ok (.aload_n 0, 1) := by decide +kernel
theorem d_Law_law_554 : decode code 554 = .ok (.iload 5, 2) := by decide +kernel
theorem d_Law_law_556 : decode code 556 = .ok (.iconst 1, 1) := by decide +kernel
theorem d_Law_law_557 : decode code 557 = .ok (.iadd, 1) := by decide +kernel
theorem d_Law_law_558 : decode code 558 = .ok (.iaload, 1) := by decide +kernel
theorem d_Law_law_559 : decode code 559 = .ok (.i2d, 1) := by decide +kernel
theorem d_Law_law_560 : decode code 560 = .ok (.ldc2_w 85, 3) := by decide +kernel
theorem d_Law_law_563 : decode code 563 = .ok (.dmul, 1) := by decide +kernel
theorem d_Law_law_564 : decode code 564 = .ok (.aload_n 0, 1) := by decide +kernel
theorem d_Law_law_565 : decode code 565 = .ok (.iload 5, 2) := by decide +kernel
theorem d_Law_law_567 : decode code 567 = .ok (.iconst 2, 1) := by decide +kernel
theorem d_Law_law_568 : decode code 568 = .ok (.iadd, 1) := by decide +kernel
theorem d_Law_law_569 : decode code 569 = .ok (.iaload, 1) := by decide +kernel
theorem d_Law_law_570 : decode code 570 = .ok (.i2d, 1) := by decide +kernel
theorem d_Law_law_571 : decode code 571 = .ok (.ldc2_w 85, 3) := by decide +kernel
theorem d_Law_law_574 : decode code 574 = .ok (.dmul, 1) := by decide +kernel
theorem d_Law_law_575 : decode code 575 = .ok (.invokevirtual 109, 3) := by decide +kernel
theorem d_Law_law_578 : decode code 578 = .ok (.aload_n 2, 1) := by decide +kernel
theorem d_Law_law_579 : decode code 579 = .ok (.invokevirtual 91, 3) := by decide +kernel
theorem d_Law_law_582 : decode code 582 = .ok (.iload 6, 2) := by decide +kernel
theorem d_Law_law_584 : decode code 584 = .ok (.if_icmp .eq 5, 3) := by decide +kernel
theorem d_Law_law_587 : decode code 587 = .ok (.iconst 0, 1) := by decide +kernel
theorem d_Law_law_588 : decode code 588 = .ok (.ireturn, 1) := by decide +kernel
theorem d_Law_law_589 : decode code 589 = .ok (.goto 864, 3) := by decide +kernel
theorem d_Law_law_592 : decode code 592 = .ok (.aload_n 1, 1) := by decide +kernel
theorem d_Law_law_593 : decode code 593 = .ok (.aload_n 0, 1) := by decide +kernel
theorem d_Law_law_594 : decode code 594 = .ok (.iload 5, 2) := by decide +kernel
theorem d_Law_law_596 : decode code 596 = .ok (.iconst 1, 1) := by decide +kernel
theorem d_Law_law_597 : decode code 597 = .ok (.iadd, 1) := by decide +kernel
theorem d_Law_law_598 : decode code 598 = .ok (.iaload, 1) := by decide +kernel
theorem d_Law_law_599 : decode code 599 = .ok (.aload_n 0, 1) := by decide +kernel
theorem d_Law_law_600 : decode code 600 = .ok (.iload 5, 2) := by decide +kernel
theorem d_Law_law_602 : decode code 602 = .ok (.iconst 2, 1) := by decide +kernel
theorem d_Law_law_603 : decode code 603 = .ok (.iadd, 1) := by decide +kernel
theorem d_Law_law_604 : decode code 604 = .ok (.iaload, 1) := by decide +kernel
theorem d_Law_law_605 : decode code 605 = .ok (.aload_n 0, 1) := by decide +kernel
theorem d_Law_law_606 : decode code 606 = .ok (.iload 5, 2) := by decide +kernel
theorem d_Law_law_608 : decode code 608 = .ok (.iconst 3, 1) := by decide +kernel
theorem d_Law_law_609 : decode code 609 = .ok (.iadd, 1) := by decide +kernel
theorem d_Law_law_610 : decode code 610 = .ok (.iaload, 1) := by decide +kernel
theorem d_Law_law_611 : decode code 611 = .ok (.i2d, 1) := by decide +kernel
theorem d_Law_law_612 : decode code 612 = .ok (.ldc2_w 85, 3) := by decide +kernel
theorem d_Law_law_615 : decode code 615 = .ok (.dmul, 1) := by decide +kernel
theorem d_Law_law_616 : decode code 616 = .ok (.aload_n 0, 1) := by decide +kernel
theorem d_Law_law_617 : decode code 617 = .ok (.iload 5, 2) := by decide +kernel
theorem d_Law_law_619 : decode code 619 = .ok (.iconst 4, 1) := by decide +kernel
theorem d_Law_law_620 : decode code 620 = .ok (.iadd, 1) := by decide +kernel
theorem d_Law_law_621 : decode code 621 = .ok (.iaload, 1) := by decide +kernel
theorem d_Law_law_622 : decode code 622 = .ok (.i2d, 1) := by decide +kernel
theorem d_Law_law_623 : decode code 623 = .ok (.ldc2_w 85, 3) := by decide +kernel
theorem d_Law_law_626 : decode code 626 = .ok (.dmul, 1) := by decide +kernel
theorem d_Law_law_627 : decode code 627 = .ok (.aload_n 3, 1) := by decide +kernel
theorem d_Law_law_628 : decode code 628 = .ok (.invokestatic 110, 3) := by decide +kernel
theorem d_Law_law_631 : decode code 631 = .ok (.istore 6, 2) := by decide +kernel
theorem d_Law_law_633 : decode code 633 = .ok (.aload_n 2, 1) := by decide +kernel
theorem d_Law_law_634 : decode code 634 = .ok (.aload_n 0, 1) := by decide +kernel
theorem d_Law_law_635 : decode code 635 = .ok (.iload 5, 2) := by decide +kernel
theorem d_Law_law_637 : decode code 637 = .ok (.iconst 1, 1) := by decide +kernel
theorem d_Law_law_638 : decode code 638 = .ok (.iadd, 1) := by decide +kernel
theorem d_Law_law_639 : decode code 639 = .ok (.iaload, 1) := by decide +kernel
theorem d_Law_law_640 : decode code 640 = .ok (.aload_n 0, 1) := by decide +kernel
theorem d_Law_law_641 : decode code 641 = .ok (.iload 5, 2) := by decide +kernel
theorem d_Law_law_643 : decode code 643 = .ok (.iconst 2, 1) := by decide +kernel
theorem d_Law_law_644 : decode code 644 = .ok (.iadd, 1) := by decide +kernel
theorem d_Law_law_645 : decode code 645 = .ok (.iaload, 1) := by decide +kernel
theorem d_Law_law_646 : decode code 646 = .ok (.aload_n 0, 1) := by decide +kernel
theorem d_Law_law_647 : decode code 647 = .ok (.iload 5, 2) := by decide +kernel
theorem d_Law_law_649 : decode code 649 = .ok (.iconst 3, 1) := by decide +kernel
theorem d_Law_law_650 : decode code 650 = .ok (.iadd, 1) := by decide +kernel
theorem d_Law_law_651 : decode code 651 = .ok (.iaload, 1) := by decide +kernel
theorem d_Law_law_652 : decode code 652 = .ok (.i2d, 1) := by decide +kernel
theorem d_Law_law_653 : decode code 653 = .ok (.ldc2_w 85, 3) := by decide +kernel
theorem d_Law_law_656 : decode code 656 = .ok (.dmul, 1) := by decide +kernel
theorem d_Law_law_657 : decode code 657 = .ok (.aload_n 0, 1) := by decide +kernel
theorem d_Law_law_658 : decode code 658 = .ok (.iload 5, 2) := by decide +kernel
theorem d_Law_law_660 : decode code 660 = .ok (.iconst 4, 1) := by decide +kernel
theorem d_Law_law_661 : decode code 661 = .ok (.iadd, 1) := by decide +kernel
theorem d_Law_law_662 : decode code 662 = .ok (.iaload, 1) := by decide +kernel
theorem d_Law_law_663 : decode code 663 = .ok (.i2d, 1) := by decide +kernel
theorem d_Law_law_664 : decode code 664 = .ok (.ldc2_w 85, 3) := by decide +kernel
theorem d_Law_law_667 : decode code 667 = .ok (.dmul, 1) := by decide +kernel
theorem d_Law_law_668 : decode code 668 = .ok (.invokevirtual 113, 3) := by decide +kernel
theorem d_Law_law_671 : decode code 671 = .ok (.istore 7, 2) := by decide +kernel
theorem d_Law_law_673 : decode code 673 = .ok (.aload_n 2, 1) := by decide +kernel
theorem d_Law_law_674 : decode code 674 = .ok (.invokevirtual 91, 3) := by decide +kernel
theorem d_Law_law_677 : decode code 677 = .ok (.iload 6, 2) := by decide +kernel
theorem d_Law_law_679 : decode code 679 = .ok (.if_icmp .eq 5, 3) := by decide +kernel
theorem d_Law_law_682 : decode code 682 = .ok (.iconst 0, 1) := by decide +kernel
theorem d_Law_law_683 : decode code 683 = .ok (.ireturn, 1) := by decide +kernel
theorem d_Law_law_684 : decode code 684 = .ok (.iload 6, 2) := by decide +kernel
theorem d_Law_law_686 : decode code 686 = .ok (.ifCond .ne 15, 3) := by decide +kernel
theorem d_Law_law_689 : decode code 689 = .ok (.aload_n 3, 1) := by decide +kernel
theorem d_Law_law_690 : decode code 690 = .ok (.iconst 0, 1) := by decide +kernel
theorem d_Law_law_691 : decode code 691 = .ok (.laload, 1) := by decide +kernel
theorem d_Law_law_692 : decode code 692 = .ok (.iload 7, 2) := by decide +kernel
theorem d_Law_law_694 : decode code 694 = .ok (.i2l, 1) := by decide +kernel
theorem d_Law_law_695 : decode code 695 = .ok (.lcmp, 1) := by decide +kernel
theorem d_Law_law_696 : decode code 696 = .ok (.ifCond .eq 5, 3) := by decide +kernel
theorem d_Law_law_699 : decode code 699 = .ok (.iconst 0, 1) := by decide +kernel
theorem d_Law_law_700 : decode code 700 = .ok (.ireturn, 1) := by decide +kernel
theorem d_Law_law_701 : decode code 701 = .ok (.goto 752, 3) := by decide +kernel
theorem d_Law_law_704 : decode code 704 = .ok (.aload_n 1, 1) := by decide +kernel
theorem d_Law_law_705 : decode code 705 = .ok (.aload_n 0, 1) := by decide +kernel
theorem d_Law_law_706 : decode code 706 = .ok (.iload 5, 2) := by decide +kernel
theorem d_Law_law_708 : decode code 708 = .ok (.iconst 1, 1) := by decide +kernel
theorem d_Law_law_709 : decode code 709 = .ok (.iadd, 1) := by decide +kernel
theorem d_Law_law_710 : decode code 710 = .ok (.iaload, 1) := by decide +kernel
theorem d_Law_law_711 : decode code 711 = .ok (.aload_n 0, 1) := by decide +kernel
theorem d_Law_law_712 : decode code 712 = .ok (.iload 5, 2) := by decide +kernel
theorem d_Law_law_714 : decode code 714 = .ok (.iconst 2, 1) := by decide +kernel
theorem d_Law_law_715 : decode code 715 = .ok (.iadd, 1) := by decide +kernel
theorem d_Law_law_716 : decode code 716 = .ok (.iaload, 1) := by decide +kernel
theorem d_Law_law_717 : decode code 717 = .ok (.aload_n 0, 1) := by decide +kernel
theorem d_Law_law_718 : decode code 718 = .ok (.iload 5, 2) := by decide +kernel
theorem d_Law_law_720 : decode code 720 = .ok (.iconst 3, 1) := by decide +kernel
theorem d_Law_law_721 : decode code 721 = .ok (.iadd, 1) := by decide +kernel
theorem d_Law_law_722 : decode code 722 = .ok (.iaload, 1) := by decide +kernel
theorem d_Law_law_723 : decode code 723 = .ok (.i2d, 1) := by decide +kernel
theorem d_Law_law_724 : decode code 724 = .ok (.ldc2_w 85, 3) := by decide +kernel
theorem d_Law_law_727 : decode code 727 = .ok (.dmul, 1) := by decide +kernel
theorem d_Law_law_728 : decode code 728 = .ok (.aload_n 3, 1) := by decide +kernel
theorem d_Law_law_729 : decode code 729 = .ok (.invokestatic 114, 3) := by decide +kernel
theorem d_Law_law_732 : decode code 732 = .ok (.istore 6, 2) := by decide +kernel
theorem d_Law_law_734 : decode code 734 = .ok (.aload_n 2, 1) := by decide +kernel
theorem d_Law_law_735 : decode code 735 = .ok (.aload_n 0, 1) := by decide +kernel
theorem d_Law_law_736 : decode code 736 = .ok (.iload 5, 2) := by decide +kernel
theorem d_Law_law_738 : decode code 738 = .ok (.iconst 1, 1) := by decide +kernel
theorem d_Law_law_739 : decode code 739 = .ok (.iadd, 1) := by decide +kernel
theorem d_Law_law_740 : decode code 740 = .ok (.iaload, 1) := by decide +kernel
theorem d_Law_law_741 : decode code 741 = .ok (.aload_n 0, 1) := by decide +kernel
theorem d_Law_law_742 : decode code 742 = .ok (.iload 5, 2) := by decide +kernel
theorem d_Law_law_744 : decode code 744 = .ok (.iconst 2, 1) := by decide +kernel
theorem d_Law_law_745 : decode code 745 = .ok (.iadd, 1) := by decide +kernel
theorem d_Law_law_746 : decode code 746 = .ok (.iaload, 1) := by decide +kernel
theorem d_Law_law_747 : decode code 747 = .ok (.aload_n 0, 1) := by decide +kernel
theorem d_Law_law_748 : decode code 748 = .ok (.iload 5, 2) := by decide +kernel
theorem d_Law_law_750 : decode code 750 = .ok (.iconst 3, 1) := by decide +kernel
theorem d_Law_law_751 : decode code 751 = .ok (.iadd, 1) := by decide +kernel
theorem d_Law_law_752 : decode code 752 = .ok (.iaload, 1) := by decide +kernel
theorem d_Law_law_753 : decode code 753 = .ok (.i2d, 1) := by decide +kernel
theorem d_Law_law_754 : decode code 754 = .ok (.ldc2_w 85, 3) := by decide +kernel
theorem d_Law_law_757 : decode code 757 = .ok (.dmul, 1) := by decide +kernel
theorem d_Law_law_758 : decode code 758 = .ok (.invokevirtual 117, 3) := by decide +kernel
theorem d_Law_law_761 : decode code 761 = .ok (.istore 7, 2) := by decide +kernel
theorem d_Law_law_763 : decode code 763 = .ok (.aload_n 2, 1) := by decide +kernel
theorem d_Law_law_764 : decode code 764 = .ok (.invokevirtual 91, 3) := by decide +kernel
theorem d_Law_law_767 : decode code 767 = .ok (.iload 6, 2) := by decide +kernel
theorem d_Law_law_769 : decode code 769 = .ok (.if_icmp .eq 5, 3) := by decide +kernel
theorem d_Law_law_772 : decode code 772 = .ok (.iconst 0, 1) := by decide +kernel
theorem d_Law_law_773 : decode code 773 = .ok (.ireturn, 1) := by decide +kernel
theorem d_Law_law_774 : decode code 774 = .ok (.iload 6, 2) := by decide +kernel
theorem d_Law_law_776 : decode code 776 = .ok (.ifCond .ne 15, 3) := by decide +kernel
theorem d_Law_law_779 : decode code 779 = .ok (.aload_n 3, 1) := by decide +kernel
theorem d_Law_law_780 : decode code 780 = .ok (.iconst 0, 1) := by decide +kernel
theorem d_Law_law_781 : decode code 781 = .ok (.laload, 1) := by decide +kernel
theorem d_Law_law_782 : decode code 782 = .ok (.iload 7, 2) := by decide +kernel
theorem d_Law_law_784 : decode code 784 = .ok (.i2l, 1) := by decide +kernel
theorem d_Law_law_785 : decode code 785 = .ok (.lcmp, 1) := by decide +kernel
theorem d_Law_law_786 : decode code 786 = .ok (.ifCond .eq 5, 3) := by decide +kernel
theorem d_Law_law_789 : decode code 789 = .ok (.iconst 0, 1) := by decide +kernel
theorem d_Law_law_790 : decode code 790 = .ok (.ireturn, 1) := by decide +kernel
theorem d_Law_law_791 : decode code 791 = .ok (.goto 662, 3) := by decide +kernel
theorem d_Law_law_794 : decode code 794 = .ok (.aload_n 1, 1) := by decide +kernel
theorem d_Law_law_795 : decode code 795 = .ok (.aload_n 0, 1) := by decide +kernel
theorem d_Law_law_796 : decode code 796 = .ok (.iload 5, 2) := by decide +kernel
theorem d_Law_law_798 : decode code 798 = .ok (.iconst 1, 1) := by decide +kernel
theorem d_Law_law_799 : decode code 799 = .ok (.iadd, 1) := by decide +kernel
theorem d_Law_law_800 : decode code 800 = .ok (.iaload, 1) := by decide +kernel
theorem d_Law_law_801 : decode code 801 = .ok (.aload_n 0, 1) := by decide +kernel
theorem d_Law_law_802 : decode code 802 = .ok (.iload 5, 2) := by decide +kernel
theorem d_Law_law_804 : decode code 804 = .ok (.iconst 2, 1) := by decide +kernel
theorem d_Law_law_805 : decode code 805 = .ok (.iadd, 1) := by decide +kernel
theorem d_Law_law_806 : decode code 806 = .ok (.iaload, 1) := by decide +kernel
theorem d_Law_law_807 : decode code 807 = .ok (.ifCond .eq 7, 3) := by decide +kernel
theorem d_Law_law_810 : decode code 810 = .ok (.iconst 1, 1) := by decide +kernel
theorem d_Law_law_811 : decode code 811 = .ok (.goto 4, 3) := by decide +kernel
theorem d_Law_law_814 : decode code 814 = .ok (.iconst 0, 1) := by decide +kernel
theorem d_Law_law_815 : decode code 815 = .ok (.invokestatic 118, 3) := by decide +kernel
theorem d_Law_law_818 : decode code 818 = .ok (.istore 6, 2) := by decide +kernel
theorem d_Law_law_820 : decode code 820 = .ok (.aload_n 2, 1) := by decide +kernel
theorem d_Law_law_821 : decode code 821 = .ok (.aload_n 0, 1) := by decide +kernel
theorem d_Law_law_822 : decode code 822 = .ok (.iload 5, 2) := by decide +kernel
theorem d_Law_law_824 : decode code 824 = .ok (.iconst 1, 1) := by decide +kernel
theorem d_Law_law_825 : decode code 825 = .ok (.iadd, 1) := by decide +kernel
theorem d_Law_law_826 : decode code 826 = .ok (.iaload, 1) := by decide +kernel
theorem d_Law_law_827 : decode code 827 = .ok (.aload_n 0, 1) := by decide +kernel
theorem d_Law_law_828 : decode code 828 = .ok (.iload 5, 2) := by decide +kernel
theorem d_Law_law_830 : decode code 830 = .ok (.iconst 2, 1) := by decide +kernel
theorem d_Law_law_831 : decode code 831 = .ok (.iadd, 1) := by decide +kernel
theorem d_Law_law_832 : decode code 832 = .ok (.iaload, 1) := by decide +kernel
theorem d_Law_law_833 : decode code 833 = .ok (.ifCond .eq 7, 3) := by decide +kernel
theorem d_Law_law_836 : decode code 836 = .ok (.iconst 1, 1) := by decide +kernel
theorem d_Law_law_837 : decode code 837 = .ok (.goto 4, 3) := by decide +kernel
theorem d_Law_law_840 : decode code 840 = .ok (.iconst 0, 1) := by decide +kernel
theorem d_Law_law_841 : decode code 841 = .ok (.invokevirtual 121, 3) := by decide +kernel
theorem d_Law_law_844 : decode code 844 = .ok (.aload_n 2, 1) := by decide +kernel
theorem d_Law_law_845 : decode code 845 = .ok (.invokevirtual 91, 3) := by decide +kernel
theorem d_Law_law_848 : decode code 848 = .ok (.iload 6, 2) := by decide +kernel
theorem d_Law_law_850 : decode code 850 = .ok (.if_icmp .eq 5, 3) := by decide +kernel
theorem d_Law_law_853 : decode code 853 = .ok (.iconst 0, 1) := by decide +kernel
theorem d_Law_law_854 : decode code 854 = .ok (.ireturn, 1) := by decide +kernel
theorem d_Law_law_855 : decode code 855 = .ok (.goto 598, 3) := by decide +kernel
theorem d_Law_law_858 : decode code 858 = .ok (.aload_n 1, 1) := by decide +kernel
theorem d_Law_law_859 : decode code 859 = .ok (.aload_n 0, 1) := by decide +kernel
theorem d_Law_law_860 : decode code 860 = .ok (.iload 5, 2) := by decide +kernel
theorem d_Law_law_862 : decode code 862 = .ok (.iconst 1, 1) := by decide +kernel
theorem d_Law_law_863 : decode code 863 = .ok (.iadd, 1) := by decide +kernel
theorem d_Law_law_864 : decode code 864 = .ok (.iaload, 1) := by decide +kernel
theorem d_Law_law_865 : decode code 865 = .ok (.i2d, 1) := by decide +kernel
theorem d_Law_law_866 : decode code 866 = .ok (.ldc2_w 85, 3) := by decide +kernel
theorem d_Law_law_869 : decode code 869 = .ok (.dmul, 1) := by decide +kernel
theorem d_Law_law_870 : decode code 870 = .ok (.invokestatic 122, 3) := by decide +kernel
theorem d_Law_law_873 : decode code 873 = .ok (.istore 6, 2) := by decide +kernel
theorem d_Law_law_875 : decode code 875 = .ok (.aload_n 2, 1) := by decide +kernel
theorem d_Law_law_876 : decode code 876 = .ok (.aload_n 0, 1) := by decide +kernel
theorem d_Law_law_877 : decode code 877 = .ok (.iload 5, 2) := by decide +kernel
theorem d_Law_law_879 : decode code 879 = .ok (.iconst 1, 1) := by decide +kernel
theorem d_Law_law_880 : decode code 880 = .ok (.iadd, 1) := by decide +kernel
theorem d_Law_law_881 : decode code 881 = .ok (.iaload, 1) := by decide +kernel
theorem d_Law_law_882 : decode code 882 = .ok (.i2d, 1) := by decide +kernel
theorem d_Law_law_883 : decode code 883 = .ok (.ldc2_w 85, 3) := by decide +kernel
theorem d_Law_law_886 : decode code 886 = .ok (.dmul, 1) := by decide +kernel
theorem d_Law_law_887 : decode code 887 = .ok (.invokevirtual 125, 3) := by decide +kernel
theorem d_Law_law_890 : decode code 890 = .ok (.aload_n 2, 1) := by decide +kernel
theorem d_Law_law_891 : decode code 891 = .ok (.invokevirtual 91, 3) := by decide +kernel
theorem d_Law_law_894 : decode code 894 = .ok (.iload 6, 2) := by decide +kernel
theorem d_Law_law_896 : decode code 896 = .ok (.if_icmp .eq 5, 3) := by decide +kernel
theorem d_Law_law_899 : decode code 899 = .ok (.iconst 0, 1) := by decide +kernel
theorem d_Law_law_900 : decode code 900 = .ok (.ireturn, 1) := by decide +kernel
theorem d_Law_law_901 : decode code 901 = .ok (.goto 552, 3) := by decide +kernel
theorem d_Law_law_904 : decode code 904 = .ok (.aload_n 1, 1) := by decide +kernel
theorem d_Law_law_905 : decode code 905 = .ok (.aload_n 0, 1) := by decide +kernel
theorem d_Law_law_906 : decode code 906 = .ok (.iload 5, 2) := by decide +kernel
theorem d_Law_law_908 : decode code 908 = .ok (.iconst 1, 1) := by decide +kernel
theorem d_Law_law_909 : decode code 909 = .ok (.iadd, 1) := by decide +kernel
theorem d_Law_law_910 : decode code 910 = .ok (.iaload, 1) := by decide +kernel
theorem d_Law_law_911 : decode code 911 = .ok (.aload_n 0, 1) := by decide +kernel
theorem d_Law_law_912 : decode code 912 = .ok (.iload 5, 2) := by decide +kernel
theorem d_Law_law_914 : decode code 914 = .ok (.iconst 2, 1) := by decide +kernel
theorem d_Law_law_915 : decode code 915 = .ok (.iadd, 1) := by decide +kernel
theorem d_Law_law_916 : decode code 916 = .ok (.iaload, 1) := by decide +kernel
theorem d_Law_law_917 : decode code 917 = .ok (.invokestatic 126, 3) := by decide +kernel
theorem d_Law_law_920 : decode code 920 = .ok (.istore 6, 2) := by decide +kernel
theorem d_Law_law_922 : decode code 922 = .ok (.aload_n 2, 1) := by decide +kernel
theorem d_Law_law_923 : decode code 923 = .ok (.aload_n 0, 1) := by decide +kernel
theorem d_Law_law_924 : decode code 924 = .ok (.iload 5, 2) := by decide +kernel
theorem d_Law_law_926 : decode code 926 = .ok (.iconst 1, 1) := by decide +kernel
theorem d_Law_law_927 : decode code 927 = .ok (.iadd, 1) := by decide +kernel
theorem d_Law_law_928 : decode code 928 = .ok (.iaload, 1) := by decide +kernel
theorem d_Law_law_929 : decode code 929 = .ok (.aload_n 0, 1) := by decide +kernel
theorem d_Law_law_930 : decode code 930 = .ok (.iload 5, 2) := by decide +kernel
theorem d_Law_law_932 : decode code 932 = .ok (.iconst 2, 1) := by decide +kernel
theorem d_Law_law_933 : decode code 933 = .ok (.iadd, 1) := by decide +kernel
theorem d_Law_law_934 : decode code 934 = .ok (.iaload, 1) := by decide +kernel
theorem d_Law_law_935 : decode code 935 = .ok (.invokevirtual 129, 3) := by decide +kernel
theorem d_Law_law_938 : decode code 938 = .ok (.aload_n 2, 1) := by decide +kernel
theorem d_Law_law_939 : decode code 939 = .ok (.invokevirtual 91, 3) := by decide +kernel
theorem d_Law_law_942 : decode code 942 = .ok (.iload 6, 2) := by decide +kernel
theorem d_Law_law_944 : decode code 944 = .ok (.if_icmp .eq 5, 3) := by decide +kernel
theorem d_Law_law_947 : decode code 947 = .ok (.iconst 0, 1) := by decide +kernel
theorem d_Law_law_948 : decode code 948 = .ok (.ireturn, 1) := by decide +kernel
theorem d_Law_law_949 : decode code 949 = .ok (.goto 504, 3) := by decide +kernel
theorem d_Law_law_952 : decode code 952 = .ok (.aload_n 1, 1) := by decide +kernel
theorem d_Law_law_953 : decode code 953 = .ok (.aload_n 0, 1) := by decide +kernel
theorem d_Law_law_954 : decode code 954 = .ok (.iload 5, 2) := by decide +kernel
theorem d_Law_law_956 : decode code 956 = .ok (.iconst 1, 1) := by decide +kernel
theorem d_Law_law_957 : decode code 957 = .ok (.iadd, 1) := by decide +kernel
theorem d_Law_law_958 : decode code 958 = .ok (.iaload, 1) := by decide +kernel
theorem d_Law_law_959 : decode code 959 = .ok (.i2d, 1) := by decide +kernel
theorem d_Law_law_960 : decode code 960 = .ok (.ldc2_w 85, 3) := by decide +kernel
theorem d_Law_law_963 : decode code 963 = .ok (.dmul, 1) := by decide +kernel
theorem d_Law_law_964 : decode code 964 = .ok (.aload 4, 2) := by decide +kernel
theorem d_Law_law_966 : decode code 966 = .ok (.invokestatic 130, 3) := by decide +kernel
theorem d_Law_law_969 : decode code 969 = .ok (.istore 6, 2) := by decide +kernel
theorem d_Law_law_971 : decode code 971 = .ok (.aload_n 2, 1) := by decide +kernel
theorem d_Law_law_972 : decode code 972 = .ok (.aload_n 0, 1) := by decide +kernel
theorem d_Law_law_973 : decode code 973 = .ok (.iload 5, 2) := by decide +kernel
theorem d_Law_law_975 : decode code 975 = .ok (.iconst 1, 1) := by decide +kernel
theorem d_Law_law_976 : decode code 976 = .ok (.iadd, 1) := by decide +kernel
theorem d_Law_law_977 : decode code 977 = .ok (.iaload, 1) := by decide +kernel
theorem d_Law_law_978 : decode code 978 = .ok (.i2d, 1) := by decide +kernel
theorem d_Law_law_979 : decode code 979 = .ok (.ldc2_w 85, 3) := by decide +kernel
theorem d_Law_law_982 : decode code 982 = .ok (.dmul, 1) := by decide +kernel
theorem d_Law_law_983 : decode code 983 = .ok (.invokevirtual 133, 3) := by decide +kernel
theorem d_Law_law_986 : decode code 986 = .ok (.dstore 7, 2) := by decide +kernel
theorem d_Law_law_988 : decode code 988 = .ok (.aload_n 2, 1) := by decide +kernel
theorem d_Law_law_989 : decode code 989 = .ok (.invokevirtual 91, 3) := by decide +kernel
theorem d_Law_law_992 : decode code 992 = .ok (.iload 6, 2) := by decide +kernel
theorem d_Law_law_994 : decode code 994 = .ok (.if_icmp .eq 5, 3) := by decide +kernel
theorem d_Law_law_997 : decode code 997 = .ok (.iconst 0, 1) := by decide +kernel
theorem d_Law_law_998 : decode code 998 = .ok (.ireturn, 1) := by decide +kernel
theorem d_Law_law_999 : decode code 999 = .ok (.iload 6, 2) := by decide +kernel
theorem d_Law_law_1001 : decode code 1001 = .ok (.ifCond .ne 35, 3) := by decide +kernel
theorem d_Law_law_1004 : decode code 1004 = .ok (.aload 4, 2) := by decide +kernel
theorem d_Law_law_1006 : decode code 1006 = .ok (.iconst 0, 1) := by decide +kernel
theorem d_Law_law_1007 : decode code 1007 = .ok (.daload, 1) := by decide +kernel
theorem d_Law_law_1008 : decode code 1008 = .ok (.dload 7, 2) := by decide +kernel
theorem d_Law_law_1010 : decode code 1010 = .ok (.dcmp .l, 1) := by decide +kernel
theorem d_Law_law_1011 : decode code 1011 = .ok (.ifCond .eq 25, 3) := by decide +kernel
theorem d_Law_law_1014 : decode code 1014 = .ok (.aload 4, 2) := by decide +kernel
theorem d_Law_law_1016 : decode code 1016 = .ok (.iconst 0, 1) := by decide +kernel
theorem d_Law_law_1017 : decode code 1017 = .ok (.daload, 1) := by decide +kernel
theorem d_Law_law_1018 : decode code 1018 = .ok (.aload 4, 2) := by decide +kernel
theorem d_Law_law_1020 : decode code 1020 = .ok (.iconst 0, 1) := by decide +kernel
theorem d_Law_law_1021 : decode code 1021 = .ok (.daload, 1) := by decide +kernel
theorem d_Law_law_1022 : decode code 1022 = .ok (.dcmp .l, 1) := by decide +kernel
theorem d_Law_law_1023 : decode code 1023 = .ok (.ifCond .eq 11, 3) := by decide +kernel
theorem d_Law_law_1026 : decode code 1026 = .ok (.dload 7, 2) := by decide +kernel
theorem d_Law_law_1028 : decode code 1028 = .ok (.dload 7, 2) := by decide +kernel
theorem d_Law_law_1030 : decode code 1030 = .ok (.dcmp .l, 1) := by decide +kernel
theorem d_Law_law_1031 : decode code 1031 = .ok (.ifCond .ne 5, 3) := by decide +kernel
theorem d_Law_law_1034 : decode code 1034 = .ok (.iconst 0, 1) := by decide +kernel
theorem d_Law_law_1035 : decode code 1035 = .ok (.ireturn, 1) := by decide +kernel
theorem d_Law_law_1036 : decode code 1036 = .ok (.goto 417, 3) := by decide +kernel
theorem d_Law_law_1039 : decode code 1039 = .ok (.aload_n 1, 1) := by decide +kernel
theorem d_Law_law_1040 : decode code 1040 = .ok (.aload_n 0, 1) := by decide +kernel
theorem d_Law_law_1041 : decode code 1041 = .ok (.iload 5, 2) := by decide +kernel
theorem d_Law_law_1043 : decode code 1043 = .ok (.iconst 1, 1) := by decide +kernel
theorem d_Law_law_1044 : decode code 1044 = .ok (.iadd, 1) := by decide +kernel
theorem d_Law_law_1045 : decode code 1045 = .ok (.iaload, 1) := by decide +kernel
theorem d_Law_law_1046 : decode code 1046 = .ok (.aload 4, 2) := by decide +kernel
theorem d_Law_law_1048 : decode code 1048 = .ok (.invokestatic 134, 3) := by decide +kernel
theorem d_Law_law_1051 : decode code 1051 = .ok (.istore 6, 2) := by decide +kernel
theorem d_Law_law_1053 : decode code 1053 = .ok (.aload_n 2, 1) := by decide +kernel
theorem d_Law_law_1054 : decode code 1054 = .ok (.aload_n 0, 1) := by decide +kernel
theorem d_Law_law_1055 : decode code 1055 = .ok (.iload 5, 2) := by decide +kernel
theorem d_Law_law_1057 : decode code 1057 = .ok (.iconst 1, 1) := by decide +kernel
theorem d_Law_law_1058 : decode code 1058 = .ok (.iadd, 1) := by decide +kernel
theorem d_Law_law_1059 : decode code 1059 = .ok (.iaload, 1) := by decide +kernel
theorem d_Law_law_1060 : decode code 1060 = .ok (.invokevirtual 137, 3) := by decide +kernel
theorem d_Law_law_1063 : decode code 1063 = .ok (.dstore 7, 2) := by decide +kernel
theorem d_Law_law_1065 : decode code 1065 = .ok (.aload_n 2, 1) := by decide +kernel
theorem d_Law_law_1066 : decode code 1066 = .ok (.invokevirtual 91, 3) := by decide +kernel
theorem d_Law_law_1069 : decode code 1069 = .ok (.iload 6, 2) := by decide +kernel
theorem d_Law_law_1071 : decode code 1071 = .ok (.if_icmp .eq 5, 3) := by decide +kernel
theorem d_Law_law_1074 : decode code 1074 = .ok (.iconst 0, 1) := by decide +kernel
theorem d_Law_law_1075 : decode code 1075 = .ok (.ireturn, 1) := by decide +kernel
theorem d_Law_law_1076 : decode code 1076 = .ok (.iload 6, 2) := by decide +kernel
theorem d_Law_law_1078 : decode code 1078 = .ok (.ifCond .ne 35, 3) := by decide +kernel
theorem d_Law_law_1081 : decode code 1081 = .ok (.aload 4, 2) := by decide +kernel
theorem d_Law_law_1083 : decode code 1083 = .ok (.iconst 0, 1) := by decide +kernel
theorem d_Law_law_1084 : decode code 1084 = .ok (.daload, 1) := by decide +kernel
theorem d_Law_law_1085 : decode code 1085 = .ok (.dload 7, 2) := by decide +kernel
theorem d_Law_law_1087 : decode code 1087 = .ok (.dcmp .l, 1) := by decide +kernel
theorem d_Law_law_1088 : decode code 1088 = .ok (.ifCond .eq 25, 3) := by decide +kernel
theorem d_Law_law_1091 : decode code 1091 = .ok (.aload 4, 2) := by decide +kernel
theorem d_Law_law_1093 : decode code 1093 = .ok (.iconst 0, 1) := by decide +kernel
theorem d_Law_law_1094 : decode code 1094 = .ok (.daload, 1) := by decide +kernel
theorem d_Law_law_1095 : decode code 1095 = .ok (.aload 4, 2) := by decide +kernel
theorem d_Law_law_1097 : decode code 1097 = .ok (.iconst 0, 1) := by decide +kernel
theorem d_Law_law_1098 : decode code 1098 = .ok (.daload, 1) := by decide +kernel
theorem d_Law_law_1099 : decode code 1099 = .ok (.dcmp .l, 1) := by decide +kernel
theorem d_Law_law_1100 : decode code 1100 = .ok (.ifCond .eq 11, 3) := by decide +kernel
theorem d_Law_law_1103 : decode code 1103 = .ok (.dload 7, 2) := by decide +kernel
theorem d_Law_law_1105 : decode code 1105 = .ok (.dload 7, 2) := by decide +kernel
theorem d_Law_law_1107 : decode code 1107 = .ok (.dcmp .l, 1) := by decide +kernel
theorem d_Law_law_1108 : decode code 1108 = .ok (.ifCond .ne 5, 3) := by decide +kernel
theorem d_Law_law_1111 : decode code 1111 = .ok (.iconst 0, 1) := by decide +kernel
theorem d_Law_law_1112 : decode code 1112 = .ok (.ireturn, 1) := by decide +kernel
theorem d_Law_law_1113 : decode code 1113 = .ok (.goto 340, 3) := by decide +kernel
theorem d_Law_law_1116 : decode code 1116 = .ok (.aload_n 1, 1) := by decide +kernel
theorem d_Law_law_1117 : decode code 1117 = .ok (.aload_n 0, 1) := by decide +kernel
theorem d_Law_law_1118 : decode code 1118 = .ok (.iload 5, 2) := by decide +kernel
theorem d_Law_law_1120 : decode code 1120 = .ok (.iconst 1, 1) := by decide +kernel
theorem d_Law_law_1121 : decode code 1121 = .ok (.iadd, 1) := by decide +kernel
theorem d_Law_law_1122 : decode code 1122 = .ok (.iaload, 1) := by decide +kernel
theorem d_Law_law_1123 : decode code 1123 = .ok (.aload_n 0, 1) := by decide +kernel
theorem d_Law_law_1124 : decode code 1124 = .ok (.iload 5, 2) := by decide +kernel
theorem d_Law_law_1126 : decode code 1126 = .ok (.iconst 2, 1) := by decide +kernel
theorem d_Law_law_1127 : decode code 1127 = .ok (.iadd, 1) := by decide +kernel
theorem d_Law_law_1128 : decode code 1128 = .ok (.iaload, 1) := by decide +kernel
theorem d_Law_law_1129 : decode code 1129 = .ok (.aload 4, 2) := by decide +kernel
theorem d_Law_law_1131 : decode code 1131 = .ok (.invokestatic 138, 3) := by decide +kernel
theorem d_Law_law_1134 : decode code 1134 = .ok (.istore 6, 2) := by decide +kernel
theorem d_Law_law_1136 : decode code 1136 = .ok (.aload_n 2, 1) := by decide +kernel
theorem d_Law_law_1137 : decode code 1137 = .ok (.aload_n 0, 1) := by decide +kernel
theorem d_Law_law_1138 : decode code 1138 = .ok (.iload 5, 2) := by decide +kernel
theorem d_Law_law_1140 : decode code 1140 = .ok (.iconst 1, 1) := by decide +kernel
theorem d_Law_law_1141 : decode code 1141 = .ok (.iadd, 1) := by decide +kernel
theorem d_Law_law_1142 : decode code 1142 = .ok (.iaload, 1) := by decide +kernel
theorem d_Law_law_1143 : decode code 1143 = .ok (.aload_n 0, 1) := by decide +kernel
theorem d_Law_law_1144 : decode code 1144 = .ok (.iload 5, 2) := by decide +kernel
theorem d_Law_law_1146 : decode code 1146 = .ok (.iconst 2, 1) := by decide +kernel
theorem d_Law_law_1147 : decode code 1147 = .ok (.iadd, 1) := by decide +kernel
theorem d_Law_law_1148 : decode code 1148 = .ok (.iaload, 1) := by decide +kernel
theorem d_Law_law_1149 : decode code 1149 = .ok (.invokevirtual 141, 3) := by decide +kernel
theorem d_Law_law_1152 : decode code 1152 = .ok (.dstore 7, 2) := by decide +kernel
theorem d_Law_law_1154 : decode code 1154 = .ok (.aload_n 2, 1) := by decide +kernel
theorem d_Law_law_1155 : decode code 1155 = .ok (.invokevirtual 91, 3) := by decide +kernel
theorem d_Law_law_1158 : decode code 1158 = .ok (.iload 6, 2) := by decide +kernel
theorem d_Law_law_1160 : decode code 1160 = .ok (.if_icmp .eq 5, 3) := by decide +kernel
theorem d_Law_law_1163 : decode code 1163 = .ok (.iconst 0, 1) := by decide +kernel
theorem d_Law_law_1164 : decode code 1164 = .ok (.ireturn, 1) := by decide +kernel
theorem d_Law_law_1165 : decode code 1165 = .ok (.iload 6, 2) := by decide +kernel
theorem d_Law_law_1167 : decode code 1167 = .ok (.ifCond .ne 35, 3) := by decide +kernel
theorem d_Law_law_1170 : decode code 1170 = .ok (.aload 4, 2) := by decide +kernel
theorem d_Law_law_1172 : decode code 1172 = .ok (.iconst 0, 1) := by decide +kernel
theorem d_Law_law_1173 : decode code 1173 = .ok (.daload, 1) := by decide +kernel
theorem d_Law_law_1174 : decode code 1174 = .ok (.dload 7, 2) := by decide +kernel
theorem d_Law_law_1176 : decode code 1176 = .ok (.dcmp .l, 1) := by decide +kernel
theorem d_Law_law_1177 : decode code 1177 = .ok (.ifCond .eq 25, 3) := by decide +kernel
theorem d_Law_law_1180 : decode code 1180 = .ok (.aload 4, 2) := by decide +kernel
theorem d_Law_law_1182 : decode code 1182 = .ok (.iconst 0, 1) := by decide +kernel
theorem d_Law_law_1183 : decode code 1183 = .ok (.daload, 1) := by decide +kernel
theorem d_Law_law_1184 : decode code 1184 = .ok (.aload 4, 2) := by decide +kernel
theorem d_Law_law_1186 : decode code 1186 = .ok (.iconst 0, 1) := by decide +kernel
theorem d_Law_law_1187 : decode code 1187 = .ok (.daload, 1) := by decide +kernel
theorem d_Law_law_1188 : decode code 1188 = .ok (.dcmp .l, 1) := by decide +kernel
theorem d_Law_law_1189 : decode code 1189 = .ok (.ifCond .eq 11, 3) := by decide +kernel
theorem d_Law_law_1192 : decode code 1192 = .ok (.dload 7, 2) := by decide +kernel
theorem d_Law_law_1194 : decode code 1194 = .ok (.dload 7, 2) := by decide +kernel
theorem d_Law_law_1196 : decode code 1196 = .ok (.dcmp .l, 1) := by decide +kernel
theorem d_Law_law_1197 : decode code 1197 = .ok (.ifCond .ne 5, 3) := by decide +kernel
theorem d_Law_law_1200 : decode code 1200 = .ok (.iconst 0, 1) := by decide +kernel
theorem d_Law_law_1201 : decode code 1201 = .ok (.ireturn, 1) := by decide +kernel
theorem d_Law_law_1202 : decode code 1202 = .ok (.goto 251, 3) := by decide +kernel
theorem d_Law_law_1205 : decode code 1205 = .ok (.aload_n 1, 1) := by decide +kernel
theorem d_Law_law_1206 : decode code 1206 = .ok (.aload_n 0, 1) := by decide +kernel
theorem d_Law_law_1207 : decode code 1207 = .ok (.iload 5, 2) := by decide +kernel
theorem d_Law_law_1209 : decode code 1209 = .ok (.iconst 1, 1) := by decide +kernel
theorem d_Law_law_1210 : decode code 1210 = .ok (.iadd, 1) := by decide +kernel
theorem d_Law_law_1211 : decode code 1211 = .ok (.iaload, 1) := by decide +kernel
theorem d_Law_law_1212 : decode code 1212 = .ok (.aload_n 0, 1) := by decide +kernel
theorem d_Law_law_1213 : decode code 1213 = .ok (.iload 5, 2) := by decide +kernel
theorem d_Law_law_1215 : decode code 1215 = .ok (.iconst 2, 1) := by decide +kernel
theorem d_Law_law_1216 : decode code 1216 = .ok (.iadd, 1) := by decide +kernel
theorem d_Law_law_1217 : decode code 1217 = .ok (.iaload, 1) := by decide +kernel
theorem d_Law_law_1218 : decode code 1218 = .ok (.aload 4, 2) := by decide +kernel
theorem d_Law_law_1220 : decode code 1220 = .ok (.invokestatic 142, 3) := by decide +kernel
theorem d_Law_law_1223 : decode code 1223 = .ok (.istore 6, 2) := by decide +kernel
theorem d_Law_law_1225 : decode code 1225 = .ok (.aload_n 2, 1) := by decide +kernel
theorem d_Law_law_1226 : decode code 1226 = .ok (.aload_n 0, 1) := by decide +kernel
theorem d_Law_law_1227 : decode code 1227 = .ok (.iload 5, 2) := by decide +kernel
theorem d_Law_law_1229 : decode code 1229 = .ok (.iconst 1, 1) := by decide +kernel
theorem d_Law_law_1230 : decode code 1230 = .ok (.iadd, 1) := by decide +kernel
theorem d_Law_law_1231 : decode code 1231 = .ok (.iaload, 1) := by decide +kernel
theorem d_Law_law_1232 : decode code 1232 = .ok (.aload_n 0, 1) := by decide +kernel
theorem d_Law_law_1233 : decode code 1233 = .ok (.iload 5, 2) := by decide +kernel
theorem d_Law_law_1235 : decode code 1235 = .ok (.iconst 2, 1) := by decide +kernel
theorem d_Law_law_1236 : decode code 1236 = .ok (.iadd, 1) := by decide +kernel
theorem d_Law_law_1237 : decode code 1237 = .ok (.iaload, 1) := by decide +kernel
theorem d_Law_law_1238 : decode code 1238 = .ok (.invokevirtual 144, 3) := by decide +kernel
theorem d_Law_law_1241 : decode code 1241 = .ok (.dstore 7, 2) := by decide +kernel
theorem d_Law_law_1243 : decode code 1243 = .ok (.aload_n 2, 1) := by decide +kernel
theorem d_Law_law_1244 : decode code 1244 = .ok (.invokevirtual 91, 3) := by decide +kernel
theorem d_Law_law_1247 : decode code 1247 = .ok (.iload 6, 2) := by decide +kernel
theorem d_Law_law_1249 : decode code 1249 = .ok (.if_icmp .eq 5, 3) := by decide +kernel
theorem d_Law_law_1252 : decode code 1252 = .ok (.iconst 0, 1) := by decide +kernel
theorem d_Law_law_1253 : decode code 1253 = .ok (.ireturn, 1) := by decide +kernel
theorem d_Law_law_1254 : decode code 1254 = .ok (.iload 6, 2) := by decide +kernel
theorem d_Law_law_1256 : decode code 1256 = .ok (.ifCond .ne 35, 3) := by decide +kernel
theorem d_Law_law_1259 : decode code 1259 = .ok (.aload 4, 2) := by decide +kernel
theorem d_Law_law_1261 : decode code 1261 = .ok (.iconst 0, 1) := by decide +kernel
theorem d_Law_law_1262 : decode code 1262 = .ok (.daload, 1) := by decide +kernel
theorem d_Law_law_1263 : decode code 1263 = .ok (.dload 7, 2) := by decide +kernel
theorem d_Law_law_1265 : decode code 1265 = .ok (.dcmp .l, 1) := by decide +kernel
theorem d_Law_law_1266 : decode code 1266 = .ok (.ifCond .eq 25, 3) := by decide +kernel
theorem d_Law_law_1269 : decode code 1269 = .ok (.aload 4, 2) := by decide +kernel
theorem d_Law_law_1271 : decode code 1271 = .ok (.iconst 0, 1) := by decide +kernel
theorem d_Law_law_1272 : decode code 1272 = .ok (.daload, 1) := by decide +kernel
theorem d_Law_law_1273 : decode code 1273 = .ok (.aload 4, 2) := by decide +kernel
theorem d_Law_law_1275 : decode code 1275 = .ok (.iconst 0, 1) := by decide +kernel
theorem d_Law_law_1276 : decode code 1276 = .ok (.daload, 1) := by decide +kernel
theorem d_Law_law_1277 : decode code 1277 = .ok (.dcmp .l, 1) := by decide +kernel
theorem d_Law_law_1278 : decode code 1278 = .ok (.ifCond .eq 11, 3) := by decide +kernel
theorem d_Law_law_1281 : decode code 1281 = .ok (.dload 7, 2) := by decide +kernel
theorem d_Law_law_1283 : decode code 1283 = .ok (.dload 7, 2) := by decide +kernel
theorem d_Law_law_1285 : decode code 1285 = .ok (.dcmp .l, 1) := by decide +kernel
theorem d_Law_law_1286 : decode code 1286 = .ok (.ifCond .ne 5, 3) := by decide +kernel
theorem d_Law_law_1289 : decode code 1289 = .ok (.iconst 0, 1) := by decide +kernel
theorem d_Law_law_1290 : decode code 1290 = .ok (.ireturn, 1) := by decide +kernel
theorem d_Law_law_1291 : decode code 1291 = .ok (.goto 162, 3) := by decide +kernel
theorem d_Law_law_1294 : decode code 1294 = .ok (.aload_n 1, 1) := by decide +kernel
theorem d_Law_law_1295 : decode code 1295 = .ok (.invokevirtual 145, 3) := by decide +kernel
theorem d_Law_law_1298 : decode code 1298 = .ok (.dstore 6, 2) := by decide +kernel
theorem d_Law_law_1300 : decode code 1300 = .ok (.aload_n 2, 1) := by decide +kernel
theorem d_Law_law_1301 : decode code 1301 = .ok (.invokevirtual 149, 3) := by decide +kernel
theorem d_Law_law_1304 : decode code 1304 = .ok (.dstore 8, 2) := by decide +kernel
theorem d_Law_law_1306 : decode code 1306 = .ok (.dload 6, 2) := by decide +kernel
theorem d_Law_law_1308 : decode code 1308 = .ok (.dload 8, 2) := by decide +kernel
theorem d_Law_law_1310 : decode code 1310 = .ok (.dcmp .l, 1) := by decide +kernel
theorem d_Law_law_1311 : decode code 1311 = .ok (.ifCond .eq 21, 3) := by decide +kernel
theorem d_Law_law_1314 : decode code 1314 = .ok (.dload 6, 2) := by decide +kernel
theorem d_Law_law_1316 : decode code 1316 = .ok (.dload 6, 2) := by decide +kernel
theorem d_Law_law_1318 : decode code 1318 = .ok (.dcmp .l, 1) := by decide +kernel
theorem d_Law_law_1319 : decode code 1319 = .ok (.ifCond .eq 11, 3) := by decide +kernel
theorem d_Law_law_1322 : decode code 1322 = .ok (.dload 8, 2) := by decide +kernel
theorem d_Law_law_1324 : decode code 1324 = .ok (.dload 8, 2) := by decide +kernel
theorem d_Law_law_1326 : decode code 1326 = .ok (.dcmp .l, 1) := by decide +kernel
theorem d_Law_law_1327 : decode code 1327 = .ok (.ifCond .ne 5, 3) := by decide +kernel
theorem d_Law_law_1330 : decode code 1330 = .ok (.iconst 0, 1) := by decide +kernel
theorem d_Law_law_1331 : decode code 1331 = .ok (.ireturn, 1) := by decide +kernel
theorem d_Law_law_1332 : decode code 1332 = .ok (.goto 121, 3) := by decide +kernel
theorem d_Law_law_1335 : decode code 1335 = .ok (.aload_n 1, 1) := by decide +kernel
theorem d_Law_law_1336 : decode code 1336 = .ok (.invokevirtual 150, 3) := by decide +kernel
theorem d_Law_law_1339 : decode code 1339 = .ok (.aload_n 2, 1) := by decide +kernel
theorem d_Law_law_1340 : decode code 1340 = .ok (.invokevirtual 153, 3) := by decide +kernel
theorem d_Law_law_1343 : decode code 1343 = .ok (.if_icmp .eq 110, 3) := by decide +kernel
theorem d_Law_law_1346 : decode code 1346 = .ok (.iconst 0, 1) := by decide +kernel
theorem d_Law_law_1347 : decode code 1347 = .ok (.ireturn, 1) := by decide +kernel
theorem d_Law_law_1348 : decode code 1348 = .ok (.aload_n 1, 1) := by decide +kernel
theorem d_Law_law_1349 : decode code 1349 = .ok (.aload_n 0, 1) := by decide +kernel
theorem d_Law_law_1350 : decode code 1350 = .ok (.iload 5, 2) := by decide +kernel
theorem d_Law_law_1352 : decode code 1352 = .ok (.iconst 1, 1) := by decide +kernel
theorem d_Law_law_1353 : decode code 1353 = .ok (.iadd, 1) := by decide +kernel
theorem d_Law_law_1354 : decode code 1354 = .ok (.iaload, 1) := by decide +kernel
theorem d_Law_law_1355 : decode code 1355 = .ok (.aload_n 0, 1) := by decide +kernel
theorem d_Law_law_1356 : decode code 1356 = .ok (.iload 5, 2) := by decide +kernel
theorem d_Law_law_1358 : decode code 1358 = .ok (.iconst 2, 1) := by decide +kernel
theorem d_Law_law_1359 : decode code 1359 = .ok (.iadd, 1) := by decide +kernel
theorem d_Law_law_1360 : decode code 1360 = .ok (.iaload, 1) := by decide +kernel
theorem d_Law_law_1361 : decode code 1361 = .ok (.aload_n 0, 1) := by decide +kernel
theorem d_Law_law_1362 : decode code 1362 = .ok (.iload 5, 2) := by decide +kernel
theorem d_Law_law_1364 : decode code 1364 = .ok (.iconst 3, 1) := by decide +kernel
theorem d_Law_law_1365 : decode code 1365 = .ok (.iadd, 1) := by decide +kernel
theorem d_Law_law_1366 : decode code 1366 = .ok (.iaload, 1) := by decide +kernel
theorem d_Law_law_1367 : decode code 1367 = .ok (.aload_n 3, 1) := by decide +kernel
theorem d_Law_law_1368 : decode code 1368 = .ok (.invokestatic 154, 3) := by decide +kernel
theorem d_Law_law_1371 : decode code 1371 = .ok (.istore 6, 2) := by decide +kernel
theorem d_Law_law_1373 : decode code 1373 = .ok (.aload_n 2, 1) := by decide +kernel
theorem d_Law_law_1374 : decode code 1374 = .ok (.aload_n 0, 1) := by decide +kernel
theorem d_Law_law_1375 : decode code 1375 = .ok (.iload 5, 2) := by decide +kernel
theorem d_Law_law_1377 : decode code 1377 = .ok (.iconst 1, 1) := by decide +kernel
theorem d_Law_law_1378 : decode code 1378 = .ok (.iadd, 1) := by decide +kernel
theorem d_Law_law_1379 : decode code 1379 = .ok (.iaload, 1) := by decide +kernel
theorem d_Law_law_1380 : decode code 1380 = .ok (.aload_n 0, 1) := by decide +kernel
theorem d_Law_law_1381 : decode code 1381 = .ok (.iload 5, 2) := by decide +kernel
theorem d_Law_law_1383 : decode code 1383 = .ok (.iconst 2, 1) := by decide +kernel
theorem d_Law_law_1384 : decode code 1384 = .ok (.iadd, 1) := by decide +kernel
theorem d_Law_law_1385 : decode code 1385 = .ok (.iaload, 1) := by decide +kernel
theorem d_Law_law_1386 : decode code 1386 = .ok (.aload_n 0, 1) := by decide +kernel
theorem d_Law_law_1387 : decode code 1387 = .ok (.iload 5, 2) := by decide +kernel
theorem d_Law_law_1389 : decode code 1389 = .ok (.iconst 3, 1) := by decide +kernel
theorem d_Law_law_1390 : decode code 1390 = .ok (.iadd, 1) := by decide +kernel
theorem d_Law_law_1391 : decode code 1391 = .ok (.iaload, 1) := by decide +kernel
theorem d_Law_law_1392 : decode code 1392 = .ok (.invokevirtual 157, 3) := by decide +kernel
theorem d_Law_law_1395 : decode code 1395 = .ok (.istore 7, 2) := by decide +kernel
theorem d_Law_law_1397 : decode code 1397 = .ok (.aload_n 2, 1) := by decide +kernel
theorem d_Law_law_1398 : decode code 1398 = .ok (.invokevirtual 91, 3) := by decide +kernel
theorem d_Law_law_1401 : decode code 1401 = .ok (.iload 6, 2) := by decide +kernel
theorem d_Law_law_1403 : decode code 1403 = .ok (.if_icmp .eq 5, 3) := by decide +kernel
theorem d_Law_law_1406 : decode code 1406 = .ok (.iconst 0, 1) := by decide +kernel
theorem d_Law_law_1407 : decode code 1407 = .ok (.ireturn, 1) := by decide +kernel
theorem d_Law_law_1408 : decode code 1408 = .ok (.iload 6, 2) := by decide +kernel
theorem d_Law_law_1410 : decode code 1410 = .ok (.ifCond .ne 15, 3) := by decide +kernel
theorem d_Law_law_1413 : decode code 1413 = .ok (.aload_n 3, 1) := by decide +kernel
theorem d_Law_law_1414 : decode code 1414 = .ok (.iconst 0, 1) := by decide +kernel
theorem d_Law_law_1415 : decode code 1415 = .ok (.laload, 1) := by decide +kernel
theorem d_Law_law_1416 : decode code 1416 = .ok (.iload 7, 2) := by decide +kernel
theorem d_Law_law_1418 : decode code 1418 = .ok (.i2l, 1) := by decide +kernel
theorem d_Law_law_1419 : decode code 1419 = .ok (.lcmp, 1) := by decide +kernel
theorem d_Law_law_1420 : decode code 1420 = .ok (.ifCond .eq 5, 3) := by decide +kernel
theorem d_Law_law_1423 : decode code 1423 = .ok (.iconst 0, 1) := by decide +kernel
theorem d_Law_law_1424 : decode code 1424 = .ok (.ireturn, 1) := by decide +kernel
theorem d_Law_law_1425 : decode code 1425 = .ok (.goto 28, 3) := by decide +kernel
theorem d_Law_law_1428 : decode code 1428 = .ok (.aload_n 1, 1) := by decide +kernel
theorem d_Law_law_1429 : decode code 1429 = .ok (.aload_n 0, 1) := by decide +kernel
theorem d_Law_law_1430 : decode code 1430 = .ok (.iload 5, 2) := by decide +kernel
theorem d_Law_law_1432 : decode code 1432 = .ok (.iconst 1, 1) := by decide +kernel
theorem d_Law_law_1433 : decode code 1433 = .ok (.iadd, 1) := by decide +kernel
theorem d_Law_law_1434 : decode code 1434 = .ok (.iaload, 1) := by decide +kernel
theorem d_Law_law_1435 : decode code 1435 = .ok (.invokevirtual 158, 3) := by decide +kernel
theorem d_Law_law_1438 : decode code 1438 = .ok (.aload_n 2, 1) := by decide +kernel
theorem d_Law_law_1439 : decode code 1439 = .ok (.aload_n 0, 1) := by decide +kernel
theorem d_Law_law_1440 : decode code 1440 = .ok (.iload 5, 2) := by decide +kernel
theorem d_Law_law_1442 : decode code 1442 = .ok (.iconst 1, 1) := by decide +kernel
theorem d_Law_law_1443 : decode code 1443 = .ok (.iadd, 1) := by decide +kernel
theorem d_Law_law_1444 : decode code 1444 = .ok (.iaload, 1) := by decide +kernel
theorem d_Law_law_1445 : decode code 1445 = .ok (.invokevirtual 162, 3) := by decide +kernel
theorem d_Law_law_1448 : decode code 1448 = .ok (.if_icmp .eq 5, 3) := by decide +kernel
theorem d_Law_law_1451 : decode code 1451 = .ok (.iconst 0, 1) := by decide +kernel
theorem d_Law_law_1452 : decode code 1452 = .ok (.ireturn, 1) := by decide +kernel
theorem d_Law_law_1453 : decode code 1453 = .ok (.iinc 5 5, 3) := by decide +kernel
theorem d_Law_law_1456 : decode code 1456 = .ok (.goto (-1418), 3) := by decide +kernel
theorem d_Law_law_1459 : decode code 1459 = .ok (.iconst 1, 1) := by decide +kernel
theorem d_Law_law_1460 : decode code 1460 = .ok (.ireturn, 1) := by decide +kernel
theorem pb_i2d_any (v : Int32) : fp_I (FP.i2d v) (fp_d (-2147483648) 1074) (fp_d 2147483648 1074) := by
  have h := FP.Core.i2d_int v
  obtain ⟨hf, hz⟩ := fp_of_DInt h
  obtain ⟨gg, g0, eo, -, -, e3, -⟩ := pb_gg
  have b1 := Int32.le_toInt v
  have b2 := Int32.toInt_lt v
  have a1 : (-2147483648) * fp_o ≤ v.toInt * fp_o := Int.mul_le_mul_of_nonneg_right (by omega) (Int.le_of_lt fp_o_pos)
  have a2 : v.toInt * fp_o ≤ 2147483648 * fp_o := Int.mul_le_mul_of_nonneg_right (by omega) (Int.le_of_lt fp_o_pos)
  refine ⟨hf, ?_, ?_⟩
  · show _ ≤ fp_Z (FP.Core.i2d v); rw [hz, e3, ← eo]; exact a1
  · show fp_Z (FP.Core.i2d v) ≤ _; rw [hz, e3, ← eo]; exact a2
theorem pb_lcmp {t : Int64} : lg_cmp t t = 0 := by simp [lg_cmp]
theorem pb_upd_same {f : Nat → UInt64} {k : Nat} {z : UInt64} (h : f k = z) : vf_upd f k z = f := by
  funext j
  by_cases hj : j = k
  · rw [hj, pb_us, h]
  · rw [pb_un hj]
theorem pb_iupd_same {f : Nat → Int32} {k : Nat} {z : Int32} (h : f k = z) : upd f k z = f := by
  funext j
  by_cases hj : j = k
  · rw [hj, pb_ius, h]
  · rw [pb_iun hj]
