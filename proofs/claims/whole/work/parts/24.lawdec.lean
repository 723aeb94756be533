/-! the law, over what its calls answer -/
theorem xq_lw_0 : decode code 0 = .ok (.new 7, 3) := by decide +kernel
theorem xq_lw_3 : decode code 3 = .ok (.dup, 1) := by decide +kernel
theorem xq_lw_4 : decode code 4 = .ok (.invokespecial 9, 3) := by decide +kernel
theorem xq_lw_7 : decode code 7 = .ok (.astore_n 1, 1) := by decide +kernel
theorem xq_lw_8 : decode code 8 = .ok (.new 10, 3) := by decide +kernel
theorem xq_lw_11 : decode code 11 = .ok (.dup, 1) := by decide +kernel
theorem xq_lw_12 : decode code 12 = .ok (.invokespecial 12, 3) := by decide +kernel
theorem xq_lw_15 : decode code 15 = .ok (.astore_n 2, 1) := by decide +kernel
theorem xq_lw_16 : decode code 16 = .ok (.iconst 0, 1) := by decide +kernel
theorem xq_lw_17 : decode code 17 = .ok (.istore_n 3, 1) := by decide +kernel
theorem xq_lw_18 : decode code 18 = .ok (.iload_n 3, 1) := by decide +kernel
theorem xq_lw_19 : decode code 19 = .ok (.aload_n 0, 1) := by decide +kernel
theorem xq_lw_20 : decode code 20 = .ok (.arraylength, 1) := by decide +kernel
theorem xq_lw_21 : decode code 21 = .ok (.bipush 6, 2) := by decide +kernel
theorem xq_lw_23 : decode code 23 = .ok (.isub, 1) := by decide +kernel
theorem xq_lw_24 : decode code 24 = .ok (.if_icmp .gt 970, 3) := by decide +kernel
theorem xq_lw_27 : decode code 27 = .ok (.aload_n 0, 1) := by decide +kernel
theorem xq_lw_28 : decode code 28 = .ok (.iload_n 3, 1) := by decide +kernel
theorem xq_lw_29 : decode code 29 = .ok (.iaload, 1) := by decide +kernel
theorem xq_lw_30 : decode code 30 = .ok (.bipush 31, 2) := by decide +kernel
theorem xq_lw_32 : decode code 32 = .ok (.iand, 1) := by decide +kernel
theorem xq_lw_33 : decode code 33 = .ok (.tableswitch 955 0 30 #[139, 162, 195, 244, 277, 340, 363, 386, 409, 432, 445, 468, 501, 534, 557, 590, 603, 626, 649, 662, 685, 698, 722, 745, 778, 801, 834, 857, 880, 893, 932], 139) := by decide +kernel
theorem xq_lw_172 : decode code 172 = .ok (.aload_n 1, 1) := by decide +kernel
theorem xq_lw_173 : decode code 173 = .ok (.aload_n 0, 1) := by decide +kernel
theorem xq_lw_174 : decode code 174 = .ok (.iload_n 3, 1) := by decide +kernel
theorem xq_lw_175 : decode code 175 = .ok (.iconst 1, 1) := by decide +kernel
theorem xq_lw_176 : decode code 176 = .ok (.iadd, 1) := by decide +kernel
theorem xq_lw_177 : decode code 177 = .ok (.iaload, 1) := by decide +kernel
theorem xq_lw_178 : decode code 178 = .ok (.invokevirtual 13, 3) := by decide +kernel
theorem xq_lw_181 : decode code 181 = .ok (.aload_n 2, 1) := by decide +kernel
theorem xq_lw_182 : decode code 182 = .ok (.aload_n 0, 1) := by decide +kernel
theorem xq_lw_183 : decode code 183 = .ok (.iload_n 3, 1) := by decide +kernel
theorem xq_lw_184 : decode code 184 = .ok (.iconst 1, 1) := by decide +kernel
theorem xq_lw_185 : decode code 185 = .ok (.iadd, 1) := by decide +kernel
theorem xq_lw_186 : decode code 186 = .ok (.iaload, 1) := by decide +kernel
theorem xq_lw_187 : decode code 187 = .ok (.invokevirtual 17, 3) := by decide +kernel
theorem xq_lw_190 : decode code 190 = .ok (.if_icmp .eq 798, 3) := by decide +kernel
theorem xq_lw_193 : decode code 193 = .ok (.iconst 0, 1) := by decide +kernel
theorem xq_lw_194 : decode code 194 = .ok (.ireturn, 1) := by decide +kernel
theorem xq_lw_195 : decode code 195 = .ok (.aload_n 1, 1) := by decide +kernel
theorem xq_lw_196 : decode code 196 = .ok (.aload_n 0, 1) := by decide +kernel
theorem xq_lw_197 : decode code 197 = .ok (.iload_n 3, 1) := by decide +kernel
theorem xq_lw_198 : decode code 198 = .ok (.iconst 1, 1) := by decide +kernel
theorem xq_lw_199 : decode code 199 = .ok (.iadd, 1) := by decide +kernel
theorem xq_lw_200 : decode code 200 = .ok (.iaload, 1) := by decide +kernel
theorem xq_lw_201 : decode code 201 = .ok (.aload_n 0, 1) := by decide +kernel
theorem xq_lw_202 : decode code 202 = .ok (.iload_n 3, 1) := by decide +kernel
theorem xq_lw_203 : decode code 203 = .ok (.iconst 2, 1) := by decide +kernel
theorem xq_lw_204 : decode code 204 = .ok (.iadd, 1) := by decide +kernel
theorem xq_lw_205 : decode code 205 = .ok (.iaload, 1) := by decide +kernel
theorem xq_lw_206 : decode code 206 = .ok (.invokevirtual 18, 3) := by decide +kernel
theorem xq_lw_209 : decode code 209 = .ok (.aload_n 2, 1) := by decide +kernel
theorem xq_lw_210 : decode code 210 = .ok (.aload_n 0, 1) := by decide +kernel
theorem xq_lw_211 : decode code 211 = .ok (.iload_n 3, 1) := by decide +kernel
theorem xq_lw_212 : decode code 212 = .ok (.iconst 1, 1) := by decide +kernel
theorem xq_lw_213 : decode code 213 = .ok (.iadd, 1) := by decide +kernel
theorem xq_lw_214 : decode code 214 = .ok (.iaload, 1) := by decide +kernel
theorem xq_lw_215 : decode code 215 = .ok (.aload_n 0, 1) := by decide +kernel
theorem xq_lw_216 : decode code 216 = .ok (.iload_n 3, 1) := by decide +kernel
theorem xq_lw_217 : decode code 217 = .ok (.iconst 2, 1) := by decide +kernel
theorem xq_lw_218 : decode code 218 = .ok (.iadd, 1) := by decide +kernel
theorem xq_lw_219 : decode code 219 = .ok (.iaload, 1) := by decide +kernel
theorem xq_lw_220 : decode code 220 = .ok (.invokevirtual 22, 3) := by decide +kernel
theorem xq_lw_223 : decode code 223 = .ok (.if_icmp .eq 765, 3) := by decide +kernel
theorem xq_lw_226 : decode code 226 = .ok (.iconst 0, 1) := by decide +kernel
theorem xq_lw_227 : decode code 227 = .ok (.ireturn, 1) := by decide +kernel
theorem xq_lw_228 : decode code 228 = .ok (.aload_n 1, 1) := by decide +kernel
theorem xq_lw_229 : decode code 229 = .ok (.aload_n 0, 1) := by decide +kernel
theorem xq_lw_230 : decode code 230 = .ok (.iload_n 3, 1) := by decide +kernel
theorem xq_lw_231 : decode code 231 = .ok (.iconst 1, 1) := by decide +kernel
theorem xq_lw_232 : decode code 232 = .ok (.iadd, 1) := by decide +kernel
theorem xq_lw_233 : decode code 233 = .ok (.iaload, 1) := by decide +kernel
theorem xq_lw_234 : decode code 234 = .ok (.aload_n 0, 1) := by decide +kernel
theorem xq_lw_235 : decode code 235 = .ok (.iload_n 3, 1) := by decide +kernel
theorem xq_lw_236 : decode code 236 = .ok (.iconst 2, 1) := by decide +kernel
theorem xq_lw_237 : decode code 237 = .ok (.iadd, 1) := by decide +kernel
theorem xq_lw_238 : decode code 238 = .ok (.iaload, 1) := by decide +kernel
theorem xq_lw_239 : decode code 239 = .ok (.ifCond .eq 7, 3) := by decide +kernel
theorem xq_lw_242 : decode code 242 = .ok (.iconst 1, 1) := by decide +kernel
theorem xq_lw_243 : decode code 243 = .ok (.goto 4, 3) := by decide +kernel
theorem xq_lw_246 : decode code 246 = .ok (.iconst 0, 1) := by decide +kernel
theorem xq_lw_247 : decode code 247 = .ok (.invokevirtual 23, 3) := by decide +kernel
theorem xq_lw_250 : decode code 250 = .ok (.aload_n 2, 1) := by decide +kernel
theorem xq_lw_251 : decode code 251 = .ok (.aload_n 0, 1) := by decide +kernel
theorem xq_lw_252 : decode code 252 = .ok (.iload_n 3, 1) := by decide +kernel
theorem xq_lw_253 : decode code 253 = .ok (.iconst 1, 1) := by decide +kernel
theorem xq_lw_254 : decode code 254 = .ok (.iadd, 1) := by decide +kernel
theorem xq_lw_255 : decode code 255 = .ok (.iaload, 1) := by decide +kernel
theorem xq_lw_256 : decode code 256 = .ok (.aload_n 0, 1) := by decide +kernel
theorem xq_lw_257 : decode code 257 = .ok (.iload_n 3, 1) := by decide +kernel
theorem xq_lw_258 : decode code 258 = .ok (.iconst 2, 1) := by decide +kernel
theorem xq_lw_259 : decode code 259 = .ok (.iadd, 1) := by decide +kernel
theorem xq_lw_260 : decode code 260 = .ok (.iaload, 1) := by decide +kernel
theorem xq_lw_261 : decode code 261 = .ok (.ifCond .eq 7, 3) := by decide +kernel
theorem xq_lw_264 : decode code 264 = .ok (.iconst 1, 1) := by decide +kernel
theorem xq_lw_265 : decode code 265 = .ok (.goto 4, 3) := by decide +kernel
theorem xq_lw_268 : decode code 268 = .ok (.iconst 0, 1) := by decide +kernel
theorem xq_lw_269 : decode code 269 = .ok (.invokevirtual 27, 3) := by decide +kernel
theorem xq_lw_272 : decode code 272 = .ok (.if_icmp .eq 716, 3) := by decide +kernel
theorem xq_lw_275 : decode code 275 = .ok (.iconst 0, 1) := by decide +kernel
theorem xq_lw_276 : decode code 276 = .ok (.ireturn, 1) := by decide +kernel
theorem xq_lw_277 : decode code 277 = .ok (.aload_n 1, 1) := by decide +kernel
theorem xq_lw_278 : decode code 278 = .ok (.aload_n 0, 1) := by decide +kernel
theorem xq_lw_279 : decode code 279 = .ok (.iload_n 3, 1) := by decide +kernel
theorem xq_lw_280 : decode code 280 = .ok (.iconst 1, 1) := by decide +kernel
theorem xq_lw_281 : decode code 281 = .ok (.iadd, 1) := by decide +kernel
theorem xq_lw_282 : decode code 282 = .ok (.iaload, 1) := by decide +kernel
theorem xq_lw_283 : decode code 283 = .ok (.aload_n 0, 1) := by decide +kernel
theorem xq_lw_284 : decode code 284 = .ok (.iload_n 3, 1) := by decide +kernel
theorem xq_lw_285 : decode code 285 = .ok (.iconst 2, 1) := by decide +kernel
theorem xq_lw_286 : decode code 286 = .ok (.iadd, 1) := by decide +kernel
theorem xq_lw_287 : decode code 287 = .ok (.iaload, 1) := by decide +kernel
theorem xq_lw_288 : decode code 288 = .ok (.invokevirtual 28, 3) := by decide +kernel
theorem xq_lw_291 : decode code 291 = .ok (.aload_n 2, 1) := by decide +kernel
theorem xq_lw_292 : decode code 292 = .ok (.aload_n 0, 1) := by decide +kernel
theorem xq_lw_293 : decode code 293 = .ok (.iload_n 3, 1) := by decide +kernel
theorem xq_lw_294 : decode code 294 = .ok (.iconst 1, 1) := by decide +kernel
theorem xq_lw_295 : decode code 295 = .ok (.iadd, 1) := by decide +kernel
theorem xq_lw_296 : decode code 296 = .ok (.iaload, 1) := by decide +kernel
theorem xq_lw_297 : decode code 297 = .ok (.aload_n 0, 1) := by decide +kernel
theorem xq_lw_298 : decode code 298 = .ok (.iload_n 3, 1) := by decide +kernel
theorem xq_lw_299 : decode code 299 = .ok (.iconst 2, 1) := by decide +kernel
theorem xq_lw_300 : decode code 300 = .ok (.iadd, 1) := by decide +kernel
theorem xq_lw_301 : decode code 301 = .ok (.iaload, 1) := by decide +kernel
theorem xq_lw_302 : decode code 302 = .ok (.invokevirtual 31, 3) := by decide +kernel
theorem xq_lw_305 : decode code 305 = .ok (.if_icmp .eq 683, 3) := by decide +kernel
theorem xq_lw_308 : decode code 308 = .ok (.iconst 0, 1) := by decide +kernel
theorem xq_lw_309 : decode code 309 = .ok (.ireturn, 1) := by decide +kernel
theorem xq_lw_310 : decode code 310 = .ok (.aload_n 1, 1) := by decide +kernel
theorem xq_lw_311 : decode code 311 = .ok (.aload_n 0, 1) := by decide +kernel
theorem xq_lw_312 : decode code 312 = .ok (.iload_n 3, 1) := by decide +kernel
theorem xq_lw_313 : decode code 313 = .ok (.iconst 1, 1) := by decide +kernel
theorem xq_lw_314 : decode code 314 = .ok (.iadd, 1) := by decide +kernel
theorem xq_lw_315 : decode code 315 = .ok (.iaload, 1) := by decide +kernel
theorem xq_lw_316 : decode code 316 = .ok (.aload_n 0, 1) := by decide +kernel
theorem xq_lw_317 : decode code 317 = .ok (.iload_n 3, 1) := by decide +kernel
theorem xq_lw_318 : decode code 318 = .ok (.iconst 2, 1) := by decide +kernel
theorem xq_lw_319 : decode code 319 = .ok (.iadd, 1) := by decide +kernel
theorem xq_lw_320 : decode code 320 = .ok (.iaload, 1) := by decide +kernel
theorem xq_lw_321 : decode code 321 = .ok (.aload_n 0, 1) := by decide +kernel
theorem xq_lw_322 : decode code 322 = .ok (.iload_n 3, 1) := by decide +kernel
theorem xq_lw_323 : decode code 323 = .ok (.iconst 3, 1) := by decide +kernel
theorem xq_lw_324 : decode code 324 = .ok (.iadd, 1) := by decide +kernel
theorem xq_lw_325 : decode code 325 = .ok (.iaload, 1) := by decide +kernel
theorem xq_lw_326 : decode code 326 = .ok (.aload_n 0, 1) := by decide +kernel
theorem xq_lw_327 : decode code 327 = .ok (.iload_n 3, 1) := by decide +kernel
theorem xq_lw_328 : decode code 328 = .ok (.iconst 4, 1) := by decide +kernel
theorem xq_lw_329 : decode code 329 = .ok (.iadd, 1) := by decide +kernel
theorem xq_lw_330 : decode code 330 = .ok (.iaload, 1) := by decide +kernel
theorem xq_lw_331 : decode code 331 = .ok (.aload_n 0, 1) := by decide +kernel
theorem xq_lw_332 : decode code 332 = .ok (.iload_n 3, 1) := by decide +kernel
theorem xq_lw_333 : decode code 333 = .ok (.iconst 5, 1) := by decide +kernel
theorem xq_lw_334 : decode code 334 = .ok (.iadd, 1) := by decide +kernel
theorem xq_lw_335 : decode code 335 = .ok (.iaload, 1) := by decide +kernel
theorem xq_lw_336 : decode code 336 = .ok (.invokevirtual 32, 3) := by decide +kernel
theorem xq_lw_339 : decode code 339 = .ok (.aload_n 2, 1) := by decide +kernel
theorem xq_lw_340 : decode code 340 = .ok (.aload_n 0, 1) := by decide +kernel
theorem xq_lw_341 : decode code 341 = .ok (.iload_n 3, 1) := by decide +kernel
theorem xq_lw_342 : decode code 342 = .ok (.iconst 1, 1) := by decide +kernel
theorem xq_lw_343 : decode code 343 = .ok (.iadd, 1) := by decide +kernel
theorem xq_lw_344 : decode code 344 = .ok (.iaload, 1) := by decide +kernel
theorem xq_lw_345 : decode code 345 = .ok (.aload_n 0, 1) := by decide +kernel
theorem xq_lw_346 : decode code 346 = .ok (.iload_n 3, 1) := by decide +kernel
theorem xq_lw_347 : decode code 347 = .ok (.iconst 2, 1) := by decide +kernel
theorem xq_lw_348 : decode code 348 = .ok (.iadd, 1) := by decide +kernel
theorem xq_lw_349 : decode code 349 = .ok (.iaload, 1) := by decide +kernel
theorem xq_lw_350 : decode code 350 = .ok (.aload_n 0, 1) := by decide +kernel
theorem xq_lw_351 : decode code 351 = .ok (.iload_n 3, 1) := by decide +kernel
theorem xq_lw_352 : decode code 352 = .ok (.iconst 3, 1) := by decide +kernel
theorem xq_lw_353 : decode code 353 = .ok (.iadd, 1) := by decide +kernel
theorem xq_lw_354 : decode code 354 = .ok (.iaload, 1) := by decide +kernel
theorem xq_lw_355 : decode code 355 = .ok (.aload_n 0, 1) := by decide +kernel
theorem xq_lw_356 : decode code 356 = .ok (.iload_n 3, 1) := by decide +kernel
theorem xq_lw_357 : decode code 357 = .ok (.iconst 4, 1) := by decide +kernel
theorem xq_lw_358 : decode code 358 = .ok (.iadd, 1) := by decide +kernel
theorem xq_lw_359 : decode code 359 = .ok (.iaload, 1) := by decide +kernel
theorem xq_lw_360 : decode code 360 = .ok (.aload_n 0, 1) := by decide +kernel
theorem xq_lw_361 : decode code 361 = .ok (.iload_n 3, 1) := by decide +kernel
theorem xq_lw_362 : decode code 362 = .ok (.iconst 5, 1) := by decide +kernel
theorem xq_lw_363 : decode code 363 = .ok (.iadd, 1) := by decide +kernel
theorem xq_lw_364 : decode code 364 = .ok (.iaload, 1) := by decide +kernel
theorem xq_lw_365 : decode code 365 = .ok (.invokevirtual 36, 3) := by decide +kernel
theorem xq_lw_368 : decode code 368 = .ok (.if_icmp .eq 620, 3) := by decide +kernel
theorem xq_lw_371 : decode code 371 = .ok (.iconst 0, 1) := by decide +kernel
theorem xq_lw_372 : decode code 372 = .ok (.ireturn, 1) := by decide +kernel
theorem xq_lw_373 : decode code 373 = .ok (.aload_n 1, 1) := by decide +kernel
theorem xq_lw_374 : decode code 374 = .ok (.aload_n 0, 1) := by decide +kernel
theorem xq_lw_375 : decode code 375 = .ok (.iload_n 3, 1) := by decide +kernel
theorem xq_lw_376 : decode code 376 = .ok (.iconst 1, 1) := by decide +kernel
theorem xq_lw_377 : decode code 377 = .ok (.iadd, 1) := by decide +kernel
theorem xq_lw_378 : decode code 378 = .ok (.iaload, 1) := by decide +kernel
theorem xq_lw_379 : decode code 379 = .ok (.invokevirtual 37, 3) := by decide +kernel
theorem xq_lw_382 : decode code 382 = .ok (.aload_n 2, 1) := by decide +kernel
theorem xq_lw_383 : decode code 383 = .ok (.aload_n 0, 1) := by decide +kernel
theorem xq_lw_384 : decode code 384 = .ok (.iload_n 3, 1) := by decide +kernel
theorem xq_lw_385 : decode code 385 = .ok (.iconst 1, 1) := by decide +kernel
theorem xq_lw_386 : decode code 386 = .ok (.iadd, 1) := by decide +kernel
theorem xq_lw_387 : decode code 387 = .ok (.iaload, 1) := by decide +kernel
theorem xq_lw_388 : decode code 388 = .ok (.invokevirtual 41, 3) := by decide +kernel
theorem xq_lw_391 : decode code 391 = .ok (.if_icmp .eq 597, 3) := by decide +kernel
theorem xq_lw_394 : decode code 394 = .ok (.iconst 0, 1) := by decide +kernel
theorem xq_lw_395 : decode code 395 = .ok (.ireturn, 1) := by decide +kernel
theorem xq_lw_396 : decode code 396 = .ok (.aload_n 1, 1) := by decide +kernel
theorem xq_lw_397 : decode code 397 = .ok (.aload_n 0, 1) := by decide +kernel
theorem xq_lw_398 : decode code 398 = .ok (.iload_n 3, 1) := by decide +kernel
theorem xq_lw_399 : decode code 399 = .ok (.iconst 1, 1) := by decide +kernel
theorem xq_lw_400 : decode code 400 = .ok (.iadd, 1) := by decide +kernel
theorem xq_lw_401 : decode code 401 = .ok (.iaload, 1) := by decide +kernel
theorem xq_lw_402 : decode code 402 = .ok (.invokevirtual 42, 3) := by decide +kernel
theorem xq_lw_405 : decode code 405 = .ok (.aload_n 2, 1) := by decide +kernel
theorem xq_lw_406 : decode code 406 = .ok (.aload_n 0, 1) := by decide +kernel
theorem xq_lw_407 : decode code 407 = .ok (.iload_n 3, 1) := by decide +kernel
theorem xq_lw_408 : decode code 408 = .ok (.iconst 1, 1) := by decide +kernel
theorem xq_lw_409 : decode code 409 = .ok (.iadd, 1) := by decide +kernel
theorem xq_lw_410 : decode code 410 = .ok (.iaload, 1) := by decide +kernel
theorem xq_lw_411 : decode code 411 = .ok (.invokevirtual 45, 3) := by decide +kernel
theorem xq_lw_414 : decode code 414 = .ok (.if_icmp .eq 574, 3) := by decide +kernel
theorem xq_lw_417 : decode code 417 = .ok (.iconst 0, 1) := by decide +kernel
theorem xq_lw_418 : decode code 418 = .ok (.ireturn, 1) := by decide +kernel
theorem xq_lw_419 : decode code 419 = .ok (.aload_n 1, 1) := by decide +kernel
theorem xq_lw_420 : decode code 420 = .ok (.aload_n 0, 1) := by decide +kernel
theorem xq_lw_421 : decode code 421 = .ok (.iload_n 3, 1) := by decide +kernel
theorem xq_lw_422 : decode code 422 = .ok (.iconst 1, 1) := by decide +kernel
theorem xq_lw_423 : decode code 423 = .ok (.iadd, 1) := by decide +kernel
theorem xq_lw_424 : decode code 424 = .ok (.iaload, 1) := by decide +kernel
theorem xq_lw_425 : decode code 425 = .ok (.invokevirtual 46, 3) := by decide +kernel
theorem xq_lw_428 : decode code 428 = .ok (.aload_n 2, 1) := by decide +kernel
theorem xq_lw_429 : decode code 429 = .ok (.aload_n 0, 1) := by decide +kernel
theorem xq_lw_430 : decode code 430 = .ok (.iload_n 3, 1) := by decide +kernel
theorem xq_lw_431 : decode code 431 = .ok (.iconst 1, 1) := by decide +kernel
theorem xq_lw_432 : decode code 432 = .ok (.iadd, 1) := by decide +kernel
theorem xq_lw_433 : decode code 433 = .ok (.iaload, 1) := by decide +kernel
theorem xq_lw_434 : decode code 434 = .ok (.invokevirtual 49, 3) := by decide +kernel
theorem xq_lw_437 : decode code 437 = .ok (.if_icmp .eq 551, 3) := by decide +kernel
theorem xq_lw_440 : decode code 440 = .ok (.iconst 0, 1) := by decide +kernel
theorem xq_lw_441 : decode code 441 = .ok (.ireturn, 1) := by decide +kernel
theorem xq_lw_442 : decode code 442 = .ok (.aload_n 1, 1) := by decide +kernel
theorem xq_lw_443 : decode code 443 = .ok (.aload_n 0, 1) := by decide +kernel
theorem xq_lw_444 : decode code 444 = .ok (.iload_n 3, 1) := by decide +kernel
theorem xq_lw_445 : decode code 445 = .ok (.iconst 1, 1) := by decide +kernel
theorem xq_lw_446 : decode code 446 = .ok (.iadd, 1) := by decide +kernel
theorem xq_lw_447 : decode code 447 = .ok (.iaload, 1) := by decide +kernel
theorem xq_lw_448 : decode code 448 = .ok (.invokevirtual 50, 3) := by decide +kernel
theorem xq_lw_451 : decode code 451 = .ok (.aload_n 2, 1) := by decide +kernel
theorem xq_lw_452 : decode code 452 = .ok (.aload_n 0, 1) := by decide +kernel
theorem xq_lw_453 : decode code 453 = .ok (.iload_n 3, 1) := by decide +kernel
theorem xq_lw_454 : decode code 454 = .ok (.iconst 1, 1) := by decide +kernel
theorem xq_lw_455 : decode code 455 = .ok (.iadd, 1) := by decide +kernel
theorem xq_lw_456 : decode code 456 = .ok (.iaload, 1) := by decide +kernel
theorem xq_lw_457 : decode code 457 = .ok (.invokevirtual 53, 3) := by decide +kernel
theorem xq_lw_460 : decode code 460 = .ok (.if_icmp .eq 528, 3) := by decide +kernel
theorem xq_lw_463 : decode code 463 = .ok (.iconst 0, 1) := by decide +kernel
theorem xq_lw_464 : decode code 464 = .ok (.ireturn, 1) := by decide +kernel
theorem xq_lw_465 : decode code 465 = .ok (.aload_n 1, 1) := by decide +kernel
theorem xq_lw_466 : decode code 466 = .ok (.invokevirtual 54, 3) := by decide +kernel
theorem xq_lw_469 : decode code 469 = .ok (.aload_n 2, 1) := by decide +kernel
theorem xq_lw_470 : decode code 470 = .ok (.invokevirtual 58, 3) := by decide +kernel
theorem xq_lw_473 : decode code 473 = .ok (.if_icmp .eq 515, 3) := by decide +kernel
theorem xq_lw_476 : decode code 476 = .ok (.iconst 0, 1) := by decide +kernel
theorem xq_lw_477 : decode code 477 = .ok (.ireturn, 1) := by decide +kernel
theorem xq_lw_478 : decode code 478 = .ok (.aload_n 1, 1) := by decide +kernel
theorem xq_lw_479 : decode code 479 = .ok (.aload_n 0, 1) := by decide +kernel
theorem xq_lw_480 : decode code 480 = .ok (.iload_n 3, 1) := by decide +kernel
theorem xq_lw_481 : decode code 481 = .ok (.iconst 1, 1) := by decide +kernel
theorem xq_lw_482 : decode code 482 = .ok (.iadd, 1) := by decide +kernel
theorem xq_lw_483 : decode code 483 = .ok (.iaload, 1) := by decide +kernel
theorem xq_lw_484 : decode code 484 = .ok (.invokevirtual 59, 3) := by decide +kernel
theorem xq_lw_487 : decode code 487 = .ok (.aload_n 2, 1) := by decide +kernel
theorem xq_lw_488 : decode code 488 = .ok (.aload_n 0, 1) := by decide +kernel
theorem xq_lw_489 : decode code 489 = .ok (.iload_n 3, 1) := by decide +kernel
theorem xq_lw_490 : decode code 490 = .ok (.iconst 1, 1) := by decide +kernel
theorem xq_lw_491 : decode code 491 = .ok (.iadd, 1) := by decide +kernel
theorem xq_lw_492 : decode code 492 = .ok (.iaload, 1) := by decide +kernel
theorem xq_lw_493 : decode code 493 = .ok (.invokevirtual 62, 3) := by decide +kernel
theorem xq_lw_496 : decode code 496 = .ok (.if_icmp .eq 492, 3) := by decide +kernel
theorem xq_lw_499 : decode code 499 = .ok (.iconst 0, 1) := by decide +kernel
theorem xq_lw_500 : decode code 500 = .ok (.ireturn, 1) := by decide +kernel
theorem xq_lw_501 : decode code 501 = .ok (.aload_n 1, 1) := by decide +kernel
theorem xq_lw_502 : decode code 502 = .ok (.aload_n 0, 1) := by decide +kernel
theorem xq_lw_503 : decode code 503 = .ok (.iload_n 3, 1) := by decide +kernel
theorem xq_lw_504 : decode code 504 = .ok (.iconst 1, 1) := by decide +kernel
theorem xq_lw_505 : decode code 505 = .ok (.iadd, 1) := by decide +kernel
theorem xq_lw_506 : decode code 506 = .ok (.iaload, 1) := by decide +kernel
theorem xq_lw_507 : decode code 507 = .ok (.aload_n 0, 1) := by decide +kernel
theorem xq_lw_508 : decode code 508 = .ok (.iload_n 3, 1) := by decide +kernel
theorem xq_lw_509 : decode code 509 = .ok (.iconst 2, 1) := by decide +kernel
theorem xq_lw_510 : decode code 510 = .ok (.iadd, 1) := by decide +kernel
theorem xq_lw_511 : decode code 511 = .ok (.iaload, 1) := by decide +kernel
theorem xq_lw_512 : decode code 512 = .ok (.invokevirtual 63, 3) := by decide +kernel
theorem xq_lw_515 : decode code 515 = .ok (.aload_n 2, 1) := by decide +kernel
theorem xq_lw_516 : decode code 516 = .ok (.aload_n 0, 1) := by decide +kernel
theorem xq_lw_517 : decode code 517 = .ok (.iload_n 3, 1) := by decide +kernel
theorem xq_lw_518 : decode code 518 = .ok (.iconst 1, 1) := by decide +kernel
theorem xq_lw_519 : decode code 519 = .ok (.iadd, 1) := by decide +kernel
theorem xq_lw_520 : decode code 520 = .ok (.iaload, 1) := by decide +kernel
theorem xq_lw_521 : decode code 521 = .ok (.aload_n 0, 1) := by decide +kernel
theorem xq_lw_522 : decode code 522 = .ok (.iload_n 3, 1) := by decide +kernel
theorem xq_lw_523 : decode code 523 = .ok (.iconst 2, 1) := by decide +kernel
theorem xq_lw_524 : decode code 524 = .ok (.iadd, 1) := by decide +kernel
theorem xq_lw_525 : decode code 525 = .ok (.iaload, 1) := by decide +kernel
theorem xq_lw_526 : decode code 526 = .ok (.invokevirtual 67, 3) := by decide +kernel
theorem xq_lw_529 : decode code 529 = .ok (.if_icmp .eq 459, 3) := by decide +kernel
theorem xq_lw_532 : decode code 532 = .ok (.iconst 0, 1) := by decide +kernel
theorem xq_lw_533 : decode code 533 = .ok (.ireturn, 1) := by decide +kernel
theorem xq_lw_534 : decode code 534 = .ok (.aload_n 1, 1) := by decide +kernel
theorem xq_lw_535 : decode code 535 = .ok (.aload_n 0, 1) := by decide +kernel
theorem xq_lw_536 : decode code 536 = .ok (.iload_n 3, 1) := by decide +kernel
theorem xq_lw_537 : decode code 537 = .ok (.iconst 1, 1) := by decide +kernel
theorem xq_lw_538 : decode code 538 = .ok (.iadd, 1) := by decide +kernel
theorem xq_lw_539 : decode code 539 = .ok (.iaload, 1) := by decide +kernel
theorem xq_lw_540 : decode code 540 = .ok (.aload_n 0, 1) := by decide +kernel
theorem xq_lw_541 : decode code 541 = .ok (.iload_n 3, 1) := by decide +kernel
theorem xq_lw_542 : decode code 542 = .ok (.iconst 2, 1) := by decide +kernel
theorem xq_lw_543 : decode code 543 = .ok (.iadd, 1) := by decide +kernel
theorem xq_lw_544 : decode code 544 = .ok (.iaload, 1) := by decide +kernel
theorem xq_lw_545 : decode code 545 = .ok (.invokevirtual 68, 3) := by decide +kernel
theorem xq_lw_548 : decode code 548 = .ok (.aload_n 2, 1) := by decide +kernel
theorem xq_lw_549 : decode code 549 = .ok (.aload_n 0, 1) := by decide +kernel
theorem xq_lw_550 : decode code 550 = .ok (.iload_n 3, 1) := by decide +kernel
theorem xq_lw_551 : decode code 551 = .ok (.iconst 1, 1) := by decide +kernel
theorem xq_lw_552 : decode code 552 = .ok (.iadd, 1) := by decide +kernel
theorem xq_lw_553 : decode code 553 = .ok (.iaload, 1) := by decide +kernel
theorem xq_lw_554 : decode code 554 = .ok (.aload_n 0, 1) := by decide +kernel
theorem xq_lw_555 : decode code 555 = .ok (.iload_n 3, 1) := by decide +kernel
theorem xq_lw_556 : decode code 556 = .ok (.iconst 2, 1) := by decide +kernel
theorem xq_lw_557 : decode code 557 = .ok (.iadd, 1) := by decide +kernel
theorem xq_lw_558 : decode code 558 = .ok (.iaload, 1) := by decide +kernel
theorem xq_lw_559 : decode code 559 = .ok (.invokevirtual 71, 3) := by decide +kernel
theorem xq_lw_562 : decode code 562 = .ok (.if_icmp .eq 426, 3) := by decide +kernel
theorem xq_lw_565 : decode code 565 = .ok (.iconst 0, 1) := by decide +kernel
theorem xq_lw_566 : decode code 566 = .ok (.ireturn, 1) := by decide +kernel
theorem xq_lw_567 : decode code 567 = .ok (.aload_n 1, 1) := by decide +kernel
theorem xq_lw_568 : decode code 568 = .ok (.aload_n 0, 1) := by decide +kernel
theorem xq_lw_569 : decode code 569 = .ok (.iload_n 3, 1) := by decide +kernel
theorem xq_lw_570 : decode code 570 = .ok (.iconst 1, 1) := by decide +kernel
theorem xq_lw_571 : decode code 571 = .ok (.iadd, 1) := by decide +kernel
theorem xq_lw_572 : decode code 572 = .ok (.iaload, 1) := by decide +kernel
theorem xq_lw_573 : decode code 573 = .ok (.invokevirtual 72, 3) := by decide +kernel
theorem xq_lw_576 : decode code 576 = .ok (.aload_n 2, 1) := by decide +kernel
theorem xq_lw_577 : decode code 577 = .ok (.aload_n 0, 1) := by decide +kernel
theorem xq_lw_578 : decode code 578 = .ok (.iload_n 3, 1) := by decide +kernel
theorem xq_lw_579 : decode code 579 = .ok (.iconst 1, 1) := by decide +kernel
theorem xq_lw_580 : decode code 580 = .ok (.iadd, 1) := by decide +kernel
theorem xq_lw_581 : decode code 581 = .ok (.iaload, 1) := by decide +kernel
theorem xq_lw_582 : decode code 582 = .ok (.invokevirtual 75, 3) := by decide +kernel
theorem xq_lw_585 : decode code 585 = .ok (.if_icmp .eq 403, 3) := by decide +kernel
theorem xq_lw_588 : decode code 588 = .ok (.iconst 0, 1) := by decide +kernel
theorem xq_lw_589 : decode code 589 = .ok (.ireturn, 1) := by decide +kernel
theorem xq_lw_590 : decode code 590 = .ok (.aload_n 1, 1) := by decide +kernel
theorem xq_lw_591 : decode code 591 = .ok (.aload_n 0, 1) := by decide +kernel
theorem xq_lw_592 : decode code 592 = .ok (.iload_n 3, 1) := by decide +kernel
theorem xq_lw_593 : decode code 593 = .ok (.iconst 1, 1) := by decide +kernel
theorem xq_lw_594 : decode code 594 = .ok (.iadd, 1) := by decide +kernel
theorem xq_lw_595 : decode code 595 = .ok (.iaload, 1) := by decide +kernel
theorem xq_lw_596 : decode code 596 = .ok (.aload_n 0, 1) := by decide +kernel
theorem xq_lw_597 : decode code 597 = .ok (.iload_n 3, 1) := by decide +kernel
theorem xq_lw_598 : decode code 598 = .ok (.iconst 2, 1) := by decide +kernel
theorem xq_lw_599 : decode code 599 = .ok (.iadd, 1) := by decide +kernel
theorem xq_lw_600 : decode code 600 = .ok (.iaload, 1) := by decide +kernel
theorem xq_lw_601 : decode code 601 = .ok (.invokevirtual 76, 3) := by decide +kernel
theorem xq_lw_604 : decode code 604 = .ok (.aload_n 2, 1) := by decide +kernel
theorem xq_lw_605 : decode code 605 = .ok (.aload_n 0, 1) := by decide +kernel
theorem xq_lw_606 : decode code 606 = .ok (.iload_n 3, 1) := by decide +kernel
theorem xq_lw_607 : decode code 607 = .ok (.iconst 1, 1) := by decide +kernel
theorem xq_lw_608 : decode code 608 = .ok (.iadd, 1) := by decide +kernel
theorem xq_lw_609 : decode code 609 = .ok (.iaload, 1) := by decide +kernel
theorem xq_lw_610 : decode code 610 = .ok (.aload_n 0, 1) := by decide +kernel
theorem xq_lw_611 : decode code 611 = .ok (.iload_n 3, 1) := by decide +kernel
theorem xq_lw_612 : decode code 612 = .ok (.iconst 2, 1) := by decide +kernel
theorem xq_lw_613 : decode code 613 = .ok (.iadd, 1) := by decide +kernel
theorem xq_lw_614 : decode code 614 = .ok (.iaload, 1) := by decide +kernel
theorem xq_lw_615 : decode code 615 = .ok (.invokevirtual 79, 3) := by decide +kernel
theorem xq_lw_618 : decode code 618 = .ok (.if_icmp .eq 370, 3) := by decide +kernel
theorem xq_lw_621 : decode code 621 = .ok (.iconst 0, 1) := by decide +kernel
theorem xq_lw_622 : decode code 622 = .ok (.ireturn, 1) := by decide +kernel
theorem xq_lw_623 : decode code 623 = .ok (.aload_n 1, 1) := by decide +kernel
theorem xq_lw_624 : decode code 624 = .ok (.invokevirtual 80, 3) := by decide +kernel
theorem xq_lw_627 : decode code 627 = .ok (.aload_n 2, 1) := by decide +kernel
theorem xq_lw_628 : decode code 628 = .ok (.invokevirtual 83, 3) := by decide +kernel
theorem xq_lw_631 : decode code 631 = .ok (.if_icmp .eq 357, 3) := by decide +kernel
theorem xq_lw_634 : decode code 634 = .ok (.iconst 0, 1) := by decide +kernel
theorem xq_lw_635 : decode code 635 = .ok (.ireturn, 1) := by decide +kernel
theorem xq_lw_636 : decode code 636 = .ok (.aload_n 1, 1) := by decide +kernel
theorem xq_lw_637 : decode code 637 = .ok (.aload_n 0, 1) := by decide +kernel
theorem xq_lw_638 : decode code 638 = .ok (.iload_n 3, 1) := by decide +kernel
theorem xq_lw_639 : decode code 639 = .ok (.iconst 1, 1) := by decide +kernel
theorem xq_lw_640 : decode code 640 = .ok (.iadd, 1) := by decide +kernel
theorem xq_lw_641 : decode code 641 = .ok (.iaload, 1) := by decide +kernel
theorem xq_lw_642 : decode code 642 = .ok (.invokevirtual 84, 3) := by decide +kernel
theorem xq_lw_645 : decode code 645 = .ok (.aload_n 2, 1) := by decide +kernel
theorem xq_lw_646 : decode code 646 = .ok (.aload_n 0, 1) := by decide +kernel
theorem xq_lw_647 : decode code 647 = .ok (.iload_n 3, 1) := by decide +kernel
theorem xq_lw_648 : decode code 648 = .ok (.iconst 1, 1) := by decide +kernel
theorem xq_lw_649 : decode code 649 = .ok (.iadd, 1) := by decide +kernel
theorem xq_lw_650 : decode code 650 = .ok (.iaload, 1) := by decide +kernel
theorem xq_lw_651 : decode code 651 = .ok (.invokevirtual 87, 3) := by decide +kernel
theorem xq_lw_654 : decode code 654 = .ok (.if_icmp .eq 334, 3) := by decide +kernel
theorem xq_lw_657 : decode code 657 = .ok (.iconst 0, 1) := by decide +kernel
theorem xq_lw_658 : decode code 658 = .ok (.ireturn, 1) := by decide +kernel
theorem xq_lw_659 : decode code 659 = .ok (.aload_n 1, 1) := by decide +kernel
theorem xq_lw_660 : decode code 660 = .ok (.aload_n 0, 1) := by decide +kernel
theorem xq_lw_661 : decode code 661 = .ok (.iload_n 3, 1) := by decide +kernel
theorem xq_lw_662 : decode code 662 = .ok (.iconst 1, 1) := by decide +kernel
theorem xq_lw_663 : decode code 663 = .ok (.iadd, 1) := by decide +kernel
theorem xq_lw_664 : decode code 664 = .ok (.iaload, 1) := by decide +kernel
theorem xq_lw_665 : decode code 665 = .ok (.invokevirtual 88, 3) := by decide +kernel
theorem xq_lw_668 : decode code 668 = .ok (.aload_n 2, 1) := by decide +kernel
theorem xq_lw_669 : decode code 669 = .ok (.aload_n 0, 1) := by decide +kernel
theorem xq_lw_670 : decode code 670 = .ok (.iload_n 3, 1) := by decide +kernel
theorem xq_lw_671 : decode code 671 = .ok (.iconst 1, 1) := by decide +kernel
theorem xq_lw_672 : decode code 672 = .ok (.iadd, 1) := by decide +kernel
theorem xq_lw_673 : decode code 673 = .ok (.iaload, 1) := by decide +kernel
theorem xq_lw_674 : decode code 674 = .ok (.invokevirtual 91, 3) := by decide +kernel
theorem xq_lw_677 : decode code 677 = .ok (.if_icmp .eq 311, 3) := by decide +kernel
theorem xq_lw_680 : decode code 680 = .ok (.iconst 0, 1) := by decide +kernel
theorem xq_lw_681 : decode code 681 = .ok (.ireturn, 1) := by decide +kernel
theorem xq_lw_682 : decode code 682 = .ok (.aload_n 1, 1) := by decide +kernel
theorem xq_lw_683 : decode code 683 = .ok (.invokevirtual 92, 3) := by decide +kernel
theorem xq_lw_686 : decode code 686 = .ok (.aload_n 2, 1) := by decide +kernel
theorem xq_lw_687 : decode code 687 = .ok (.invokevirtual 95, 3) := by decide +kernel
theorem xq_lw_690 : decode code 690 = .ok (.if_icmp .eq 298, 3) := by decide +kernel
theorem xq_lw_693 : decode code 693 = .ok (.iconst 0, 1) := by decide +kernel
theorem xq_lw_694 : decode code 694 = .ok (.ireturn, 1) := by decide +kernel
theorem xq_lw_695 : decode code 695 = .ok (.aload_n 1, 1) := by decide +kernel
theorem xq_lw_696 : decode code 696 = .ok (.aload_n 0, 1) := by decide +kernel
theorem xq_lw_697 : decode code 697 = .ok (.iload_n 3, 1) := by decide +kernel
theorem xq_lw_698 : decode code 698 = .ok (.iconst 1, 1) := by decide +kernel
theorem xq_lw_699 : decode code 699 = .ok (.iadd, 1) := by decide +kernel
theorem xq_lw_700 : decode code 700 = .ok (.iaload, 1) := by decide +kernel
theorem xq_lw_701 : decode code 701 = .ok (.invokevirtual 96, 3) := by decide +kernel
theorem xq_lw_704 : decode code 704 = .ok (.aload_n 2, 1) := by decide +kernel
theorem xq_lw_705 : decode code 705 = .ok (.aload_n 0, 1) := by decide +kernel
theorem xq_lw_706 : decode code 706 = .ok (.iload_n 3, 1) := by decide +kernel
theorem xq_lw_707 : decode code 707 = .ok (.iconst 1, 1) := by decide +kernel
theorem xq_lw_708 : decode code 708 = .ok (.iadd, 1) := by decide +kernel
theorem xq_lw_709 : decode code 709 = .ok (.iaload, 1) := by decide +kernel
theorem xq_lw_710 : decode code 710 = .ok (.invokevirtual 99, 3) := by decide +kernel
theorem xq_lw_713 : decode code 713 = .ok (.if_icmp .eq 275, 3) := by decide +kernel
theorem xq_lw_716 : decode code 716 = .ok (.iconst 0, 1) := by decide +kernel
theorem xq_lw_717 : decode code 717 = .ok (.ireturn, 1) := by decide +kernel
theorem xq_lw_718 : decode code 718 = .ok (.aload_n 1, 1) := by decide +kernel
theorem xq_lw_719 : decode code 719 = .ok (.invokevirtual 100, 3) := by decide +kernel
theorem xq_lw_722 : decode code 722 = .ok (.aload_n 2, 1) := by decide +kernel
theorem xq_lw_723 : decode code 723 = .ok (.invokevirtual 103, 3) := by decide +kernel
theorem xq_lw_726 : decode code 726 = .ok (.if_icmp .eq 262, 3) := by decide +kernel
theorem xq_lw_729 : decode code 729 = .ok (.iconst 0, 1) := by decide +kernel
theorem xq_lw_730 : decode code 730 = .ok (.ireturn, 1) := by decide +kernel
theorem xq_lw_731 : decode code 731 = .ok (.aload_n 1, 1) := by decide +kernel
theorem xq_lw_732 : decode code 732 = .ok (.aload_n 0, 1) := by decide +kernel
theorem xq_lw_733 : decode code 733 = .ok (.iload_n 3, 1) := by decide +kernel
theorem xq_lw_734 : decode code 734 = .ok (.iconst 1, 1) := by decide +kernel
theorem xq_lw_735 : decode code 735 = .ok (.iadd, 1) := by decide +kernel
theorem xq_lw_736 : decode code 736 = .ok (.iaload, 1) := by decide +kernel
theorem xq_lw_737 : decode code 737 = .ok (.invokevirtual 104, 3) := by decide +kernel
theorem xq_lw_740 : decode code 740 = .ok (.aload_n 2, 1) := by decide +kernel
theorem xq_lw_741 : decode code 741 = .ok (.aload_n 0, 1) := by decide +kernel
theorem xq_lw_742 : decode code 742 = .ok (.iload_n 3, 1) := by decide +kernel
theorem xq_lw_743 : decode code 743 = .ok (.iconst 1, 1) := by decide +kernel
theorem xq_lw_744 : decode code 744 = .ok (.iadd, 1) := by decide +kernel
theorem xq_lw_745 : decode code 745 = .ok (.iaload, 1) := by decide +kernel
theorem xq_lw_746 : decode code 746 = .ok (.invokevirtual 108, 3) := by decide +kernel
theorem xq_lw_749 : decode code 749 = .ok (.lcmp, 1) := by decide +kernel
theorem xq_lw_750 : decode code 750 = .ok (.ifCond .eq 238, 3) := by decide +kernel
theorem xq_lw_753 : decode code 753 = .ok (.iconst 0, 1) := by decide +kernel
theorem xq_lw_754 : decode code 754 = .ok (.ireturn, 1) := by decide +kernel
theorem xq_lw_755 : decode code 755 = .ok (.aload_n 1, 1) := by decide +kernel
theorem xq_lw_756 : decode code 756 = .ok (.aload_n 0, 1) := by decide +kernel
theorem xq_lw_757 : decode code 757 = .ok (.iload_n 3, 1) := by decide +kernel
theorem xq_lw_758 : decode code 758 = .ok (.iconst 1, 1) := by decide +kernel
theorem xq_lw_759 : decode code 759 = .ok (.iadd, 1) := by decide +kernel
theorem xq_lw_760 : decode code 760 = .ok (.iaload, 1) := by decide +kernel
theorem xq_lw_761 : decode code 761 = .ok (.invokevirtual 109, 3) := by decide +kernel
theorem xq_lw_764 : decode code 764 = .ok (.aload_n 2, 1) := by decide +kernel
theorem xq_lw_765 : decode code 765 = .ok (.aload_n 0, 1) := by decide +kernel
theorem xq_lw_766 : decode code 766 = .ok (.iload_n 3, 1) := by decide +kernel
theorem xq_lw_767 : decode code 767 = .ok (.iconst 1, 1) := by decide +kernel
theorem xq_lw_768 : decode code 768 = .ok (.iadd, 1) := by decide +kernel
theorem xq_lw_769 : decode code 769 = .ok (.iaload, 1) := by decide +kernel
theorem xq_lw_770 : decode code 770 = .ok (.invokevirtual 112, 3) := by decide +kernel
theorem xq_lw_773 : decode code 773 = .ok (.if_icmp .eq 215, 3) := by decide +kernel
theorem xq_lw_776 : decode code 776 = .ok (.iconst 0, 1) := by decide +kernel
theorem xq_lw_777 : decode code 777 = .ok (.ireturn, 1) := by decide +kernel
theorem xq_lw_778 : decode code 778 = .ok (.aload_n 1, 1) := by decide +kernel
theorem xq_lw_779 : decode code 779 = .ok (.aload_n 0, 1) := by decide +kernel
theorem xq_lw_780 : decode code 780 = .ok (.iload_n 3, 1) := by decide +kernel
theorem xq_lw_781 : decode code 781 = .ok (.iconst 1, 1) := by decide +kernel
theorem xq_lw_782 : decode code 782 = .ok (.iadd, 1) := by decide +kernel
theorem xq_lw_783 : decode code 783 = .ok (.iaload, 1) := by decide +kernel
theorem xq_lw_784 : decode code 784 = .ok (.aload_n 0, 1) := by decide +kernel
theorem xq_lw_785 : decode code 785 = .ok (.iload_n 3, 1) := by decide +kernel
theorem xq_lw_786 : decode code 786 = .ok (.iconst 2, 1) := by decide +kernel
theorem xq_lw_787 : decode code 787 = .ok (.iadd, 1) := by decide +kernel
theorem xq_lw_788 : decode code 788 = .ok (.iaload, 1) := by decide +kernel
theorem xq_lw_789 : decode code 789 = .ok (.invokevirtual 113, 3) := by decide +kernel
theorem xq_lw_792 : decode code 792 = .ok (.aload_n 2, 1) := by decide +kernel
theorem xq_lw_793 : decode code 793 = .ok (.aload_n 0, 1) := by decide +kernel
theorem xq_lw_794 : decode code 794 = .ok (.iload_n 3, 1) := by decide +kernel
theorem xq_lw_795 : decode code 795 = .ok (.iconst 1, 1) := by decide +kernel
theorem xq_lw_796 : decode code 796 = .ok (.iadd, 1) := by decide +kernel
theorem xq_lw_797 : decode code 797 = .ok (.iaload, 1) := by decide +kernel
theorem xq_lw_798 : decode code 798 = .ok (.aload_n 0, 1) := by decide +kernel
theorem xq_lw_799 : decode code 799 = .ok (.iload_n 3, 1) := by decide +kernel
theorem xq_lw_800 : decode code 800 = .ok (.iconst 2, 1) := by decide +kernel
theorem xq_lw_801 : decode code 801 = .ok (.iadd, 1) := by decide +kernel
theorem xq_lw_802 : decode code 802 = .ok (.iaload, 1) := by decide +kernel
theorem xq_lw_803 : decode code 803 = .ok (.invokevirtual 116, 3) := by decide +kernel
theorem xq_lw_806 : decode code 806 = .ok (.if_icmp .eq 182, 3) := by decide +kernel
theorem xq_lw_809 : decode code 809 = .ok (.iconst 0, 1) := by decide +kernel
theorem xq_lw_810 : decode code 810 = .ok (.ireturn, 1) := by decide +kernel
theorem xq_lw_811 : decode code 811 = .ok (.aload_n 1, 1) := by decide +kernel
theorem xq_lw_812 : decode code 812 = .ok (.aload_n 0, 1) := by decide +kernel
theorem xq_lw_813 : decode code 813 = .ok (.iload_n 3, 1) := by decide +kernel
theorem xq_lw_814 : decode code 814 = .ok (.iconst 1, 1) := by decide +kernel
theorem xq_lw_815 : decode code 815 = .ok (.iadd, 1) := by decide +kernel
theorem xq_lw_816 : decode code 816 = .ok (.iaload, 1) := by decide +kernel
theorem xq_lw_817 : decode code 817 = .ok (.invokevirtual 117, 3) := by decide +kernel
theorem xq_lw_820 : decode code 820 = .ok (.aload_n 2, 1) := by decide +kernel
theorem xq_lw_821 : decode code 821 = .ok (.aload_n 0, 1) := by decide +kernel
theorem xq_lw_822 : decode code 822 = .ok (.iload_n 3, 1) := by decide +kernel
theorem xq_lw_823 : decode code 823 = .ok (.iconst 1, 1) := by decide +kernel
theorem xq_lw_824 : decode code 824 = .ok (.iadd, 1) := by decide +kernel
theorem xq_lw_825 : decode code 825 = .ok (.iaload, 1) := by decide +kernel
theorem xq_lw_826 : decode code 826 = .ok (.invokevirtual 120, 3) := by decide +kernel
theorem xq_lw_829 : decode code 829 = .ok (.if_icmp .eq 159, 3) := by decide +kernel
theorem xq_lw_832 : decode code 832 = .ok (.iconst 0, 1) := by decide +kernel
theorem xq_lw_833 : decode code 833 = .ok (.ireturn, 1) := by decide +kernel
theorem xq_lw_834 : decode code 834 = .ok (.aload_n 1, 1) := by decide +kernel
theorem xq_lw_835 : decode code 835 = .ok (.aload_n 0, 1) := by decide +kernel
theorem xq_lw_836 : decode code 836 = .ok (.iload_n 3, 1) := by decide +kernel
theorem xq_lw_837 : decode code 837 = .ok (.iconst 1, 1) := by decide +kernel
theorem xq_lw_838 : decode code 838 = .ok (.iadd, 1) := by decide +kernel
theorem xq_lw_839 : decode code 839 = .ok (.iaload, 1) := by decide +kernel
theorem xq_lw_840 : decode code 840 = .ok (.aload_n 0, 1) := by decide +kernel
theorem xq_lw_841 : decode code 841 = .ok (.iload_n 3, 1) := by decide +kernel
theorem xq_lw_842 : decode code 842 = .ok (.iconst 2, 1) := by decide +kernel
theorem xq_lw_843 : decode code 843 = .ok (.iadd, 1) := by decide +kernel
theorem xq_lw_844 : decode code 844 = .ok (.iaload, 1) := by decide +kernel
theorem xq_lw_845 : decode code 845 = .ok (.invokevirtual 121, 3) := by decide +kernel
theorem xq_lw_848 : decode code 848 = .ok (.aload_n 2, 1) := by decide +kernel
theorem xq_lw_849 : decode code 849 = .ok (.aload_n 0, 1) := by decide +kernel
theorem xq_lw_850 : decode code 850 = .ok (.iload_n 3, 1) := by decide +kernel
theorem xq_lw_851 : decode code 851 = .ok (.iconst 1, 1) := by decide +kernel
theorem xq_lw_852 : decode code 852 = .ok (.iadd, 1) := by decide +kernel
theorem xq_lw_853 : decode code 853 = .ok (.iaload, 1) := by decide +kernel
theorem xq_lw_854 : decode code 854 = .ok (.aload_n 0, 1) := by decide +kernel
theorem xq_lw_855 : decode code 855 = .ok (.iload_n 3, 1) := by decide +kernel
theorem xq_lw_856 : decode code 856 = .ok (.iconst 2, 1) := by decide +kernel
theorem xq_lw_857 : decode code 857 = .ok (.iadd, 1) := by decide +kernel
theorem xq_lw_858 : decode code 858 = .ok (.iaload, 1) := by decide +kernel
theorem xq_lw_859 : decode code 859 = .ok (.invokevirtual 124, 3) := by decide +kernel
theorem xq_lw_862 : decode code 862 = .ok (.if_icmp .eq 126, 3) := by decide +kernel
theorem xq_lw_865 : decode code 865 = .ok (.iconst 0, 1) := by decide +kernel
theorem xq_lw_866 : decode code 866 = .ok (.ireturn, 1) := by decide +kernel
theorem xq_lw_867 : decode code 867 = .ok (.aload_n 1, 1) := by decide +kernel
theorem xq_lw_868 : decode code 868 = .ok (.aload_n 0, 1) := by decide +kernel
theorem xq_lw_869 : decode code 869 = .ok (.iload_n 3, 1) := by decide +kernel
theorem xq_lw_870 : decode code 870 = .ok (.iconst 1, 1) := by decide +kernel
theorem xq_lw_871 : decode code 871 = .ok (.iadd, 1) := by decide +kernel
theorem xq_lw_872 : decode code 872 = .ok (.iaload, 1) := by decide +kernel
theorem xq_lw_873 : decode code 873 = .ok (.invokevirtual 125, 3) := by decide +kernel
theorem xq_lw_876 : decode code 876 = .ok (.aload_n 2, 1) := by decide +kernel
theorem xq_lw_877 : decode code 877 = .ok (.aload_n 0, 1) := by decide +kernel
theorem xq_lw_878 : decode code 878 = .ok (.iload_n 3, 1) := by decide +kernel
theorem xq_lw_879 : decode code 879 = .ok (.iconst 1, 1) := by decide +kernel
theorem xq_lw_880 : decode code 880 = .ok (.iadd, 1) := by decide +kernel
theorem xq_lw_881 : decode code 881 = .ok (.iaload, 1) := by decide +kernel
theorem xq_lw_882 : decode code 882 = .ok (.invokevirtual 128, 3) := by decide +kernel
theorem xq_lw_885 : decode code 885 = .ok (.if_icmp .eq 103, 3) := by decide +kernel
theorem xq_lw_888 : decode code 888 = .ok (.iconst 0, 1) := by decide +kernel
theorem xq_lw_889 : decode code 889 = .ok (.ireturn, 1) := by decide +kernel
theorem xq_lw_890 : decode code 890 = .ok (.aload_n 1, 1) := by decide +kernel
theorem xq_lw_891 : decode code 891 = .ok (.aload_n 0, 1) := by decide +kernel
theorem xq_lw_892 : decode code 892 = .ok (.iload_n 3, 1) := by decide +kernel
theorem xq_lw_893 : decode code 893 = .ok (.iconst 1, 1) := by decide +kernel
theorem xq_lw_894 : decode code 894 = .ok (.iadd, 1) := by decide +kernel
theorem xq_lw_895 : decode code 895 = .ok (.iaload, 1) := by decide +kernel
theorem xq_lw_896 : decode code 896 = .ok (.invokevirtual 129, 3) := by decide +kernel
theorem xq_lw_899 : decode code 899 = .ok (.aload_n 2, 1) := by decide +kernel
theorem xq_lw_900 : decode code 900 = .ok (.aload_n 0, 1) := by decide +kernel
theorem xq_lw_901 : decode code 901 = .ok (.iload_n 3, 1) := by decide +kernel
theorem xq_lw_902 : decode code 902 = .ok (.iconst 1, 1) := by decide +kernel
theorem xq_lw_903 : decode code 903 = .ok (.iadd, 1) := by decide +kernel
theorem xq_lw_904 : decode code 904 = .ok (.iaload, 1) := by decide +kernel
theorem xq_lw_905 : decode code 905 = .ok (.invokevirtual 132, 3) := by decide +kernel
theorem xq_lw_908 : decode code 908 = .ok (.if_icmp .eq 80, 3) := by decide +kernel
theorem xq_lw_911 : decode code 911 = .ok (.iconst 0, 1) := by decide +kernel
theorem xq_lw_912 : decode code 912 = .ok (.ireturn, 1) := by decide +kernel
theorem xq_lw_913 : decode code 913 = .ok (.aload_n 1, 1) := by decide +kernel
theorem xq_lw_914 : decode code 914 = .ok (.invokevirtual 133, 3) := by decide +kernel
theorem xq_lw_917 : decode code 917 = .ok (.aload_n 2, 1) := by decide +kernel
theorem xq_lw_918 : decode code 918 = .ok (.invokevirtual 137, 3) := by decide +kernel
theorem xq_lw_921 : decode code 921 = .ok (.if_icmp .eq 67, 3) := by decide +kernel
theorem xq_lw_924 : decode code 924 = .ok (.iconst 0, 1) := by decide +kernel
theorem xq_lw_925 : decode code 925 = .ok (.ireturn, 1) := by decide +kernel
theorem xq_lw_926 : decode code 926 = .ok (.aload_n 1, 1) := by decide +kernel
theorem xq_lw_927 : decode code 927 = .ok (.aload_n 0, 1) := by decide +kernel
theorem xq_lw_928 : decode code 928 = .ok (.iload_n 3, 1) := by decide +kernel
theorem xq_lw_929 : decode code 929 = .ok (.iconst 1, 1) := by decide +kernel
theorem xq_lw_930 : decode code 930 = .ok (.iadd, 1) := by decide +kernel
theorem xq_lw_931 : decode code 931 = .ok (.iaload, 1) := by decide +kernel
theorem xq_lw_932 : decode code 932 = .ok (.ifCond .eq 7, 3) := by decide +kernel
theorem xq_lw_935 : decode code 935 = .ok (.iconst 1, 1) := by decide +kernel
theorem xq_lw_936 : decode code 936 = .ok (.goto 4, 3) := by decide +kernel
theorem xq_lw_939 : decode code 939 = .ok (.iconst 0, 1) := by decide +kernel
theorem xq_lw_940 : decode code 940 = .ok (.invokevirtual 138, 3) := by decide +kernel
theorem xq_lw_943 : decode code 943 = .ok (.aload_n 2, 1) := by decide +kernel
theorem xq_lw_944 : decode code 944 = .ok (.aload_n 0, 1) := by decide +kernel
theorem xq_lw_945 : decode code 945 = .ok (.iload_n 3, 1) := by decide +kernel
theorem xq_lw_946 : decode code 946 = .ok (.iconst 1, 1) := by decide +kernel
theorem xq_lw_947 : decode code 947 = .ok (.iadd, 1) := by decide +kernel
theorem xq_lw_948 : decode code 948 = .ok (.iaload, 1) := by decide +kernel
theorem xq_lw_949 : decode code 949 = .ok (.ifCond .eq 7, 3) := by decide +kernel
theorem xq_lw_952 : decode code 952 = .ok (.iconst 1, 1) := by decide +kernel
theorem xq_lw_953 : decode code 953 = .ok (.goto 4, 3) := by decide +kernel
theorem xq_lw_956 : decode code 956 = .ok (.iconst 0, 1) := by decide +kernel
theorem xq_lw_957 : decode code 957 = .ok (.invokevirtual 142, 3) := by decide +kernel
theorem xq_lw_960 : decode code 960 = .ok (.if_icmp .eq 28, 3) := by decide +kernel
theorem xq_lw_963 : decode code 963 = .ok (.iconst 0, 1) := by decide +kernel
theorem xq_lw_964 : decode code 964 = .ok (.ireturn, 1) := by decide +kernel
theorem xq_lw_965 : decode code 965 = .ok (.aload_n 1, 1) := by decide +kernel
theorem xq_lw_966 : decode code 966 = .ok (.aload_n 0, 1) := by decide +kernel
theorem xq_lw_967 : decode code 967 = .ok (.iload_n 3, 1) := by decide +kernel
theorem xq_lw_968 : decode code 968 = .ok (.iconst 1, 1) := by decide +kernel
theorem xq_lw_969 : decode code 969 = .ok (.iadd, 1) := by decide +kernel
theorem xq_lw_970 : decode code 970 = .ok (.iaload, 1) := by decide +kernel
theorem xq_lw_971 : decode code 971 = .ok (.invokevirtual 143, 3) := by decide +kernel
theorem xq_lw_974 : decode code 974 = .ok (.aload_n 2, 1) := by decide +kernel
theorem xq_lw_975 : decode code 975 = .ok (.aload_n 0, 1) := by decide +kernel
theorem xq_lw_976 : decode code 976 = .ok (.iload_n 3, 1) := by decide +kernel
theorem xq_lw_977 : decode code 977 = .ok (.iconst 1, 1) := by decide +kernel
theorem xq_lw_978 : decode code 978 = .ok (.iadd, 1) := by decide +kernel
theorem xq_lw_979 : decode code 979 = .ok (.iaload, 1) := by decide +kernel
theorem xq_lw_980 : decode code 980 = .ok (.invokevirtual 146, 3) := by decide +kernel
theorem xq_lw_983 : decode code 983 = .ok (.if_icmp .eq 5, 3) := by decide +kernel
theorem xq_lw_986 : decode code 986 = .ok (.iconst 0, 1) := by decide +kernel
theorem xq_lw_987 : decode code 987 = .ok (.ireturn, 1) := by decide +kernel
theorem xq_lw_988 : decode code 988 = .ok (.iinc 3 6, 3) := by decide +kernel
theorem xq_lw_991 : decode code 991 = .ok (.goto (-973), 3) := by decide +kernel
theorem xq_lw_994 : decode code 994 = .ok (.iconst 1, 1) := by decide +kernel
theorem xq_lw_995 : decode code 995 = .ok (.ireturn, 1) := by decide +kernel
