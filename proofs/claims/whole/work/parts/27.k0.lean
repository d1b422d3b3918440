/-! FACTS: instructions by their places -/
theorem k0_18 : am_cd am_x 0 18 = some (.iload_n 3, 1, 0, 0, .null) := by decide +kernel
theorem k0_19 : am_cd am_x 0 19 = some (.aload_n 0, 1, 0, 0, .null) := by decide +kernel
theorem k0_20 : am_cd am_x 0 20 = some (.arraylength, 1, 0, 0, .null) := by decide +kernel
theorem k0_21 : am_cd am_x 0 21 = some (.iconst 5, 1, 0, 0, .null) := by decide +kernel
theorem k0_22 : am_cd am_x 0 22 = some (.isub, 1, 0, 0, .null) := by decide +kernel
theorem k0_23 : am_cd am_x 0 23 = some (.if_icmp .gt 1099, 3, 1122, 0, .null) := by decide +kernel
theorem k0_26 : am_cd am_x 0 26 = some (.aload_n 0, 1, 0, 0, .null) := by decide +kernel
theorem k0_27 : am_cd am_x 0 27 = some (.iload_n 3, 1, 0, 0, .null) := by decide +kernel
theorem k0_28 : am_cd am_x 0 28 = some (.iaload, 1, 0, 0, .null) := by decide +kernel
theorem k0_29 : am_cd am_x 0 29 = some (.bipush 63, 2, 0, 0, .null) := by decide +kernel
theorem k0_31 : am_cd am_x 0 31 = some (.iand, 1, 0, 0, .null) := by decide +kernel
theorem k0_32 : am_cd am_x 0 32 = some (.tableswitch 1084 0 33 #[152, 175, 198, 211, 224, 247, 290, 313, 346, 369, 412, 435, 458, 471, 484, 527, 560, 583, 606, 649, 692, 715, 728, 751, 774, 807, 830, 853, 876, 909, 952, 995, 1048, 1061], 152, 0, 0, .null) := by decide +kernel
theorem k0_184 : am_cd am_x 0 184 = some (.aload_n 1, 1, 0, 0, .null) := by decide +kernel
theorem k0_185 : am_cd am_x 0 185 = some (.aload_n 0, 1, 0, 0, .null) := by decide +kernel
theorem k0_186 : am_cd am_x 0 186 = some (.iload_n 3, 1, 0, 0, .null) := by decide +kernel
theorem k0_187 : am_cd am_x 0 187 = some (.iconst 1, 1, 0, 0, .null) := by decide +kernel
theorem k0_188 : am_cd am_x 0 188 = some (.iadd, 1, 0, 0, .null) := by decide +kernel
theorem k0_189 : am_cd am_x 0 189 = some (.iaload, 1, 0, 0, .null) := by decide +kernel
theorem k0_190 : am_cd am_x 0 190 = some (.invokevirtual 13, 3, 82, 7, .null) := by decide +kernel
theorem k0_193 : am_cd am_x 0 193 = some (.aload_n 2, 1, 0, 0, .null) := by decide +kernel
theorem k0_194 : am_cd am_x 0 194 = some (.aload_n 0, 1, 0, 0, .null) := by decide +kernel
theorem k0_195 : am_cd am_x 0 195 = some (.iload_n 3, 1, 0, 0, .null) := by decide +kernel
theorem k0_196 : am_cd am_x 0 196 = some (.iconst 1, 1, 0, 0, .null) := by decide +kernel
theorem k0_197 : am_cd am_x 0 197 = some (.iadd, 1, 0, 0, .null) := by decide +kernel
theorem k0_198 : am_cd am_x 0 198 = some (.iaload, 1, 0, 0, .null) := by decide +kernel
theorem k0_199 : am_cd am_x 0 199 = some (.invokevirtual 17, 3, 132, 8, .null) := by decide +kernel
theorem k0_202 : am_cd am_x 0 202 = some (.if_icmp .eq 914, 3, 1116, 0, .null) := by decide +kernel
theorem k0_205 : am_cd am_x 0 205 = some (.iconst 0, 1, 0, 0, .null) := by decide +kernel
theorem k0_206 : am_cd am_x 0 206 = some (.ireturn, 1, 0, 0, .null) := by decide +kernel
theorem k0_207 : am_cd am_x 0 207 = some (.aload_n 1, 1, 0, 0, .null) := by decide +kernel
theorem k0_208 : am_cd am_x 0 208 = some (.aload_n 0, 1, 0, 0, .null) := by decide +kernel
theorem k0_209 : am_cd am_x 0 209 = some (.iload_n 3, 1, 0, 0, .null) := by decide +kernel
theorem k0_210 : am_cd am_x 0 210 = some (.iconst 1, 1, 0, 0, .null) := by decide +kernel
theorem k0_211 : am_cd am_x 0 211 = some (.iadd, 1, 0, 0, .null) := by decide +kernel
theorem k0_212 : am_cd am_x 0 212 = some (.iaload, 1, 0, 0, .null) := by decide +kernel
theorem k0_213 : am_cd am_x 0 213 = some (.invokevirtual 18, 3, 83, 7, .null) := by decide +kernel
theorem k0_216 : am_cd am_x 0 216 = some (.aload_n 2, 1, 0, 0, .null) := by decide +kernel
theorem k0_217 : am_cd am_x 0 217 = some (.aload_n 0, 1, 0, 0, .null) := by decide +kernel
theorem k0_218 : am_cd am_x 0 218 = some (.iload_n 3, 1, 0, 0, .null) := by decide +kernel
theorem k0_219 : am_cd am_x 0 219 = some (.iconst 1, 1, 0, 0, .null) := by decide +kernel
theorem k0_220 : am_cd am_x 0 220 = some (.iadd, 1, 0, 0, .null) := by decide +kernel
theorem k0_221 : am_cd am_x 0 221 = some (.iaload, 1, 0, 0, .null) := by decide +kernel
theorem k0_222 : am_cd am_x 0 222 = some (.invokevirtual 21, 3, 133, 8, .null) := by decide +kernel
theorem k0_225 : am_cd am_x 0 225 = some (.if_icmp .eq 891, 3, 1116, 0, .null) := by decide +kernel
theorem k0_228 : am_cd am_x 0 228 = some (.iconst 0, 1, 0, 0, .null) := by decide +kernel
theorem k0_229 : am_cd am_x 0 229 = some (.ireturn, 1, 0, 0, .null) := by decide +kernel
theorem k0_230 : am_cd am_x 0 230 = some (.aload_n 1, 1, 0, 0, .null) := by decide +kernel
theorem k0_231 : am_cd am_x 0 231 = some (.invokevirtual 22, 3, 84, 7, .null) := by decide +kernel
theorem k0_234 : am_cd am_x 0 234 = some (.aload_n 2, 1, 0, 0, .null) := by decide +kernel
theorem k0_235 : am_cd am_x 0 235 = some (.invokevirtual 26, 3, 149, 8, .null) := by decide +kernel
theorem k0_238 : am_cd am_x 0 238 = some (.if_icmp .eq 878, 3, 1116, 0, .null) := by decide +kernel
theorem k0_241 : am_cd am_x 0 241 = some (.iconst 0, 1, 0, 0, .null) := by decide +kernel
theorem k0_242 : am_cd am_x 0 242 = some (.ireturn, 1, 0, 0, .null) := by decide +kernel
theorem k0_243 : am_cd am_x 0 243 = some (.aload_n 1, 1, 0, 0, .null) := by decide +kernel
theorem k0_244 : am_cd am_x 0 244 = some (.invokevirtual 27, 3, 85, 7, .null) := by decide +kernel
theorem k0_247 : am_cd am_x 0 247 = some (.aload_n 2, 1, 0, 0, .null) := by decide +kernel
theorem k0_248 : am_cd am_x 0 248 = some (.invokevirtual 30, 3, 150, 8, .null) := by decide +kernel
theorem k0_251 : am_cd am_x 0 251 = some (.if_icmp .eq 865, 3, 1116, 0, .null) := by decide +kernel
theorem k0_254 : am_cd am_x 0 254 = some (.iconst 0, 1, 0, 0, .null) := by decide +kernel
theorem k0_255 : am_cd am_x 0 255 = some (.ireturn, 1, 0, 0, .null) := by decide +kernel
theorem k0_256 : am_cd am_x 0 256 = some (.aload_n 1, 1, 0, 0, .null) := by decide +kernel
theorem k0_257 : am_cd am_x 0 257 = some (.aload_n 0, 1, 0, 0, .null) := by decide +kernel
theorem k0_258 : am_cd am_x 0 258 = some (.iload_n 3, 1, 0, 0, .null) := by decide +kernel
theorem k0_259 : am_cd am_x 0 259 = some (.iconst 1, 1, 0, 0, .null) := by decide +kernel
theorem k0_260 : am_cd am_x 0 260 = some (.iadd, 1, 0, 0, .null) := by decide +kernel
theorem k0_261 : am_cd am_x 0 261 = some (.iaload, 1, 0, 0, .null) := by decide +kernel
theorem k0_262 : am_cd am_x 0 262 = some (.invokevirtual 31, 3, 86, 7, .null) := by decide +kernel
theorem k0_265 : am_cd am_x 0 265 = some (.aload_n 2, 1, 0, 0, .null) := by decide +kernel
theorem k0_266 : am_cd am_x 0 266 = some (.aload_n 0, 1, 0, 0, .null) := by decide +kernel
theorem k0_267 : am_cd am_x 0 267 = some (.iload_n 3, 1, 0, 0, .null) := by decide +kernel
theorem k0_268 : am_cd am_x 0 268 = some (.iconst 1, 1, 0, 0, .null) := by decide +kernel
theorem k0_269 : am_cd am_x 0 269 = some (.iadd, 1, 0, 0, .null) := by decide +kernel
theorem k0_270 : am_cd am_x 0 270 = some (.iaload, 1, 0, 0, .null) := by decide +kernel
theorem k0_271 : am_cd am_x 0 271 = some (.invokevirtual 34, 3, 158, 8, .null) := by decide +kernel
theorem k0_274 : am_cd am_x 0 274 = some (.if_icmp .eq 842, 3, 1116, 0, .null) := by decide +kernel
theorem k0_277 : am_cd am_x 0 277 = some (.iconst 0, 1, 0, 0, .null) := by decide +kernel
theorem k0_278 : am_cd am_x 0 278 = some (.ireturn, 1, 0, 0, .null) := by decide +kernel
theorem k0_279 : am_cd am_x 0 279 = some (.aload_n 1, 1, 0, 0, .null) := by decide +kernel
theorem k0_280 : am_cd am_x 0 280 = some (.aload_n 0, 1, 0, 0, .null) := by decide +kernel
theorem k0_281 : am_cd am_x 0 281 = some (.iload_n 3, 1, 0, 0, .null) := by decide +kernel
theorem k0_282 : am_cd am_x 0 282 = some (.iconst 1, 1, 0, 0, .null) := by decide +kernel
theorem k0_283 : am_cd am_x 0 283 = some (.iadd, 1, 0, 0, .null) := by decide +kernel
theorem k0_284 : am_cd am_x 0 284 = some (.iaload, 1, 0, 0, .null) := by decide +kernel
theorem k0_285 : am_cd am_x 0 285 = some (.aload_n 0, 1, 0, 0, .null) := by decide +kernel
theorem k0_286 : am_cd am_x 0 286 = some (.iload_n 3, 1, 0, 0, .null) := by decide +kernel
theorem k0_287 : am_cd am_x 0 287 = some (.iconst 2, 1, 0, 0, .null) := by decide +kernel
theorem k0_288 : am_cd am_x 0 288 = some (.iadd, 1, 0, 0, .null) := by decide +kernel
theorem k0_289 : am_cd am_x 0 289 = some (.iaload, 1, 0, 0, .null) := by decide +kernel
theorem k0_290 : am_cd am_x 0 290 = some (.aload_n 0, 1, 0, 0, .null) := by decide +kernel
theorem k0_291 : am_cd am_x 0 291 = some (.iload_n 3, 1, 0, 0, .null) := by decide +kernel
theorem k0_292 : am_cd am_x 0 292 = some (.iconst 3, 1, 0, 0, .null) := by decide +kernel
theorem k0_293 : am_cd am_x 0 293 = some (.iadd, 1, 0, 0, .null) := by decide +kernel
theorem k0_294 : am_cd am_x 0 294 = some (.iaload, 1, 0, 0, .null) := by decide +kernel
theorem k0_295 : am_cd am_x 0 295 = some (.invokevirtual 35, 3, 87, 7, .null) := by decide +kernel
theorem k0_298 : am_cd am_x 0 298 = some (.aload_n 2, 1, 0, 0, .null) := by decide +kernel
theorem k0_299 : am_cd am_x 0 299 = some (.aload_n 0, 1, 0, 0, .null) := by decide +kernel
theorem k0_300 : am_cd am_x 0 300 = some (.iload_n 3, 1, 0, 0, .null) := by decide +kernel
theorem k0_301 : am_cd am_x 0 301 = some (.iconst 1, 1, 0, 0, .null) := by decide +kernel
theorem k0_302 : am_cd am_x 0 302 = some (.iadd, 1, 0, 0, .null) := by decide +kernel
theorem k0_303 : am_cd am_x 0 303 = some (.iaload, 1, 0, 0, .null) := by decide +kernel
theorem k0_304 : am_cd am_x 0 304 = some (.aload_n 0, 1, 0, 0, .null) := by decide +kernel
theorem k0_305 : am_cd am_x 0 305 = some (.iload_n 3, 1, 0, 0, .null) := by decide +kernel
theorem k0_306 : am_cd am_x 0 306 = some (.iconst 2, 1, 0, 0, .null) := by decide +kernel
theorem k0_307 : am_cd am_x 0 307 = some (.iadd, 1, 0, 0, .null) := by decide +kernel
theorem k0_308 : am_cd am_x 0 308 = some (.iaload, 1, 0, 0, .null) := by decide +kernel
theorem k0_309 : am_cd am_x 0 309 = some (.aload_n 0, 1, 0, 0, .null) := by decide +kernel
theorem k0_310 : am_cd am_x 0 310 = some (.iload_n 3, 1, 0, 0, .null) := by decide +kernel
theorem k0_311 : am_cd am_x 0 311 = some (.iconst 3, 1, 0, 0, .null) := by decide +kernel
theorem k0_312 : am_cd am_x 0 312 = some (.iadd, 1, 0, 0, .null) := by decide +kernel
theorem k0_313 : am_cd am_x 0 313 = some (.iaload, 1, 0, 0, .null) := by decide +kernel
theorem k0_314 : am_cd am_x 0 314 = some (.invokevirtual 39, 3, 159, 8, .null) := by decide +kernel
theorem k0_317 : am_cd am_x 0 317 = some (.if_icmp .eq 799, 3, 1116, 0, .null) := by decide +kernel
theorem k0_320 : am_cd am_x 0 320 = some (.iconst 0, 1, 0, 0, .null) := by decide +kernel
theorem k0_321 : am_cd am_x 0 321 = some (.ireturn, 1, 0, 0, .null) := by decide +kernel
theorem k0_322 : am_cd am_x 0 322 = some (.aload_n 1, 1, 0, 0, .null) := by decide +kernel
theorem k0_323 : am_cd am_x 0 323 = some (.aload_n 0, 1, 0, 0, .null) := by decide +kernel
theorem k0_324 : am_cd am_x 0 324 = some (.iload_n 3, 1, 0, 0, .null) := by decide +kernel
theorem k0_325 : am_cd am_x 0 325 = some (.iconst 1, 1, 0, 0, .null) := by decide +kernel
theorem k0_326 : am_cd am_x 0 326 = some (.iadd, 1, 0, 0, .null) := by decide +kernel
theorem k0_327 : am_cd am_x 0 327 = some (.iaload, 1, 0, 0, .null) := by decide +kernel
theorem k0_328 : am_cd am_x 0 328 = some (.invokevirtual 40, 3, 88, 7, .null) := by decide +kernel
theorem k0_331 : am_cd am_x 0 331 = some (.aload_n 2, 1, 0, 0, .null) := by decide +kernel
theorem k0_332 : am_cd am_x 0 332 = some (.aload_n 0, 1, 0, 0, .null) := by decide +kernel
theorem k0_333 : am_cd am_x 0 333 = some (.iload_n 3, 1, 0, 0, .null) := by decide +kernel
theorem k0_334 : am_cd am_x 0 334 = some (.iconst 1, 1, 0, 0, .null) := by decide +kernel
theorem k0_335 : am_cd am_x 0 335 = some (.iadd, 1, 0, 0, .null) := by decide +kernel
theorem k0_336 : am_cd am_x 0 336 = some (.iaload, 1, 0, 0, .null) := by decide +kernel
theorem k0_337 : am_cd am_x 0 337 = some (.invokevirtual 43, 3, 160, 8, .null) := by decide +kernel
theorem k0_340 : am_cd am_x 0 340 = some (.if_icmp .eq 776, 3, 1116, 0, .null) := by decide +kernel
theorem k0_343 : am_cd am_x 0 343 = some (.iconst 0, 1, 0, 0, .null) := by decide +kernel
theorem k0_344 : am_cd am_x 0 344 = some (.ireturn, 1, 0, 0, .null) := by decide +kernel
theorem k0_345 : am_cd am_x 0 345 = some (.aload_n 1, 1, 0, 0, .null) := by decide +kernel
theorem k0_346 : am_cd am_x 0 346 = some (.aload_n 0, 1, 0, 0, .null) := by decide +kernel
theorem k0_347 : am_cd am_x 0 347 = some (.iload_n 3, 1, 0, 0, .null) := by decide +kernel
theorem k0_348 : am_cd am_x 0 348 = some (.iconst 1, 1, 0, 0, .null) := by decide +kernel
theorem k0_349 : am_cd am_x 0 349 = some (.iadd, 1, 0, 0, .null) := by decide +kernel
theorem k0_350 : am_cd am_x 0 350 = some (.iaload, 1, 0, 0, .null) := by decide +kernel
theorem k0_351 : am_cd am_x 0 351 = some (.aload_n 0, 1, 0, 0, .null) := by decide +kernel
theorem k0_352 : am_cd am_x 0 352 = some (.iload_n 3, 1, 0, 0, .null) := by decide +kernel
theorem k0_353 : am_cd am_x 0 353 = some (.iconst 2, 1, 0, 0, .null) := by decide +kernel
theorem k0_354 : am_cd am_x 0 354 = some (.iadd, 1, 0, 0, .null) := by decide +kernel
theorem k0_355 : am_cd am_x 0 355 = some (.iaload, 1, 0, 0, .null) := by decide +kernel
theorem k0_356 : am_cd am_x 0 356 = some (.invokevirtual 44, 3, 89, 7, .null) := by decide +kernel
theorem k0_359 : am_cd am_x 0 359 = some (.aload_n 2, 1, 0, 0, .null) := by decide +kernel
theorem k0_360 : am_cd am_x 0 360 = some (.aload_n 0, 1, 0, 0, .null) := by decide +kernel
theorem k0_361 : am_cd am_x 0 361 = some (.iload_n 3, 1, 0, 0, .null) := by decide +kernel
theorem k0_362 : am_cd am_x 0 362 = some (.iconst 1, 1, 0, 0, .null) := by decide +kernel
theorem k0_363 : am_cd am_x 0 363 = some (.iadd, 1, 0, 0, .null) := by decide +kernel
theorem k0_364 : am_cd am_x 0 364 = some (.iaload, 1, 0, 0, .null) := by decide +kernel
theorem k0_365 : am_cd am_x 0 365 = some (.aload_n 0, 1, 0, 0, .null) := by decide +kernel
theorem k0_366 : am_cd am_x 0 366 = some (.iload_n 3, 1, 0, 0, .null) := by decide +kernel
theorem k0_367 : am_cd am_x 0 367 = some (.iconst 2, 1, 0, 0, .null) := by decide +kernel
theorem k0_368 : am_cd am_x 0 368 = some (.iadd, 1, 0, 0, .null) := by decide +kernel
theorem k0_369 : am_cd am_x 0 369 = some (.iaload, 1, 0, 0, .null) := by decide +kernel
theorem k0_370 : am_cd am_x 0 370 = some (.invokevirtual 48, 3, 161, 8, .null) := by decide +kernel
theorem k0_373 : am_cd am_x 0 373 = some (.if_icmp .eq 743, 3, 1116, 0, .null) := by decide +kernel
theorem k0_376 : am_cd am_x 0 376 = some (.iconst 0, 1, 0, 0, .null) := by decide +kernel
theorem k0_377 : am_cd am_x 0 377 = some (.ireturn, 1, 0, 0, .null) := by decide +kernel
theorem k0_378 : am_cd am_x 0 378 = some (.aload_n 1, 1, 0, 0, .null) := by decide +kernel
theorem k0_379 : am_cd am_x 0 379 = some (.aload_n 0, 1, 0, 0, .null) := by decide +kernel
theorem k0_380 : am_cd am_x 0 380 = some (.iload_n 3, 1, 0, 0, .null) := by decide +kernel
theorem k0_381 : am_cd am_x 0 381 = some (.iconst 1, 1, 0, 0, .null) := by decide +kernel
theorem k0_382 : am_cd am_x 0 382 = some (.iadd, 1, 0, 0, .null) := by decide +kernel
theorem k0_383 : am_cd am_x 0 383 = some (.iaload, 1, 0, 0, .null) := by decide +kernel
theorem k0_384 : am_cd am_x 0 384 = some (.invokevirtual 49, 3, 90, 7, .null) := by decide +kernel
theorem k0_387 : am_cd am_x 0 387 = some (.aload_n 2, 1, 0, 0, .null) := by decide +kernel
theorem k0_388 : am_cd am_x 0 388 = some (.aload_n 0, 1, 0, 0, .null) := by decide +kernel
theorem k0_389 : am_cd am_x 0 389 = some (.iload_n 3, 1, 0, 0, .null) := by decide +kernel
theorem k0_390 : am_cd am_x 0 390 = some (.iconst 1, 1, 0, 0, .null) := by decide +kernel
theorem k0_391 : am_cd am_x 0 391 = some (.iadd, 1, 0, 0, .null) := by decide +kernel
theorem k0_392 : am_cd am_x 0 392 = some (.iaload, 1, 0, 0, .null) := by decide +kernel
theorem k0_393 : am_cd am_x 0 393 = some (.invokevirtual 52, 3, 163, 8, .null) := by decide +kernel
theorem k0_396 : am_cd am_x 0 396 = some (.if_icmp .eq 720, 3, 1116, 0, .null) := by decide +kernel
theorem k0_399 : am_cd am_x 0 399 = some (.iconst 0, 1, 0, 0, .null) := by decide +kernel
theorem k0_400 : am_cd am_x 0 400 = some (.ireturn, 1, 0, 0, .null) := by decide +kernel
theorem k0_401 : am_cd am_x 0 401 = some (.aload_n 1, 1, 0, 0, .null) := by decide +kernel
theorem k0_402 : am_cd am_x 0 402 = some (.aload_n 0, 1, 0, 0, .null) := by decide +kernel
theorem k0_403 : am_cd am_x 0 403 = some (.iload_n 3, 1, 0, 0, .null) := by decide +kernel
theorem k0_404 : am_cd am_x 0 404 = some (.iconst 1, 1, 0, 0, .null) := by decide +kernel
theorem k0_405 : am_cd am_x 0 405 = some (.iadd, 1, 0, 0, .null) := by decide +kernel
theorem k0_406 : am_cd am_x 0 406 = some (.iaload, 1, 0, 0, .null) := by decide +kernel
theorem k0_407 : am_cd am_x 0 407 = some (.aload_n 0, 1, 0, 0, .null) := by decide +kernel
theorem k0_408 : am_cd am_x 0 408 = some (.iload_n 3, 1, 0, 0, .null) := by decide +kernel
theorem k0_409 : am_cd am_x 0 409 = some (.iconst 2, 1, 0, 0, .null) := by decide +kernel
theorem k0_410 : am_cd am_x 0 410 = some (.iadd, 1, 0, 0, .null) := by decide +kernel
theorem k0_411 : am_cd am_x 0 411 = some (.iaload, 1, 0, 0, .null) := by decide +kernel
theorem k0_412 : am_cd am_x 0 412 = some (.aload_n 0, 1, 0, 0, .null) := by decide +kernel
theorem k0_413 : am_cd am_x 0 413 = some (.iload_n 3, 1, 0, 0, .null) := by decide +kernel
theorem k0_414 : am_cd am_x 0 414 = some (.iconst 3, 1, 0, 0, .null) := by decide +kernel
theorem k0_415 : am_cd am_x 0 415 = some (.iadd, 1, 0, 0, .null) := by decide +kernel
theorem k0_416 : am_cd am_x 0 416 = some (.iaload, 1, 0, 0, .null) := by decide +kernel
theorem k0_417 : am_cd am_x 0 417 = some (.invokevirtual 53, 3, 91, 7, .null) := by decide +kernel
theorem k0_420 : am_cd am_x 0 420 = some (.aload_n 2, 1, 0, 0, .null) := by decide +kernel
theorem k0_421 : am_cd am_x 0 421 = some (.aload_n 0, 1, 0, 0, .null) := by decide +kernel
theorem k0_422 : am_cd am_x 0 422 = some (.iload_n 3, 1, 0, 0, .null) := by decide +kernel
theorem k0_423 : am_cd am_x 0 423 = some (.iconst 1, 1, 0, 0, .null) := by decide +kernel
theorem k0_424 : am_cd am_x 0 424 = some (.iadd, 1, 0, 0, .null) := by decide +kernel
theorem k0_425 : am_cd am_x 0 425 = some (.iaload, 1, 0, 0, .null) := by decide +kernel
theorem k0_426 : am_cd am_x 0 426 = some (.aload_n 0, 1, 0, 0, .null) := by decide +kernel
theorem k0_427 : am_cd am_x 0 427 = some (.iload_n 3, 1, 0, 0, .null) := by decide +kernel
theorem k0_428 : am_cd am_x 0 428 = some (.iconst 2, 1, 0, 0, .null) := by decide +kernel
theorem k0_429 : am_cd am_x 0 429 = some (.iadd, 1, 0, 0, .null) := by decide +kernel
theorem k0_430 : am_cd am_x 0 430 = some (.iaload, 1, 0, 0, .null) := by decide +kernel
theorem k0_431 : am_cd am_x 0 431 = some (.aload_n 0, 1, 0, 0, .null) := by decide +kernel
theorem k0_432 : am_cd am_x 0 432 = some (.iload_n 3, 1, 0, 0, .null) := by decide +kernel
theorem k0_433 : am_cd am_x 0 433 = some (.iconst 3, 1, 0, 0, .null) := by decide +kernel
theorem k0_434 : am_cd am_x 0 434 = some (.iadd, 1, 0, 0, .null) := by decide +kernel
theorem k0_435 : am_cd am_x 0 435 = some (.iaload, 1, 0, 0, .null) := by decide +kernel
theorem k0_436 : am_cd am_x 0 436 = some (.invokevirtual 56, 3, 169, 8, .null) := by decide +kernel
theorem k0_439 : am_cd am_x 0 439 = some (.if_icmp .eq 677, 3, 1116, 0, .null) := by decide +kernel
theorem k0_442 : am_cd am_x 0 442 = some (.iconst 0, 1, 0, 0, .null) := by decide +kernel
theorem k0_443 : am_cd am_x 0 443 = some (.ireturn, 1, 0, 0, .null) := by decide +kernel
theorem k0_444 : am_cd am_x 0 444 = some (.aload_n 1, 1, 0, 0, .null) := by decide +kernel
theorem k0_445 : am_cd am_x 0 445 = some (.aload_n 0, 1, 0, 0, .null) := by decide +kernel
theorem k0_446 : am_cd am_x 0 446 = some (.iload_n 3, 1, 0, 0, .null) := by decide +kernel
theorem k0_447 : am_cd am_x 0 447 = some (.iconst 1, 1, 0, 0, .null) := by decide +kernel
theorem k0_448 : am_cd am_x 0 448 = some (.iadd, 1, 0, 0, .null) := by decide +kernel
theorem k0_449 : am_cd am_x 0 449 = some (.iaload, 1, 0, 0, .null) := by decide +kernel
theorem k0_450 : am_cd am_x 0 450 = some (.invokevirtual 57, 3, 92, 7, .null) := by decide +kernel
theorem k0_453 : am_cd am_x 0 453 = some (.aload_n 2, 1, 0, 0, .null) := by decide +kernel
theorem k0_454 : am_cd am_x 0 454 = some (.aload_n 0, 1, 0, 0, .null) := by decide +kernel
theorem k0_455 : am_cd am_x 0 455 = some (.iload_n 3, 1, 0, 0, .null) := by decide +kernel
theorem k0_456 : am_cd am_x 0 456 = some (.iconst 1, 1, 0, 0, .null) := by decide +kernel
theorem k0_457 : am_cd am_x 0 457 = some (.iadd, 1, 0, 0, .null) := by decide +kernel
theorem k0_458 : am_cd am_x 0 458 = some (.iaload, 1, 0, 0, .null) := by decide +kernel
theorem k0_459 : am_cd am_x 0 459 = some (.invokevirtual 60, 3, 170, 8, .null) := by decide +kernel
theorem k0_462 : am_cd am_x 0 462 = some (.if_icmp .eq 654, 3, 1116, 0, .null) := by decide +kernel
theorem k0_465 : am_cd am_x 0 465 = some (.iconst 0, 1, 0, 0, .null) := by decide +kernel
theorem k0_466 : am_cd am_x 0 466 = some (.ireturn, 1, 0, 0, .null) := by decide +kernel
theorem k0_467 : am_cd am_x 0 467 = some (.aload_n 1, 1, 0, 0, .null) := by decide +kernel
theorem k0_468 : am_cd am_x 0 468 = some (.aload_n 0, 1, 0, 0, .null) := by decide +kernel
theorem k0_469 : am_cd am_x 0 469 = some (.iload_n 3, 1, 0, 0, .null) := by decide +kernel
theorem k0_470 : am_cd am_x 0 470 = some (.iconst 1, 1, 0, 0, .null) := by decide +kernel
theorem k0_471 : am_cd am_x 0 471 = some (.iadd, 1, 0, 0, .null) := by decide +kernel
theorem k0_472 : am_cd am_x 0 472 = some (.iaload, 1, 0, 0, .null) := by decide +kernel
theorem k0_473 : am_cd am_x 0 473 = some (.invokevirtual 61, 3, 93, 7, .null) := by decide +kernel
theorem k0_476 : am_cd am_x 0 476 = some (.aload_n 2, 1, 0, 0, .null) := by decide +kernel
theorem k0_477 : am_cd am_x 0 477 = some (.aload_n 0, 1, 0, 0, .null) := by decide +kernel
theorem k0_478 : am_cd am_x 0 478 = some (.iload_n 3, 1, 0, 0, .null) := by decide +kernel
theorem k0_479 : am_cd am_x 0 479 = some (.iconst 1, 1, 0, 0, .null) := by decide +kernel
theorem k0_480 : am_cd am_x 0 480 = some (.iadd, 1, 0, 0, .null) := by decide +kernel
theorem k0_481 : am_cd am_x 0 481 = some (.iaload, 1, 0, 0, .null) := by decide +kernel
theorem k0_482 : am_cd am_x 0 482 = some (.invokevirtual 64, 3, 171, 8, .null) := by decide +kernel
theorem k0_485 : am_cd am_x 0 485 = some (.if_icmp .eq 631, 3, 1116, 0, .null) := by decide +kernel
theorem k0_488 : am_cd am_x 0 488 = some (.iconst 0, 1, 0, 0, .null) := by decide +kernel
theorem k0_489 : am_cd am_x 0 489 = some (.ireturn, 1, 0, 0, .null) := by decide +kernel
theorem k0_490 : am_cd am_x 0 490 = some (.aload_n 1, 1, 0, 0, .null) := by decide +kernel
theorem k0_491 : am_cd am_x 0 491 = some (.invokevirtual 65, 3, 94, 7, .null) := by decide +kernel
theorem k0_494 : am_cd am_x 0 494 = some (.aload_n 2, 1, 0, 0, .null) := by decide +kernel
theorem k0_495 : am_cd am_x 0 495 = some (.invokevirtual 68, 3, 172, 8, .null) := by decide +kernel
theorem k0_498 : am_cd am_x 0 498 = some (.if_icmp .eq 618, 3, 1116, 0, .null) := by decide +kernel
theorem k0_501 : am_cd am_x 0 501 = some (.iconst 0, 1, 0, 0, .null) := by decide +kernel
theorem k0_502 : am_cd am_x 0 502 = some (.ireturn, 1, 0, 0, .null) := by decide +kernel
theorem k0_503 : am_cd am_x 0 503 = some (.aload_n 1, 1, 0, 0, .null) := by decide +kernel
theorem k0_504 : am_cd am_x 0 504 = some (.invokevirtual 69, 3, 95, 7, .null) := by decide +kernel
theorem k0_507 : am_cd am_x 0 507 = some (.aload_n 2, 1, 0, 0, .null) := by decide +kernel
theorem k0_508 : am_cd am_x 0 508 = some (.invokevirtual 72, 3, 173, 8, .null) := by decide +kernel
theorem k0_511 : am_cd am_x 0 511 = some (.if_icmp .eq 605, 3, 1116, 0, .null) := by decide +kernel
theorem k0_514 : am_cd am_x 0 514 = some (.iconst 0, 1, 0, 0, .null) := by decide +kernel
theorem k0_515 : am_cd am_x 0 515 = some (.ireturn, 1, 0, 0, .null) := by decide +kernel
theorem k0_516 : am_cd am_x 0 516 = some (.aload_n 1, 1, 0, 0, .null) := by decide +kernel
theorem k0_517 : am_cd am_x 0 517 = some (.aload_n 0, 1, 0, 0, .null) := by decide +kernel
theorem k0_518 : am_cd am_x 0 518 = some (.iload_n 3, 1, 0, 0, .null) := by decide +kernel
theorem k0_519 : am_cd am_x 0 519 = some (.iconst 1, 1, 0, 0, .null) := by decide +kernel
theorem k0_520 : am_cd am_x 0 520 = some (.iadd, 1, 0, 0, .null) := by decide +kernel
theorem k0_521 : am_cd am_x 0 521 = some (.iaload, 1, 0, 0, .null) := by decide +kernel
theorem k0_522 : am_cd am_x 0 522 = some (.aload_n 0, 1, 0, 0, .null) := by decide +kernel
theorem k0_523 : am_cd am_x 0 523 = some (.iload_n 3, 1, 0, 0, .null) := by decide +kernel
theorem k0_524 : am_cd am_x 0 524 = some (.iconst 2, 1, 0, 0, .null) := by decide +kernel
theorem k0_525 : am_cd am_x 0 525 = some (.iadd, 1, 0, 0, .null) := by decide +kernel
theorem k0_526 : am_cd am_x 0 526 = some (.iaload, 1, 0, 0, .null) := by decide +kernel
theorem k0_527 : am_cd am_x 0 527 = some (.aload_n 0, 1, 0, 0, .null) := by decide +kernel
theorem k0_528 : am_cd am_x 0 528 = some (.iload_n 3, 1, 0, 0, .null) := by decide +kernel
theorem k0_529 : am_cd am_x 0 529 = some (.iconst 3, 1, 0, 0, .null) := by decide +kernel
theorem k0_530 : am_cd am_x 0 530 = some (.iadd, 1, 0, 0, .null) := by decide +kernel
theorem k0_531 : am_cd am_x 0 531 = some (.iaload, 1, 0, 0, .null) := by decide +kernel
theorem k0_532 : am_cd am_x 0 532 = some (.invokevirtual 73, 3, 97, 7, .null) := by decide +kernel
theorem k0_535 : am_cd am_x 0 535 = some (.aload_n 2, 1, 0, 0, .null) := by decide +kernel
theorem k0_536 : am_cd am_x 0 536 = some (.aload_n 0, 1, 0, 0, .null) := by decide +kernel
theorem k0_537 : am_cd am_x 0 537 = some (.iload_n 3, 1, 0, 0, .null) := by decide +kernel
theorem k0_538 : am_cd am_x 0 538 = some (.iconst 1, 1, 0, 0, .null) := by decide +kernel
theorem k0_539 : am_cd am_x 0 539 = some (.iadd, 1, 0, 0, .null) := by decide +kernel
theorem k0_540 : am_cd am_x 0 540 = some (.iaload, 1, 0, 0, .null) := by decide +kernel
theorem k0_541 : am_cd am_x 0 541 = some (.aload_n 0, 1, 0, 0, .null) := by decide +kernel
theorem k0_542 : am_cd am_x 0 542 = some (.iload_n 3, 1, 0, 0, .null) := by decide +kernel
theorem k0_543 : am_cd am_x 0 543 = some (.iconst 2, 1, 0, 0, .null) := by decide +kernel
theorem k0_544 : am_cd am_x 0 544 = some (.iadd, 1, 0, 0, .null) := by decide +kernel
theorem k0_545 : am_cd am_x 0 545 = some (.iaload, 1, 0, 0, .null) := by decide +kernel
theorem k0_546 : am_cd am_x 0 546 = some (.aload_n 0, 1, 0, 0, .null) := by decide +kernel
theorem k0_547 : am_cd am_x 0 547 = some (.iload_n 3, 1, 0, 0, .null) := by decide +kernel
theorem k0_548 : am_cd am_x 0 548 = some (.iconst 3, 1, 0, 0, .null) := by decide +kernel
theorem k0_549 : am_cd am_x 0 549 = some (.iadd, 1, 0, 0, .null) := by decide +kernel
theorem k0_550 : am_cd am_x 0 550 = some (.iaload, 1, 0, 0, .null) := by decide +kernel
theorem k0_551 : am_cd am_x 0 551 = some (.invokevirtual 76, 3, 175, 8, .null) := by decide +kernel
theorem k0_554 : am_cd am_x 0 554 = some (.if_icmp .eq 562, 3, 1116, 0, .null) := by decide +kernel
theorem k0_557 : am_cd am_x 0 557 = some (.iconst 0, 1, 0, 0, .null) := by decide +kernel
theorem k0_558 : am_cd am_x 0 558 = some (.ireturn, 1, 0, 0, .null) := by decide +kernel
theorem k0_559 : am_cd am_x 0 559 = some (.aload_n 1, 1, 0, 0, .null) := by decide +kernel
theorem k0_560 : am_cd am_x 0 560 = some (.aload_n 0, 1, 0, 0, .null) := by decide +kernel
theorem k0_561 : am_cd am_x 0 561 = some (.iload_n 3, 1, 0, 0, .null) := by decide +kernel
theorem k0_562 : am_cd am_x 0 562 = some (.iconst 1, 1, 0, 0, .null) := by decide +kernel
theorem k0_563 : am_cd am_x 0 563 = some (.iadd, 1, 0, 0, .null) := by decide +kernel
theorem k0_564 : am_cd am_x 0 564 = some (.iaload, 1, 0, 0, .null) := by decide +kernel
theorem k0_565 : am_cd am_x 0 565 = some (.aload_n 0, 1, 0, 0, .null) := by decide +kernel
theorem k0_566 : am_cd am_x 0 566 = some (.iload_n 3, 1, 0, 0, .null) := by decide +kernel
theorem k0_567 : am_cd am_x 0 567 = some (.iconst 2, 1, 0, 0, .null) := by decide +kernel
theorem k0_568 : am_cd am_x 0 568 = some (.iadd, 1, 0, 0, .null) := by decide +kernel
theorem k0_569 : am_cd am_x 0 569 = some (.iaload, 1, 0, 0, .null) := by decide +kernel
theorem k0_570 : am_cd am_x 0 570 = some (.invokevirtual 77, 3, 98, 7, .null) := by decide +kernel
theorem k0_573 : am_cd am_x 0 573 = some (.aload_n 2, 1, 0, 0, .null) := by decide +kernel
theorem k0_574 : am_cd am_x 0 574 = some (.aload_n 0, 1, 0, 0, .null) := by decide +kernel
theorem k0_575 : am_cd am_x 0 575 = some (.iload_n 3, 1, 0, 0, .null) := by decide +kernel
theorem k0_576 : am_cd am_x 0 576 = some (.iconst 1, 1, 0, 0, .null) := by decide +kernel
theorem k0_577 : am_cd am_x 0 577 = some (.iadd, 1, 0, 0, .null) := by decide +kernel
theorem k0_578 : am_cd am_x 0 578 = some (.iaload, 1, 0, 0, .null) := by decide +kernel
theorem k0_579 : am_cd am_x 0 579 = some (.aload_n 0, 1, 0, 0, .null) := by decide +kernel
theorem k0_580 : am_cd am_x 0 580 = some (.iload_n 3, 1, 0, 0, .null) := by decide +kernel
theorem k0_581 : am_cd am_x 0 581 = some (.iconst 2, 1, 0, 0, .null) := by decide +kernel
theorem k0_582 : am_cd am_x 0 582 = some (.iadd, 1, 0, 0, .null) := by decide +kernel
theorem k0_583 : am_cd am_x 0 583 = some (.iaload, 1, 0, 0, .null) := by decide +kernel
theorem k0_584 : am_cd am_x 0 584 = some (.invokevirtual 80, 3, 176, 8, .null) := by decide +kernel
theorem k0_587 : am_cd am_x 0 587 = some (.if_icmp .eq 529, 3, 1116, 0, .null) := by decide +kernel
theorem k0_590 : am_cd am_x 0 590 = some (.iconst 0, 1, 0, 0, .null) := by decide +kernel
theorem k0_591 : am_cd am_x 0 591 = some (.ireturn, 1, 0, 0, .null) := by decide +kernel
theorem k0_592 : am_cd am_x 0 592 = some (.aload_n 1, 1, 0, 0, .null) := by decide +kernel
theorem k0_593 : am_cd am_x 0 593 = some (.aload_n 0, 1, 0, 0, .null) := by decide +kernel
theorem k0_594 : am_cd am_x 0 594 = some (.iload_n 3, 1, 0, 0, .null) := by decide +kernel
theorem k0_595 : am_cd am_x 0 595 = some (.iconst 1, 1, 0, 0, .null) := by decide +kernel
theorem k0_596 : am_cd am_x 0 596 = some (.iadd, 1, 0, 0, .null) := by decide +kernel
theorem k0_597 : am_cd am_x 0 597 = some (.iaload, 1, 0, 0, .null) := by decide +kernel
theorem k0_598 : am_cd am_x 0 598 = some (.invokevirtual 81, 3, 99, 7, .null) := by decide +kernel
theorem k0_601 : am_cd am_x 0 601 = some (.aload_n 2, 1, 0, 0, .null) := by decide +kernel
theorem k0_602 : am_cd am_x 0 602 = some (.aload_n 0, 1, 0, 0, .null) := by decide +kernel
theorem k0_603 : am_cd am_x 0 603 = some (.iload_n 3, 1, 0, 0, .null) := by decide +kernel
theorem k0_604 : am_cd am_x 0 604 = some (.iconst 1, 1, 0, 0, .null) := by decide +kernel
theorem k0_605 : am_cd am_x 0 605 = some (.iadd, 1, 0, 0, .null) := by decide +kernel
theorem k0_606 : am_cd am_x 0 606 = some (.iaload, 1, 0, 0, .null) := by decide +kernel
theorem k0_607 : am_cd am_x 0 607 = some (.invokevirtual 84, 3, 177, 8, .null) := by decide +kernel
theorem k0_610 : am_cd am_x 0 610 = some (.if_icmp .eq 506, 3, 1116, 0, .null) := by decide +kernel
theorem k0_613 : am_cd am_x 0 613 = some (.iconst 0, 1, 0, 0, .null) := by decide +kernel
theorem k0_614 : am_cd am_x 0 614 = some (.ireturn, 1, 0, 0, .null) := by decide +kernel
theorem k0_615 : am_cd am_x 0 615 = some (.aload_n 1, 1, 0, 0, .null) := by decide +kernel
theorem k0_616 : am_cd am_x 0 616 = some (.aload_n 0, 1, 0, 0, .null) := by decide +kernel
theorem k0_617 : am_cd am_x 0 617 = some (.iload_n 3, 1, 0, 0, .null) := by decide +kernel
theorem k0_618 : am_cd am_x 0 618 = some (.iconst 1, 1, 0, 0, .null) := by decide +kernel
theorem k0_619 : am_cd am_x 0 619 = some (.iadd, 1, 0, 0, .null) := by decide +kernel
theorem k0_620 : am_cd am_x 0 620 = some (.iaload, 1, 0, 0, .null) := by decide +kernel
theorem k0_621 : am_cd am_x 0 621 = some (.invokevirtual 85, 3, 100, 7, .null) := by decide +kernel
theorem k0_624 : am_cd am_x 0 624 = some (.aload_n 2, 1, 0, 0, .null) := by decide +kernel
theorem k0_625 : am_cd am_x 0 625 = some (.aload_n 0, 1, 0, 0, .null) := by decide +kernel
theorem k0_626 : am_cd am_x 0 626 = some (.iload_n 3, 1, 0, 0, .null) := by decide +kernel
theorem k0_627 : am_cd am_x 0 627 = some (.iconst 1, 1, 0, 0, .null) := by decide +kernel
theorem k0_628 : am_cd am_x 0 628 = some (.iadd, 1, 0, 0, .null) := by decide +kernel
theorem k0_629 : am_cd am_x 0 629 = some (.iaload, 1, 0, 0, .null) := by decide +kernel
theorem k0_630 : am_cd am_x 0 630 = some (.invokevirtual 88, 3, 178, 8, .null) := by decide +kernel
theorem k0_633 : am_cd am_x 0 633 = some (.if_icmp .eq 483, 3, 1116, 0, .null) := by decide +kernel
theorem k0_636 : am_cd am_x 0 636 = some (.iconst 0, 1, 0, 0, .null) := by decide +kernel
theorem k0_637 : am_cd am_x 0 637 = some (.ireturn, 1, 0, 0, .null) := by decide +kernel
theorem k0_638 : am_cd am_x 0 638 = some (.aload_n 1, 1, 0, 0, .null) := by decide +kernel
theorem k0_639 : am_cd am_x 0 639 = some (.aload_n 0, 1, 0, 0, .null) := by decide +kernel
theorem k0_640 : am_cd am_x 0 640 = some (.iload_n 3, 1, 0, 0, .null) := by decide +kernel
theorem k0_641 : am_cd am_x 0 641 = some (.iconst 1, 1, 0, 0, .null) := by decide +kernel
theorem k0_642 : am_cd am_x 0 642 = some (.iadd, 1, 0, 0, .null) := by decide +kernel
theorem k0_643 : am_cd am_x 0 643 = some (.iaload, 1, 0, 0, .null) := by decide +kernel
theorem k0_644 : am_cd am_x 0 644 = some (.aload_n 0, 1, 0, 0, .null) := by decide +kernel
theorem k0_645 : am_cd am_x 0 645 = some (.iload_n 3, 1, 0, 0, .null) := by decide +kernel
theorem k0_646 : am_cd am_x 0 646 = some (.iconst 2, 1, 0, 0, .null) := by decide +kernel
theorem k0_647 : am_cd am_x 0 647 = some (.iadd, 1, 0, 0, .null) := by decide +kernel
theorem k0_648 : am_cd am_x 0 648 = some (.iaload, 1, 0, 0, .null) := by decide +kernel
theorem k0_649 : am_cd am_x 0 649 = some (.aload_n 0, 1, 0, 0, .null) := by decide +kernel
theorem k0_650 : am_cd am_x 0 650 = some (.iload_n 3, 1, 0, 0, .null) := by decide +kernel
theorem k0_651 : am_cd am_x 0 651 = some (.iconst 3, 1, 0, 0, .null) := by decide +kernel
theorem k0_652 : am_cd am_x 0 652 = some (.iadd, 1, 0, 0, .null) := by decide +kernel
theorem k0_653 : am_cd am_x 0 653 = some (.iaload, 1, 0, 0, .null) := by decide +kernel
theorem k0_654 : am_cd am_x 0 654 = some (.invokevirtual 89, 3, 103, 7, .null) := by decide +kernel
theorem k0_657 : am_cd am_x 0 657 = some (.aload_n 2, 1, 0, 0, .null) := by decide +kernel
theorem k0_658 : am_cd am_x 0 658 = some (.aload_n 0, 1, 0, 0, .null) := by decide +kernel
theorem k0_659 : am_cd am_x 0 659 = some (.iload_n 3, 1, 0, 0, .null) := by decide +kernel
theorem k0_660 : am_cd am_x 0 660 = some (.iconst 1, 1, 0, 0, .null) := by decide +kernel
theorem k0_661 : am_cd am_x 0 661 = some (.iadd, 1, 0, 0, .null) := by decide +kernel
theorem k0_662 : am_cd am_x 0 662 = some (.iaload, 1, 0, 0, .null) := by decide +kernel
theorem k0_663 : am_cd am_x 0 663 = some (.aload_n 0, 1, 0, 0, .null) := by decide +kernel
theorem k0_664 : am_cd am_x 0 664 = some (.iload_n 3, 1, 0, 0, .null) := by decide +kernel
theorem k0_665 : am_cd am_x 0 665 = some (.iconst 2, 1, 0, 0, .null) := by decide +kernel
theorem k0_666 : am_cd am_x 0 666 = some (.iadd, 1, 0, 0, .null) := by decide +kernel
theorem k0_667 : am_cd am_x 0 667 = some (.iaload, 1, 0, 0, .null) := by decide +kernel
theorem k0_668 : am_cd am_x 0 668 = some (.aload_n 0, 1, 0, 0, .null) := by decide +kernel
theorem k0_669 : am_cd am_x 0 669 = some (.iload_n 3, 1, 0, 0, .null) := by decide +kernel
theorem k0_670 : am_cd am_x 0 670 = some (.iconst 3, 1, 0, 0, .null) := by decide +kernel
theorem k0_671 : am_cd am_x 0 671 = some (.iadd, 1, 0, 0, .null) := by decide +kernel
theorem k0_672 : am_cd am_x 0 672 = some (.iaload, 1, 0, 0, .null) := by decide +kernel
theorem k0_673 : am_cd am_x 0 673 = some (.invokevirtual 92, 3, 179, 8, .null) := by decide +kernel
theorem k0_676 : am_cd am_x 0 676 = some (.if_icmp .eq 440, 3, 1116, 0, .null) := by decide +kernel
theorem k0_679 : am_cd am_x 0 679 = some (.iconst 0, 1, 0, 0, .null) := by decide +kernel
theorem k0_680 : am_cd am_x 0 680 = some (.ireturn, 1, 0, 0, .null) := by decide +kernel
theorem k0_681 : am_cd am_x 0 681 = some (.aload_n 1, 1, 0, 0, .null) := by decide +kernel
theorem k0_682 : am_cd am_x 0 682 = some (.aload_n 0, 1, 0, 0, .null) := by decide +kernel
theorem k0_683 : am_cd am_x 0 683 = some (.iload_n 3, 1, 0, 0, .null) := by decide +kernel
theorem k0_684 : am_cd am_x 0 684 = some (.iconst 1, 1, 0, 0, .null) := by decide +kernel
theorem k0_685 : am_cd am_x 0 685 = some (.iadd, 1, 0, 0, .null) := by decide +kernel
theorem k0_686 : am_cd am_x 0 686 = some (.iaload, 1, 0, 0, .null) := by decide +kernel
theorem k0_687 : am_cd am_x 0 687 = some (.aload_n 0, 1, 0, 0, .null) := by decide +kernel
theorem k0_688 : am_cd am_x 0 688 = some (.iload_n 3, 1, 0, 0, .null) := by decide +kernel
theorem k0_689 : am_cd am_x 0 689 = some (.iconst 2, 1, 0, 0, .null) := by decide +kernel
theorem k0_690 : am_cd am_x 0 690 = some (.iadd, 1, 0, 0, .null) := by decide +kernel
theorem k0_691 : am_cd am_x 0 691 = some (.iaload, 1, 0, 0, .null) := by decide +kernel
theorem k0_692 : am_cd am_x 0 692 = some (.aload_n 0, 1, 0, 0, .null) := by decide +kernel
theorem k0_693 : am_cd am_x 0 693 = some (.iload_n 3, 1, 0, 0, .null) := by decide +kernel
theorem k0_694 : am_cd am_x 0 694 = some (.iconst 3, 1, 0, 0, .null) := by decide +kernel
theorem k0_695 : am_cd am_x 0 695 = some (.iadd, 1, 0, 0, .null) := by decide +kernel
theorem k0_696 : am_cd am_x 0 696 = some (.iaload, 1, 0, 0, .null) := by decide +kernel
theorem k0_697 : am_cd am_x 0 697 = some (.invokevirtual 93, 3, 104, 7, .null) := by decide +kernel
theorem k0_700 : am_cd am_x 0 700 = some (.aload_n 2, 1, 0, 0, .null) := by decide +kernel
theorem k0_701 : am_cd am_x 0 701 = some (.aload_n 0, 1, 0, 0, .null) := by decide +kernel
theorem k0_702 : am_cd am_x 0 702 = some (.iload_n 3, 1, 0, 0, .null) := by decide +kernel
theorem k0_703 : am_cd am_x 0 703 = some (.iconst 1, 1, 0, 0, .null) := by decide +kernel
theorem k0_704 : am_cd am_x 0 704 = some (.iadd, 1, 0, 0, .null) := by decide +kernel
theorem k0_705 : am_cd am_x 0 705 = some (.iaload, 1, 0, 0, .null) := by decide +kernel
theorem k0_706 : am_cd am_x 0 706 = some (.aload_n 0, 1, 0, 0, .null) := by decide +kernel
theorem k0_707 : am_cd am_x 0 707 = some (.iload_n 3, 1, 0, 0, .null) := by decide +kernel
theorem k0_708 : am_cd am_x 0 708 = some (.iconst 2, 1, 0, 0, .null) := by decide +kernel
theorem k0_709 : am_cd am_x 0 709 = some (.iadd, 1, 0, 0, .null) := by decide +kernel
theorem k0_710 : am_cd am_x 0 710 = some (.iaload, 1, 0, 0, .null) := by decide +kernel
theorem k0_711 : am_cd am_x 0 711 = some (.aload_n 0, 1, 0, 0, .null) := by decide +kernel
theorem k0_712 : am_cd am_x 0 712 = some (.iload_n 3, 1, 0, 0, .null) := by decide +kernel
theorem k0_713 : am_cd am_x 0 713 = some (.iconst 3, 1, 0, 0, .null) := by decide +kernel
theorem k0_714 : am_cd am_x 0 714 = some (.iadd, 1, 0, 0, .null) := by decide +kernel
theorem k0_715 : am_cd am_x 0 715 = some (.iaload, 1, 0, 0, .null) := by decide +kernel
theorem k0_716 : am_cd am_x 0 716 = some (.invokevirtual 96, 3, 183, 8, .null) := by decide +kernel
theorem k0_719 : am_cd am_x 0 719 = some (.if_icmp .eq 397, 3, 1116, 0, .null) := by decide +kernel
theorem k0_722 : am_cd am_x 0 722 = some (.iconst 0, 1, 0, 0, .null) := by decide +kernel
theorem k0_723 : am_cd am_x 0 723 = some (.ireturn, 1, 0, 0, .null) := by decide +kernel
theorem k0_724 : am_cd am_x 0 724 = some (.aload_n 1, 1, 0, 0, .null) := by decide +kernel
theorem k0_725 : am_cd am_x 0 725 = some (.aload_n 0, 1, 0, 0, .null) := by decide +kernel
theorem k0_726 : am_cd am_x 0 726 = some (.iload_n 3, 1, 0, 0, .null) := by decide +kernel
theorem k0_727 : am_cd am_x 0 727 = some (.iconst 1, 1, 0, 0, .null) := by decide +kernel
theorem k0_728 : am_cd am_x 0 728 = some (.iadd, 1, 0, 0, .null) := by decide +kernel
theorem k0_729 : am_cd am_x 0 729 = some (.iaload, 1, 0, 0, .null) := by decide +kernel
theorem k0_730 : am_cd am_x 0 730 = some (.invokevirtual 97, 3, 105, 7, .null) := by decide +kernel
theorem k0_733 : am_cd am_x 0 733 = some (.aload_n 2, 1, 0, 0, .null) := by decide +kernel
theorem k0_734 : am_cd am_x 0 734 = some (.aload_n 0, 1, 0, 0, .null) := by decide +kernel
theorem k0_735 : am_cd am_x 0 735 = some (.iload_n 3, 1, 0, 0, .null) := by decide +kernel
theorem k0_736 : am_cd am_x 0 736 = some (.iconst 1, 1, 0, 0, .null) := by decide +kernel
theorem k0_737 : am_cd am_x 0 737 = some (.iadd, 1, 0, 0, .null) := by decide +kernel
theorem k0_738 : am_cd am_x 0 738 = some (.iaload, 1, 0, 0, .null) := by decide +kernel
theorem k0_739 : am_cd am_x 0 739 = some (.invokevirtual 100, 3, 185, 8, .null) := by decide +kernel
theorem k0_742 : am_cd am_x 0 742 = some (.if_icmp .eq 374, 3, 1116, 0, .null) := by decide +kernel
theorem k0_745 : am_cd am_x 0 745 = some (.iconst 0, 1, 0, 0, .null) := by decide +kernel
theorem k0_746 : am_cd am_x 0 746 = some (.ireturn, 1, 0, 0, .null) := by decide +kernel
theorem k0_747 : am_cd am_x 0 747 = some (.aload_n 1, 1, 0, 0, .null) := by decide +kernel
theorem k0_748 : am_cd am_x 0 748 = some (.invokevirtual 101, 3, 106, 7, .null) := by decide +kernel
theorem k0_751 : am_cd am_x 0 751 = some (.aload_n 2, 1, 0, 0, .null) := by decide +kernel
theorem k0_752 : am_cd am_x 0 752 = some (.invokevirtual 104, 3, 188, 8, .null) := by decide +kernel
theorem k0_755 : am_cd am_x 0 755 = some (.if_icmp .eq 361, 3, 1116, 0, .null) := by decide +kernel
theorem k0_758 : am_cd am_x 0 758 = some (.iconst 0, 1, 0, 0, .null) := by decide +kernel
theorem k0_759 : am_cd am_x 0 759 = some (.ireturn, 1, 0, 0, .null) := by decide +kernel
theorem k0_760 : am_cd am_x 0 760 = some (.aload_n 1, 1, 0, 0, .null) := by decide +kernel
theorem k0_761 : am_cd am_x 0 761 = some (.aload_n 0, 1, 0, 0, .null) := by decide +kernel
theorem k0_762 : am_cd am_x 0 762 = some (.iload_n 3, 1, 0, 0, .null) := by decide +kernel
theorem k0_763 : am_cd am_x 0 763 = some (.iconst 1, 1, 0, 0, .null) := by decide +kernel
theorem k0_764 : am_cd am_x 0 764 = some (.iadd, 1, 0, 0, .null) := by decide +kernel
theorem k0_765 : am_cd am_x 0 765 = some (.iaload, 1, 0, 0, .null) := by decide +kernel
theorem k0_766 : am_cd am_x 0 766 = some (.invokevirtual 105, 3, 107, 7, .null) := by decide +kernel
theorem k0_769 : am_cd am_x 0 769 = some (.aload_n 2, 1, 0, 0, .null) := by decide +kernel
theorem k0_770 : am_cd am_x 0 770 = some (.aload_n 0, 1, 0, 0, .null) := by decide +kernel
theorem k0_771 : am_cd am_x 0 771 = some (.iload_n 3, 1, 0, 0, .null) := by decide +kernel
theorem k0_772 : am_cd am_x 0 772 = some (.iconst 1, 1, 0, 0, .null) := by decide +kernel
theorem k0_773 : am_cd am_x 0 773 = some (.iadd, 1, 0, 0, .null) := by decide +kernel
theorem k0_774 : am_cd am_x 0 774 = some (.iaload, 1, 0, 0, .null) := by decide +kernel
theorem k0_775 : am_cd am_x 0 775 = some (.invokevirtual 108, 3, 191, 8, .null) := by decide +kernel
theorem k0_778 : am_cd am_x 0 778 = some (.if_icmp .eq 338, 3, 1116, 0, .null) := by decide +kernel
theorem k0_781 : am_cd am_x 0 781 = some (.iconst 0, 1, 0, 0, .null) := by decide +kernel
theorem k0_782 : am_cd am_x 0 782 = some (.ireturn, 1, 0, 0, .null) := by decide +kernel
theorem k0_783 : am_cd am_x 0 783 = some (.aload_n 1, 1, 0, 0, .null) := by decide +kernel
theorem k0_784 : am_cd am_x 0 784 = some (.aload_n 0, 1, 0, 0, .null) := by decide +kernel
theorem k0_785 : am_cd am_x 0 785 = some (.iload_n 3, 1, 0, 0, .null) := by decide +kernel
theorem k0_786 : am_cd am_x 0 786 = some (.iconst 1, 1, 0, 0, .null) := by decide +kernel
theorem k0_787 : am_cd am_x 0 787 = some (.iadd, 1, 0, 0, .null) := by decide +kernel
theorem k0_788 : am_cd am_x 0 788 = some (.iaload, 1, 0, 0, .null) := by decide +kernel
theorem k0_789 : am_cd am_x 0 789 = some (.invokevirtual 109, 3, 108, 7, .null) := by decide +kernel
theorem k0_792 : am_cd am_x 0 792 = some (.aload_n 2, 1, 0, 0, .null) := by decide +kernel
theorem k0_793 : am_cd am_x 0 793 = some (.aload_n 0, 1, 0, 0, .null) := by decide +kernel
theorem k0_794 : am_cd am_x 0 794 = some (.iload_n 3, 1, 0, 0, .null) := by decide +kernel
theorem k0_795 : am_cd am_x 0 795 = some (.iconst 1, 1, 0, 0, .null) := by decide +kernel
theorem k0_796 : am_cd am_x 0 796 = some (.iadd, 1, 0, 0, .null) := by decide +kernel
theorem k0_797 : am_cd am_x 0 797 = some (.iaload, 1, 0, 0, .null) := by decide +kernel
theorem k0_798 : am_cd am_x 0 798 = some (.invokevirtual 112, 3, 192, 8, .null) := by decide +kernel
theorem k0_801 : am_cd am_x 0 801 = some (.if_icmp .eq 315, 3, 1116, 0, .null) := by decide +kernel
theorem k0_804 : am_cd am_x 0 804 = some (.iconst 0, 1, 0, 0, .null) := by decide +kernel
theorem k0_805 : am_cd am_x 0 805 = some (.ireturn, 1, 0, 0, .null) := by decide +kernel
theorem k0_806 : am_cd am_x 0 806 = some (.aload_n 1, 1, 0, 0, .null) := by decide +kernel
theorem k0_807 : am_cd am_x 0 807 = some (.aload_n 0, 1, 0, 0, .null) := by decide +kernel
theorem k0_808 : am_cd am_x 0 808 = some (.iload_n 3, 1, 0, 0, .null) := by decide +kernel
theorem k0_809 : am_cd am_x 0 809 = some (.iconst 1, 1, 0, 0, .null) := by decide +kernel
theorem k0_810 : am_cd am_x 0 810 = some (.iadd, 1, 0, 0, .null) := by decide +kernel
theorem k0_811 : am_cd am_x 0 811 = some (.iaload, 1, 0, 0, .null) := by decide +kernel
theorem k0_812 : am_cd am_x 0 812 = some (.aload_n 0, 1, 0, 0, .null) := by decide +kernel
theorem k0_813 : am_cd am_x 0 813 = some (.iload_n 3, 1, 0, 0, .null) := by decide +kernel
theorem k0_814 : am_cd am_x 0 814 = some (.iconst 2, 1, 0, 0, .null) := by decide +kernel
theorem k0_815 : am_cd am_x 0 815 = some (.iadd, 1, 0, 0, .null) := by decide +kernel
theorem k0_816 : am_cd am_x 0 816 = some (.iaload, 1, 0, 0, .null) := by decide +kernel
theorem k0_817 : am_cd am_x 0 817 = some (.invokevirtual 113, 3, 109, 7, .null) := by decide +kernel
theorem k0_820 : am_cd am_x 0 820 = some (.aload_n 2, 1, 0, 0, .null) := by decide +kernel
theorem k0_821 : am_cd am_x 0 821 = some (.aload_n 0, 1, 0, 0, .null) := by decide +kernel
theorem k0_822 : am_cd am_x 0 822 = some (.iload_n 3, 1, 0, 0, .null) := by decide +kernel
theorem k0_823 : am_cd am_x 0 823 = some (.iconst 1, 1, 0, 0, .null) := by decide +kernel
theorem k0_824 : am_cd am_x 0 824 = some (.iadd, 1, 0, 0, .null) := by decide +kernel
theorem k0_825 : am_cd am_x 0 825 = some (.iaload, 1, 0, 0, .null) := by decide +kernel
theorem k0_826 : am_cd am_x 0 826 = some (.aload_n 0, 1, 0, 0, .null) := by decide +kernel
theorem k0_827 : am_cd am_x 0 827 = some (.iload_n 3, 1, 0, 0, .null) := by decide +kernel
theorem k0_828 : am_cd am_x 0 828 = some (.iconst 2, 1, 0, 0, .null) := by decide +kernel
theorem k0_829 : am_cd am_x 0 829 = some (.iadd, 1, 0, 0, .null) := by decide +kernel
theorem k0_830 : am_cd am_x 0 830 = some (.iaload, 1, 0, 0, .null) := by decide +kernel
theorem k0_831 : am_cd am_x 0 831 = some (.invokevirtual 116, 3, 194, 8, .null) := by decide +kernel
theorem k0_834 : am_cd am_x 0 834 = some (.if_icmp .eq 282, 3, 1116, 0, .null) := by decide +kernel
theorem k0_837 : am_cd am_x 0 837 = some (.iconst 0, 1, 0, 0, .null) := by decide +kernel
theorem k0_838 : am_cd am_x 0 838 = some (.ireturn, 1, 0, 0, .null) := by decide +kernel
theorem k0_839 : am_cd am_x 0 839 = some (.aload_n 1, 1, 0, 0, .null) := by decide +kernel
theorem k0_840 : am_cd am_x 0 840 = some (.aload_n 0, 1, 0, 0, .null) := by decide +kernel
theorem k0_841 : am_cd am_x 0 841 = some (.iload_n 3, 1, 0, 0, .null) := by decide +kernel
theorem k0_842 : am_cd am_x 0 842 = some (.iconst 1, 1, 0, 0, .null) := by decide +kernel
theorem k0_843 : am_cd am_x 0 843 = some (.iadd, 1, 0, 0, .null) := by decide +kernel
theorem k0_844 : am_cd am_x 0 844 = some (.iaload, 1, 0, 0, .null) := by decide +kernel
theorem k0_845 : am_cd am_x 0 845 = some (.invokevirtual 117, 3, 110, 7, .null) := by decide +kernel
theorem k0_848 : am_cd am_x 0 848 = some (.aload_n 2, 1, 0, 0, .null) := by decide +kernel
theorem k0_849 : am_cd am_x 0 849 = some (.aload_n 0, 1, 0, 0, .null) := by decide +kernel
theorem k0_850 : am_cd am_x 0 850 = some (.iload_n 3, 1, 0, 0, .null) := by decide +kernel
theorem k0_851 : am_cd am_x 0 851 = some (.iconst 1, 1, 0, 0, .null) := by decide +kernel
theorem k0_852 : am_cd am_x 0 852 = some (.iadd, 1, 0, 0, .null) := by decide +kernel
theorem k0_853 : am_cd am_x 0 853 = some (.iaload, 1, 0, 0, .null) := by decide +kernel
theorem k0_854 : am_cd am_x 0 854 = some (.invokevirtual 120, 3, 195, 8, .null) := by decide +kernel
theorem k0_857 : am_cd am_x 0 857 = some (.if_icmp .eq 259, 3, 1116, 0, .null) := by decide +kernel
theorem k0_860 : am_cd am_x 0 860 = some (.iconst 0, 1, 0, 0, .null) := by decide +kernel
theorem k0_861 : am_cd am_x 0 861 = some (.ireturn, 1, 0, 0, .null) := by decide +kernel
theorem k0_862 : am_cd am_x 0 862 = some (.aload_n 1, 1, 0, 0, .null) := by decide +kernel
theorem k0_863 : am_cd am_x 0 863 = some (.aload_n 0, 1, 0, 0, .null) := by decide +kernel
theorem k0_864 : am_cd am_x 0 864 = some (.iload_n 3, 1, 0, 0, .null) := by decide +kernel
theorem k0_865 : am_cd am_x 0 865 = some (.iconst 1, 1, 0, 0, .null) := by decide +kernel
theorem k0_866 : am_cd am_x 0 866 = some (.iadd, 1, 0, 0, .null) := by decide +kernel
theorem k0_867 : am_cd am_x 0 867 = some (.iaload, 1, 0, 0, .null) := by decide +kernel
theorem k0_868 : am_cd am_x 0 868 = some (.invokevirtual 121, 3, 111, 7, .null) := by decide +kernel
theorem k0_871 : am_cd am_x 0 871 = some (.aload_n 2, 1, 0, 0, .null) := by decide +kernel
theorem k0_872 : am_cd am_x 0 872 = some (.aload_n 0, 1, 0, 0, .null) := by decide +kernel
theorem k0_873 : am_cd am_x 0 873 = some (.iload_n 3, 1, 0, 0, .null) := by decide +kernel
theorem k0_874 : am_cd am_x 0 874 = some (.iconst 1, 1, 0, 0, .null) := by decide +kernel
theorem k0_875 : am_cd am_x 0 875 = some (.iadd, 1, 0, 0, .null) := by decide +kernel
theorem k0_876 : am_cd am_x 0 876 = some (.iaload, 1, 0, 0, .null) := by decide +kernel
theorem k0_877 : am_cd am_x 0 877 = some (.invokevirtual 124, 3, 196, 8, .null) := by decide +kernel
theorem k0_880 : am_cd am_x 0 880 = some (.if_icmp .eq 236, 3, 1116, 0, .null) := by decide +kernel
theorem k0_883 : am_cd am_x 0 883 = some (.iconst 0, 1, 0, 0, .null) := by decide +kernel
theorem k0_884 : am_cd am_x 0 884 = some (.ireturn, 1, 0, 0, .null) := by decide +kernel
theorem k0_885 : am_cd am_x 0 885 = some (.aload_n 1, 1, 0, 0, .null) := by decide +kernel
theorem k0_886 : am_cd am_x 0 886 = some (.aload_n 0, 1, 0, 0, .null) := by decide +kernel
theorem k0_887 : am_cd am_x 0 887 = some (.iload_n 3, 1, 0, 0, .null) := by decide +kernel
theorem k0_888 : am_cd am_x 0 888 = some (.iconst 1, 1, 0, 0, .null) := by decide +kernel
theorem k0_889 : am_cd am_x 0 889 = some (.iadd, 1, 0, 0, .null) := by decide +kernel
theorem k0_890 : am_cd am_x 0 890 = some (.iaload, 1, 0, 0, .null) := by decide +kernel
theorem k0_891 : am_cd am_x 0 891 = some (.invokevirtual 125, 3, 112, 7, .null) := by decide +kernel
theorem k0_894 : am_cd am_x 0 894 = some (.aload_n 2, 1, 0, 0, .null) := by decide +kernel
theorem k0_895 : am_cd am_x 0 895 = some (.aload_n 0, 1, 0, 0, .null) := by decide +kernel
theorem k0_896 : am_cd am_x 0 896 = some (.iload_n 3, 1, 0, 0, .null) := by decide +kernel
theorem k0_897 : am_cd am_x 0 897 = some (.iconst 1, 1, 0, 0, .null) := by decide +kernel
theorem k0_898 : am_cd am_x 0 898 = some (.iadd, 1, 0, 0, .null) := by decide +kernel
theorem k0_899 : am_cd am_x 0 899 = some (.iaload, 1, 0, 0, .null) := by decide +kernel
theorem k0_900 : am_cd am_x 0 900 = some (.invokevirtual 128, 3, 198, 8, .null) := by decide +kernel
theorem k0_903 : am_cd am_x 0 903 = some (.if_icmp .eq 213, 3, 1116, 0, .null) := by decide +kernel
theorem k0_906 : am_cd am_x 0 906 = some (.iconst 0, 1, 0, 0, .null) := by decide +kernel
theorem k0_907 : am_cd am_x 0 907 = some (.ireturn, 1, 0, 0, .null) := by decide +kernel
theorem k0_908 : am_cd am_x 0 908 = some (.aload_n 1, 1, 0, 0, .null) := by decide +kernel
theorem k0_909 : am_cd am_x 0 909 = some (.aload_n 0, 1, 0, 0, .null) := by decide +kernel
theorem k0_910 : am_cd am_x 0 910 = some (.iload_n 3, 1, 0, 0, .null) := by decide +kernel
theorem k0_911 : am_cd am_x 0 911 = some (.iconst 1, 1, 0, 0, .null) := by decide +kernel
theorem k0_912 : am_cd am_x 0 912 = some (.iadd, 1, 0, 0, .null) := by decide +kernel
theorem k0_913 : am_cd am_x 0 913 = some (.iaload, 1, 0, 0, .null) := by decide +kernel
theorem k0_914 : am_cd am_x 0 914 = some (.aload_n 0, 1, 0, 0, .null) := by decide +kernel
theorem k0_915 : am_cd am_x 0 915 = some (.iload_n 3, 1, 0, 0, .null) := by decide +kernel
theorem k0_916 : am_cd am_x 0 916 = some (.iconst 2, 1, 0, 0, .null) := by decide +kernel
theorem k0_917 : am_cd am_x 0 917 = some (.iadd, 1, 0, 0, .null) := by decide +kernel
theorem k0_918 : am_cd am_x 0 918 = some (.iaload, 1, 0, 0, .null) := by decide +kernel
theorem k0_919 : am_cd am_x 0 919 = some (.invokevirtual 129, 3, 113, 7, .null) := by decide +kernel
theorem k0_922 : am_cd am_x 0 922 = some (.aload_n 2, 1, 0, 0, .null) := by decide +kernel
theorem k0_923 : am_cd am_x 0 923 = some (.aload_n 0, 1, 0, 0, .null) := by decide +kernel
theorem k0_924 : am_cd am_x 0 924 = some (.iload_n 3, 1, 0, 0, .null) := by decide +kernel
theorem k0_925 : am_cd am_x 0 925 = some (.iconst 1, 1, 0, 0, .null) := by decide +kernel
theorem k0_926 : am_cd am_x 0 926 = some (.iadd, 1, 0, 0, .null) := by decide +kernel
theorem k0_927 : am_cd am_x 0 927 = some (.iaload, 1, 0, 0, .null) := by decide +kernel
theorem k0_928 : am_cd am_x 0 928 = some (.aload_n 0, 1, 0, 0, .null) := by decide +kernel
theorem k0_929 : am_cd am_x 0 929 = some (.iload_n 3, 1, 0, 0, .null) := by decide +kernel
theorem k0_930 : am_cd am_x 0 930 = some (.iconst 2, 1, 0, 0, .null) := by decide +kernel
theorem k0_931 : am_cd am_x 0 931 = some (.iadd, 1, 0, 0, .null) := by decide +kernel
theorem k0_932 : am_cd am_x 0 932 = some (.iaload, 1, 0, 0, .null) := by decide +kernel
theorem k0_933 : am_cd am_x 0 933 = some (.invokevirtual 132, 3, 203, 8, .null) := by decide +kernel
theorem k0_936 : am_cd am_x 0 936 = some (.if_icmp .eq 180, 3, 1116, 0, .null) := by decide +kernel
theorem k0_939 : am_cd am_x 0 939 = some (.iconst 0, 1, 0, 0, .null) := by decide +kernel
theorem k0_940 : am_cd am_x 0 940 = some (.ireturn, 1, 0, 0, .null) := by decide +kernel
theorem k0_941 : am_cd am_x 0 941 = some (.aload_n 1, 1, 0, 0, .null) := by decide +kernel
theorem k0_942 : am_cd am_x 0 942 = some (.aload_n 0, 1, 0, 0, .null) := by decide +kernel
theorem k0_943 : am_cd am_x 0 943 = some (.iload_n 3, 1, 0, 0, .null) := by decide +kernel
theorem k0_944 : am_cd am_x 0 944 = some (.iconst 1, 1, 0, 0, .null) := by decide +kernel
theorem k0_945 : am_cd am_x 0 945 = some (.iadd, 1, 0, 0, .null) := by decide +kernel
theorem k0_946 : am_cd am_x 0 946 = some (.iaload, 1, 0, 0, .null) := by decide +kernel
theorem k0_947 : am_cd am_x 0 947 = some (.aload_n 0, 1, 0, 0, .null) := by decide +kernel
theorem k0_948 : am_cd am_x 0 948 = some (.iload_n 3, 1, 0, 0, .null) := by decide +kernel
theorem k0_949 : am_cd am_x 0 949 = some (.iconst 2, 1, 0, 0, .null) := by decide +kernel
theorem k0_950 : am_cd am_x 0 950 = some (.iadd, 1, 0, 0, .null) := by decide +kernel
theorem k0_951 : am_cd am_x 0 951 = some (.iaload, 1, 0, 0, .null) := by decide +kernel
theorem k0_952 : am_cd am_x 0 952 = some (.aload_n 0, 1, 0, 0, .null) := by decide +kernel
theorem k0_953 : am_cd am_x 0 953 = some (.iload_n 3, 1, 0, 0, .null) := by decide +kernel
theorem k0_954 : am_cd am_x 0 954 = some (.iconst 3, 1, 0, 0, .null) := by decide +kernel
theorem k0_955 : am_cd am_x 0 955 = some (.iadd, 1, 0, 0, .null) := by decide +kernel
theorem k0_956 : am_cd am_x 0 956 = some (.iaload, 1, 0, 0, .null) := by decide +kernel
theorem k0_957 : am_cd am_x 0 957 = some (.invokevirtual 133, 3, 114, 7, .null) := by decide +kernel
theorem k0_960 : am_cd am_x 0 960 = some (.aload_n 2, 1, 0, 0, .null) := by decide +kernel
theorem k0_961 : am_cd am_x 0 961 = some (.aload_n 0, 1, 0, 0, .null) := by decide +kernel
theorem k0_962 : am_cd am_x 0 962 = some (.iload_n 3, 1, 0, 0, .null) := by decide +kernel
theorem k0_963 : am_cd am_x 0 963 = some (.iconst 1, 1, 0, 0, .null) := by decide +kernel
theorem k0_964 : am_cd am_x 0 964 = some (.iadd, 1, 0, 0, .null) := by decide +kernel
theorem k0_965 : am_cd am_x 0 965 = some (.iaload, 1, 0, 0, .null) := by decide +kernel
theorem k0_966 : am_cd am_x 0 966 = some (.aload_n 0, 1, 0, 0, .null) := by decide +kernel
theorem k0_967 : am_cd am_x 0 967 = some (.iload_n 3, 1, 0, 0, .null) := by decide +kernel
theorem k0_968 : am_cd am_x 0 968 = some (.iconst 2, 1, 0, 0, .null) := by decide +kernel
theorem k0_969 : am_cd am_x 0 969 = some (.iadd, 1, 0, 0, .null) := by decide +kernel
theorem k0_970 : am_cd am_x 0 970 = some (.iaload, 1, 0, 0, .null) := by decide +kernel
theorem k0_971 : am_cd am_x 0 971 = some (.aload_n 0, 1, 0, 0, .null) := by decide +kernel
theorem k0_972 : am_cd am_x 0 972 = some (.iload_n 3, 1, 0, 0, .null) := by decide +kernel
theorem k0_973 : am_cd am_x 0 973 = some (.iconst 3, 1, 0, 0, .null) := by decide +kernel
theorem k0_974 : am_cd am_x 0 974 = some (.iadd, 1, 0, 0, .null) := by decide +kernel
theorem k0_975 : am_cd am_x 0 975 = some (.iaload, 1, 0, 0, .null) := by decide +kernel
theorem k0_976 : am_cd am_x 0 976 = some (.invokevirtual 136, 3, 205, 8, .null) := by decide +kernel
theorem k0_979 : am_cd am_x 0 979 = some (.if_icmp .eq 137, 3, 1116, 0, .null) := by decide +kernel
theorem k0_982 : am_cd am_x 0 982 = some (.iconst 0, 1, 0, 0, .null) := by decide +kernel
theorem k0_983 : am_cd am_x 0 983 = some (.ireturn, 1, 0, 0, .null) := by decide +kernel
theorem k0_984 : am_cd am_x 0 984 = some (.aload_n 1, 1, 0, 0, .null) := by decide +kernel
theorem k0_985 : am_cd am_x 0 985 = some (.aload_n 0, 1, 0, 0, .null) := by decide +kernel
theorem k0_986 : am_cd am_x 0 986 = some (.iload_n 3, 1, 0, 0, .null) := by decide +kernel
theorem k0_987 : am_cd am_x 0 987 = some (.iconst 1, 1, 0, 0, .null) := by decide +kernel
theorem k0_988 : am_cd am_x 0 988 = some (.iadd, 1, 0, 0, .null) := by decide +kernel
theorem k0_989 : am_cd am_x 0 989 = some (.iaload, 1, 0, 0, .null) := by decide +kernel
theorem k0_990 : am_cd am_x 0 990 = some (.aload_n 0, 1, 0, 0, .null) := by decide +kernel
theorem k0_991 : am_cd am_x 0 991 = some (.iload_n 3, 1, 0, 0, .null) := by decide +kernel
theorem k0_992 : am_cd am_x 0 992 = some (.iconst 2, 1, 0, 0, .null) := by decide +kernel
theorem k0_993 : am_cd am_x 0 993 = some (.iadd, 1, 0, 0, .null) := by decide +kernel
theorem k0_994 : am_cd am_x 0 994 = some (.iaload, 1, 0, 0, .null) := by decide +kernel
theorem k0_995 : am_cd am_x 0 995 = some (.aload_n 0, 1, 0, 0, .null) := by decide +kernel
theorem k0_996 : am_cd am_x 0 996 = some (.iload_n 3, 1, 0, 0, .null) := by decide +kernel
theorem k0_997 : am_cd am_x 0 997 = some (.iconst 3, 1, 0, 0, .null) := by decide +kernel
theorem k0_998 : am_cd am_x 0 998 = some (.iadd, 1, 0, 0, .null) := by decide +kernel
theorem k0_999 : am_cd am_x 0 999 = some (.iaload, 1, 0, 0, .null) := by decide +kernel
theorem k0_1000 : am_cd am_x 0 1000 = some (.invokevirtual 137, 3, 115, 7, .null) := by decide +kernel
theorem k0_1003 : am_cd am_x 0 1003 = some (.aload_n 2, 1, 0, 0, .null) := by decide +kernel
theorem k0_1004 : am_cd am_x 0 1004 = some (.aload_n 0, 1, 0, 0, .null) := by decide +kernel
theorem k0_1005 : am_cd am_x 0 1005 = some (.iload_n 3, 1, 0, 0, .null) := by decide +kernel
theorem k0_1006 : am_cd am_x 0 1006 = some (.iconst 1, 1, 0, 0, .null) := by decide +kernel
theorem k0_1007 : am_cd am_x 0 1007 = some (.iadd, 1, 0, 0, .null) := by decide +kernel
theorem k0_1008 : am_cd am_x 0 1008 = some (.iaload, 1, 0, 0, .null) := by decide +kernel
theorem k0_1009 : am_cd am_x 0 1009 = some (.aload_n 0, 1, 0, 0, .null) := by decide +kernel
theorem k0_1010 : am_cd am_x 0 1010 = some (.iload_n 3, 1, 0, 0, .null) := by decide +kernel
theorem k0_1011 : am_cd am_x 0 1011 = some (.iconst 2, 1, 0, 0, .null) := by decide +kernel
theorem k0_1012 : am_cd am_x 0 1012 = some (.iadd, 1, 0, 0, .null) := by decide +kernel
theorem k0_1013 : am_cd am_x 0 1013 = some (.iaload, 1, 0, 0, .null) := by decide +kernel
theorem k0_1014 : am_cd am_x 0 1014 = some (.aload_n 0, 1, 0, 0, .null) := by decide +kernel
theorem k0_1015 : am_cd am_x 0 1015 = some (.iload_n 3, 1, 0, 0, .null) := by decide +kernel
theorem k0_1016 : am_cd am_x 0 1016 = some (.iconst 3, 1, 0, 0, .null) := by decide +kernel
theorem k0_1017 : am_cd am_x 0 1017 = some (.iadd, 1, 0, 0, .null) := by decide +kernel
theorem k0_1018 : am_cd am_x 0 1018 = some (.iaload, 1, 0, 0, .null) := by decide +kernel
theorem k0_1019 : am_cd am_x 0 1019 = some (.invokevirtual 140, 3, 206, 8, .null) := by decide +kernel
theorem k0_1022 : am_cd am_x 0 1022 = some (.if_icmp .eq 94, 3, 1116, 0, .null) := by decide +kernel
theorem k0_1025 : am_cd am_x 0 1025 = some (.iconst 0, 1, 0, 0, .null) := by decide +kernel
theorem k0_1026 : am_cd am_x 0 1026 = some (.ireturn, 1, 0, 0, .null) := by decide +kernel
theorem k0_1027 : am_cd am_x 0 1027 = some (.aload_n 1, 1, 0, 0, .null) := by decide +kernel
theorem k0_1028 : am_cd am_x 0 1028 = some (.aload_n 0, 1, 0, 0, .null) := by decide +kernel
theorem k0_1029 : am_cd am_x 0 1029 = some (.iload_n 3, 1, 0, 0, .null) := by decide +kernel
theorem k0_1030 : am_cd am_x 0 1030 = some (.iconst 1, 1, 0, 0, .null) := by decide +kernel
theorem k0_1031 : am_cd am_x 0 1031 = some (.iadd, 1, 0, 0, .null) := by decide +kernel
theorem k0_1032 : am_cd am_x 0 1032 = some (.iaload, 1, 0, 0, .null) := by decide +kernel
theorem k0_1033 : am_cd am_x 0 1033 = some (.aload_n 0, 1, 0, 0, .null) := by decide +kernel
theorem k0_1034 : am_cd am_x 0 1034 = some (.iload_n 3, 1, 0, 0, .null) := by decide +kernel
theorem k0_1035 : am_cd am_x 0 1035 = some (.iconst 2, 1, 0, 0, .null) := by decide +kernel
theorem k0_1036 : am_cd am_x 0 1036 = some (.iadd, 1, 0, 0, .null) := by decide +kernel
theorem k0_1037 : am_cd am_x 0 1037 = some (.iaload, 1, 0, 0, .null) := by decide +kernel
theorem k0_1038 : am_cd am_x 0 1038 = some (.aload_n 0, 1, 0, 0, .null) := by decide +kernel
theorem k0_1039 : am_cd am_x 0 1039 = some (.iload_n 3, 1, 0, 0, .null) := by decide +kernel
theorem k0_1040 : am_cd am_x 0 1040 = some (.iconst 3, 1, 0, 0, .null) := by decide +kernel
theorem k0_1041 : am_cd am_x 0 1041 = some (.iadd, 1, 0, 0, .null) := by decide +kernel
theorem k0_1042 : am_cd am_x 0 1042 = some (.iaload, 1, 0, 0, .null) := by decide +kernel
theorem k0_1043 : am_cd am_x 0 1043 = some (.aload_n 0, 1, 0, 0, .null) := by decide +kernel
theorem k0_1044 : am_cd am_x 0 1044 = some (.iload_n 3, 1, 0, 0, .null) := by decide +kernel
theorem k0_1045 : am_cd am_x 0 1045 = some (.iconst 4, 1, 0, 0, .null) := by decide +kernel
theorem k0_1046 : am_cd am_x 0 1046 = some (.iadd, 1, 0, 0, .null) := by decide +kernel
theorem k0_1047 : am_cd am_x 0 1047 = some (.iaload, 1, 0, 0, .null) := by decide +kernel
theorem k0_1048 : am_cd am_x 0 1048 = some (.invokevirtual 141, 3, 116, 7, .null) := by decide +kernel
theorem k0_1051 : am_cd am_x 0 1051 = some (.aload_n 2, 1, 0, 0, .null) := by decide +kernel
theorem k0_1052 : am_cd am_x 0 1052 = some (.aload_n 0, 1, 0, 0, .null) := by decide +kernel
theorem k0_1053 : am_cd am_x 0 1053 = some (.iload_n 3, 1, 0, 0, .null) := by decide +kernel
theorem k0_1054 : am_cd am_x 0 1054 = some (.iconst 1, 1, 0, 0, .null) := by decide +kernel
theorem k0_1055 : am_cd am_x 0 1055 = some (.iadd, 1, 0, 0, .null) := by decide +kernel
theorem k0_1056 : am_cd am_x 0 1056 = some (.iaload, 1, 0, 0, .null) := by decide +kernel
theorem k0_1057 : am_cd am_x 0 1057 = some (.aload_n 0, 1, 0, 0, .null) := by decide +kernel
theorem k0_1058 : am_cd am_x 0 1058 = some (.iload_n 3, 1, 0, 0, .null) := by decide +kernel
theorem k0_1059 : am_cd am_x 0 1059 = some (.iconst 2, 1, 0, 0, .null) := by decide +kernel
theorem k0_1060 : am_cd am_x 0 1060 = some (.iadd, 1, 0, 0, .null) := by decide +kernel
theorem k0_1061 : am_cd am_x 0 1061 = some (.iaload, 1, 0, 0, .null) := by decide +kernel
theorem k0_1062 : am_cd am_x 0 1062 = some (.aload_n 0, 1, 0, 0, .null) := by decide +kernel
theorem k0_1063 : am_cd am_x 0 1063 = some (.iload_n 3, 1, 0, 0, .null) := by decide +kernel
theorem k0_1064 : am_cd am_x 0 1064 = some (.iconst 3, 1, 0, 0, .null) := by decide +kernel
theorem k0_1065 : am_cd am_x 0 1065 = some (.iadd, 1, 0, 0, .null) := by decide +kernel
theorem k0_1066 : am_cd am_x 0 1066 = some (.iaload, 1, 0, 0, .null) := by decide +kernel
theorem k0_1067 : am_cd am_x 0 1067 = some (.aload_n 0, 1, 0, 0, .null) := by decide +kernel
theorem k0_1068 : am_cd am_x 0 1068 = some (.iload_n 3, 1, 0, 0, .null) := by decide +kernel
theorem k0_1069 : am_cd am_x 0 1069 = some (.iconst 4, 1, 0, 0, .null) := by decide +kernel
theorem k0_1070 : am_cd am_x 0 1070 = some (.iadd, 1, 0, 0, .null) := by decide +kernel
theorem k0_1071 : am_cd am_x 0 1071 = some (.iaload, 1, 0, 0, .null) := by decide +kernel
theorem k0_1072 : am_cd am_x 0 1072 = some (.invokevirtual 145, 3, 207, 8, .null) := by decide +kernel
theorem k0_1075 : am_cd am_x 0 1075 = some (.if_icmp .eq 41, 3, 1116, 0, .null) := by decide +kernel
theorem k0_1078 : am_cd am_x 0 1078 = some (.iconst 0, 1, 0, 0, .null) := by decide +kernel
theorem k0_1079 : am_cd am_x 0 1079 = some (.ireturn, 1, 0, 0, .null) := by decide +kernel
theorem k0_1080 : am_cd am_x 0 1080 = some (.aload_n 1, 1, 0, 0, .null) := by decide +kernel
theorem k0_1081 : am_cd am_x 0 1081 = some (.invokevirtual 146, 3, 117, 7, .null) := by decide +kernel
theorem k0_1084 : am_cd am_x 0 1084 = some (.aload_n 2, 1, 0, 0, .null) := by decide +kernel
theorem k0_1085 : am_cd am_x 0 1085 = some (.invokevirtual 149, 3, 208, 8, .null) := by decide +kernel
theorem k0_1088 : am_cd am_x 0 1088 = some (.if_icmp .eq 28, 3, 1116, 0, .null) := by decide +kernel
theorem k0_1091 : am_cd am_x 0 1091 = some (.iconst 0, 1, 0, 0, .null) := by decide +kernel
theorem k0_1092 : am_cd am_x 0 1092 = some (.ireturn, 1, 0, 0, .null) := by decide +kernel
theorem k0_1093 : am_cd am_x 0 1093 = some (.aload_n 1, 1, 0, 0, .null) := by decide +kernel
theorem k0_1094 : am_cd am_x 0 1094 = some (.aload_n 0, 1, 0, 0, .null) := by decide +kernel
theorem k0_1095 : am_cd am_x 0 1095 = some (.iload_n 3, 1, 0, 0, .null) := by decide +kernel
theorem k0_1096 : am_cd am_x 0 1096 = some (.iconst 1, 1, 0, 0, .null) := by decide +kernel
theorem k0_1097 : am_cd am_x 0 1097 = some (.iadd, 1, 0, 0, .null) := by decide +kernel
theorem k0_1098 : am_cd am_x 0 1098 = some (.iaload, 1, 0, 0, .null) := by decide +kernel
theorem k0_1099 : am_cd am_x 0 1099 = some (.invokevirtual 150, 3, 118, 7, .null) := by decide +kernel
theorem k0_1102 : am_cd am_x 0 1102 = some (.aload_n 2, 1, 0, 0, .null) := by decide +kernel
theorem k0_1103 : am_cd am_x 0 1103 = some (.aload_n 0, 1, 0, 0, .null) := by decide +kernel
theorem k0_1104 : am_cd am_x 0 1104 = some (.iload_n 3, 1, 0, 0, .null) := by decide +kernel
theorem k0_1105 : am_cd am_x 0 1105 = some (.iconst 1, 1, 0, 0, .null) := by decide +kernel
theorem k0_1106 : am_cd am_x 0 1106 = some (.iadd, 1, 0, 0, .null) := by decide +kernel
theorem k0_1107 : am_cd am_x 0 1107 = some (.iaload, 1, 0, 0, .null) := by decide +kernel
theorem k0_1108 : am_cd am_x 0 1108 = some (.invokevirtual 153, 3, 211, 8, .null) := by decide +kernel
theorem k0_1111 : am_cd am_x 0 1111 = some (.if_icmp .eq 5, 3, 1116, 0, .null) := by decide +kernel
theorem k0_1114 : am_cd am_x 0 1114 = some (.iconst 0, 1, 0, 0, .null) := by decide +kernel
theorem k0_1115 : am_cd am_x 0 1115 = some (.ireturn, 1, 0, 0, .null) := by decide +kernel
theorem k0_1116 : am_cd am_x 0 1116 = some (.iinc 3 5, 3, 0, 0, .null) := by decide +kernel
theorem k0_1119 : am_cd am_x 0 1119 = some (.goto (-1101), 3, 18, 0, .null) := by decide +kernel
theorem k0_1122 : am_cd am_x 0 1122 = some (.iconst 1, 1, 0, 0, .null) := by decide +kernel
theorem k0_1123 : am_cd am_x 0 1123 = some (.ireturn, 1, 0, 0, .null) := by decide +kernel
theorem k2_0 : am_cd am_x 2 0 = some (.aload_n 0, 1, 0, 0, .null) := by decide +kernel
theorem k2_1 : am_cd am_x 2 1 = some (.iconst 0, 1, 0, 0, .null) := by decide +kernel
theorem k2_2 : am_cd am_x 2 2 = some (.putfield 27, 3, 0, 0, .int 0) := by decide +kernel
theorem k2_5 : am_cd am_x 2 5 = some (.aload_n 0, 1, 0, 0, .null) := by decide +kernel
theorem k2_6 : am_cd am_x 2 6 = some (.iconst 0, 1, 0, 0, .null) := by decide +kernel
theorem k2_7 : am_cd am_x 2 7 = some (.putfield 31, 3, 0, 1, .int 0) := by decide +kernel
theorem k2_10 : am_cd am_x 2 10 = some (.aload_n 0, 1, 0, 0, .null) := by decide +kernel
theorem k2_11 : am_cd am_x 2 11 = some (.iconst 0, 1, 0, 0, .null) := by decide +kernel
theorem k2_12 : am_cd am_x 2 12 = some (.putfield 34, 3, 0, 2, .int 0) := by decide +kernel
theorem k2_15 : am_cd am_x 2 15 = some (.aload_n 0, 1, 0, 0, .null) := by decide +kernel
theorem k2_16 : am_cd am_x 2 16 = some (.iconst 0, 1, 0, 0, .null) := by decide +kernel
theorem k2_17 : am_cd am_x 2 17 = some (.putfield 37, 3, 0, 3, .int 0) := by decide +kernel
theorem k2_20 : am_cd am_x 2 20 = some (.aload_n 0, 1, 0, 0, .null) := by decide +kernel
theorem k2_21 : am_cd am_x 2 21 = some (.iconst 4, 1, 0, 0, .null) := by decide +kernel
theorem k2_22 : am_cd am_x 2 22 = some (.putfield 40, 3, 0, 4, .int 0) := by decide +kernel
theorem k2_25 : am_cd am_x 2 25 = some (.aload_n 0, 1, 0, 0, .null) := by decide +kernel
theorem k2_26 : am_cd am_x 2 26 = some (.iconst 1, 1, 0, 0, .null) := by decide +kernel
theorem k2_27 : am_cd am_x 2 27 = some (.putfield 43, 3, 0, 5, .int 0) := by decide +kernel
theorem k2_30 : am_cd am_x 2 30 = some (.aload_n 0, 1, 0, 0, .null) := by decide +kernel
theorem k2_31 : am_cd am_x 2 31 = some (.iconst 1, 1, 0, 0, .null) := by decide +kernel
theorem k2_32 : am_cd am_x 2 32 = some (.putfield 46, 3, 0, 6, .int 0) := by decide +kernel
theorem k2_35 : am_cd am_x 2 35 = some (.aload_n 0, 1, 0, 0, .null) := by decide +kernel
theorem k2_36 : am_cd am_x 2 36 = some (.getfield 9, 3, 0, 7, .null) := by decide +kernel
theorem k2_39 : am_cd am_x 2 39 = some (.iconst 2, 1, 0, 0, .null) := by decide +kernel
theorem k2_40 : am_cd am_x 2 40 = some (.invokestatic 49, 3, 219, 0, .null) := by decide +kernel
theorem k2_43 : am_cd am_x 2 43 = some (.aload_n 0, 1, 0, 0, .null) := by decide +kernel
theorem k2_44 : am_cd am_x 2 44 = some (.getfield 15, 3, 0, 8, .null) := by decide +kernel
theorem k2_47 : am_cd am_x 2 47 = some (.iconst 2, 1, 0, 0, .null) := by decide +kernel
theorem k2_48 : am_cd am_x 2 48 = some (.invokestatic 49, 3, 219, 0, .null) := by decide +kernel
theorem k2_51 : am_cd am_x 2 51 = some (.aload_n 0, 1, 0, 0, .null) := by decide +kernel
theorem k2_52 : am_cd am_x 2 52 = some (.getfield 18, 3, 0, 9, .null) := by decide +kernel
theorem k2_55 : am_cd am_x 2 55 = some (.iconst 0, 1, 0, 0, .null) := by decide +kernel
theorem k2_56 : am_cd am_x 2 56 = some (.invokestatic 49, 3, 219, 0, .null) := by decide +kernel
theorem k2_59 : am_cd am_x 2 59 = some (.return_, 1, 0, 0, .null) := by decide +kernel
theorem k3_0 : am_cd am_x 3 0 = some (.aload_n 0, 1, 0, 0, .null) := by decide +kernel
theorem k3_1 : am_cd am_x 3 1 = some (.getfield 21, 3, 0, 10, .null) := by decide +kernel
theorem k3_4 : am_cd am_x 3 4 = some (.aload_n 0, 1, 0, 0, .null) := by decide +kernel
theorem k3_5 : am_cd am_x 3 5 = some (.invokevirtual 55, 3, 27, 0, .null) := by decide +kernel
theorem k3_8 : am_cd am_x 3 8 = some (.invokestatic 49, 3, 219, 0, .null) := by decide +kernel
theorem k3_11 : am_cd am_x 3 11 = some (.return_, 1, 0, 0, .null) := by decide +kernel
theorem k4_0 : am_cd am_x 4 0 = some (.aload_n 0, 1, 0, 0, .null) := by decide +kernel
theorem k4_1 : am_cd am_x 4 1 = some (.aload_n 1, 1, 0, 0, .null) := by decide +kernel
theorem k4_2 : am_cd am_x 4 2 = some (.getfield 27, 3, 0, 0, .null) := by decide +kernel
theorem k4_5 : am_cd am_x 4 5 = some (.putfield 27, 3, 0, 0, .int 0) := by decide +kernel
theorem k4_8 : am_cd am_x 4 8 = some (.aload_n 0, 1, 0, 0, .null) := by decide +kernel
theorem k4_9 : am_cd am_x 4 9 = some (.aload_n 1, 1, 0, 0, .null) := by decide +kernel
theorem k4_10 : am_cd am_x 4 10 = some (.getfield 31, 3, 0, 1, .null) := by decide +kernel
theorem k4_13 : am_cd am_x 4 13 = some (.putfield 31, 3, 0, 1, .int 0) := by decide +kernel
theorem k4_16 : am_cd am_x 4 16 = some (.aload_n 0, 1, 0, 0, .null) := by decide +kernel
theorem k4_17 : am_cd am_x 4 17 = some (.aload_n 1, 1, 0, 0, .null) := by decide +kernel
theorem k4_18 : am_cd am_x 4 18 = some (.getfield 34, 3, 0, 2, .null) := by decide +kernel
theorem k4_21 : am_cd am_x 4 21 = some (.putfield 34, 3, 0, 2, .int 0) := by decide +kernel
theorem k4_24 : am_cd am_x 4 24 = some (.aload_n 0, 1, 0, 0, .null) := by decide +kernel
theorem k4_25 : am_cd am_x 4 25 = some (.aload_n 1, 1, 0, 0, .null) := by decide +kernel
theorem k4_26 : am_cd am_x 4 26 = some (.getfield 37, 3, 0, 3, .null) := by decide +kernel
theorem k4_29 : am_cd am_x 4 29 = some (.putfield 37, 3, 0, 3, .int 0) := by decide +kernel
theorem k4_32 : am_cd am_x 4 32 = some (.aload_n 0, 1, 0, 0, .null) := by decide +kernel
theorem k4_33 : am_cd am_x 4 33 = some (.aload_n 1, 1, 0, 0, .null) := by decide +kernel
theorem k4_34 : am_cd am_x 4 34 = some (.getfield 40, 3, 0, 4, .null) := by decide +kernel
theorem k4_37 : am_cd am_x 4 37 = some (.putfield 40, 3, 0, 4, .int 0) := by decide +kernel
theorem k4_40 : am_cd am_x 4 40 = some (.aload_n 0, 1, 0, 0, .null) := by decide +kernel
theorem k4_41 : am_cd am_x 4 41 = some (.aload_n 1, 1, 0, 0, .null) := by decide +kernel
theorem k4_42 : am_cd am_x 4 42 = some (.getfield 43, 3, 0, 5, .null) := by decide +kernel
theorem k4_45 : am_cd am_x 4 45 = some (.putfield 43, 3, 0, 5, .int 0) := by decide +kernel
theorem k4_48 : am_cd am_x 4 48 = some (.aload_n 0, 1, 0, 0, .null) := by decide +kernel
theorem k4_49 : am_cd am_x 4 49 = some (.aload_n 1, 1, 0, 0, .null) := by decide +kernel
theorem k4_50 : am_cd am_x 4 50 = some (.getfield 46, 3, 0, 6, .null) := by decide +kernel
theorem k4_53 : am_cd am_x 4 53 = some (.putfield 46, 3, 0, 6, .int 0) := by decide +kernel
theorem k4_56 : am_cd am_x 4 56 = some (.aload_n 1, 1, 0, 0, .null) := by decide +kernel
theorem k4_57 : am_cd am_x 4 57 = some (.getfield 9, 3, 0, 7, .null) := by decide +kernel
theorem k4_60 : am_cd am_x 4 60 = some (.iconst 0, 1, 0, 0, .null) := by decide +kernel
theorem k4_61 : am_cd am_x 4 61 = some (.aload_n 0, 1, 0, 0, .null) := by decide +kernel
theorem k4_62 : am_cd am_x 4 62 = some (.getfield 9, 3, 0, 7, .null) := by decide +kernel
theorem k4_65 : am_cd am_x 4 65 = some (.iconst 0, 1, 0, 0, .null) := by decide +kernel
theorem k4_66 : am_cd am_x 4 66 = some (.bipush 64, 2, 0, 0, .null) := by decide +kernel
theorem k4_68 : am_cd am_x 4 68 = some (.invokestatic 59, 3, 900, 0, .null) := by decide +kernel
theorem k4_71 : am_cd am_x 4 71 = some (.aload_n 1, 1, 0, 0, .null) := by decide +kernel
theorem k4_72 : am_cd am_x 4 72 = some (.getfield 15, 3, 0, 8, .null) := by decide +kernel
theorem k4_75 : am_cd am_x 4 75 = some (.iconst 0, 1, 0, 0, .null) := by decide +kernel
theorem k4_76 : am_cd am_x 4 76 = some (.aload_n 0, 1, 0, 0, .null) := by decide +kernel
theorem k4_77 : am_cd am_x 4 77 = some (.getfield 15, 3, 0, 8, .null) := by decide +kernel
theorem k4_80 : am_cd am_x 4 80 = some (.iconst 0, 1, 0, 0, .null) := by decide +kernel
theorem k4_81 : am_cd am_x 4 81 = some (.bipush 64, 2, 0, 0, .null) := by decide +kernel
theorem k4_83 : am_cd am_x 4 83 = some (.invokestatic 59, 3, 900, 0, .null) := by decide +kernel
theorem k4_86 : am_cd am_x 4 86 = some (.aload_n 1, 1, 0, 0, .null) := by decide +kernel
theorem k4_87 : am_cd am_x 4 87 = some (.getfield 18, 3, 0, 9, .null) := by decide +kernel
theorem k4_90 : am_cd am_x 4 90 = some (.iconst 0, 1, 0, 0, .null) := by decide +kernel
theorem k4_91 : am_cd am_x 4 91 = some (.aload_n 0, 1, 0, 0, .null) := by decide +kernel
theorem k4_92 : am_cd am_x 4 92 = some (.getfield 18, 3, 0, 9, .null) := by decide +kernel
theorem k4_95 : am_cd am_x 4 95 = some (.iconst 0, 1, 0, 0, .null) := by decide +kernel
theorem k4_96 : am_cd am_x 4 96 = some (.bipush 8, 2, 0, 0, .null) := by decide +kernel
theorem k4_98 : am_cd am_x 4 98 = some (.invokestatic 59, 3, 900, 0, .null) := by decide +kernel
theorem k4_101 : am_cd am_x 4 101 = some (.aload_n 1, 1, 0, 0, .null) := by decide +kernel
theorem k4_102 : am_cd am_x 4 102 = some (.getfield 21, 3, 0, 10, .null) := by decide +kernel
theorem k4_105 : am_cd am_x 4 105 = some (.iconst 0, 1, 0, 0, .null) := by decide +kernel
theorem k4_106 : am_cd am_x 4 106 = some (.aload_n 0, 1, 0, 0, .null) := by decide +kernel
theorem k4_107 : am_cd am_x 4 107 = some (.getfield 21, 3, 0, 10, .null) := by decide +kernel
theorem k4_110 : am_cd am_x 4 110 = some (.iconst 0, 1, 0, 0, .null) := by decide +kernel
theorem k4_111 : am_cd am_x 4 111 = some (.bipush 8, 2, 0, 0, .null) := by decide +kernel
theorem k4_113 : am_cd am_x 4 113 = some (.invokestatic 59, 3, 900, 0, .null) := by decide +kernel
theorem k4_116 : am_cd am_x 4 116 = some (.return_, 1, 0, 0, .null) := by decide +kernel
theorem k5_0 : am_cd am_x 5 0 = some (.bipush 8, 2, 0, 0, .null) := by decide +kernel
theorem k5_2 : am_cd am_x 5 2 = some (.iload_n 0, 1, 0, 0, .null) := by decide +kernel
theorem k5_3 : am_cd am_x 5 3 = some (.imul, 1, 0, 0, .null) := by decide +kernel
theorem k5_4 : am_cd am_x 5 4 = some (.iload_n 1, 1, 0, 0, .null) := by decide +kernel
theorem k5_5 : am_cd am_x 5 5 = some (.iadd, 1, 0, 0, .null) := by decide +kernel
theorem k5_6 : am_cd am_x 5 6 = some (.ireturn, 1, 0, 0, .null) := by decide +kernel
theorem k6_0 : am_cd am_x 6 0 = some (.iload_n 1, 1, 0, 0, .null) := by decide +kernel
theorem k6_1 : am_cd am_x 6 1 = some (.iload_n 0, 1, 0, 0, .null) := by decide +kernel
theorem k6_2 : am_cd am_x 6 2 = some (.ishr, 1, 0, 0, .null) := by decide +kernel
theorem k6_3 : am_cd am_x 6 3 = some (.iconst 1, 1, 0, 0, .null) := by decide +kernel
theorem k6_4 : am_cd am_x 6 4 = some (.iand, 1, 0, 0, .null) := by decide +kernel
theorem k6_5 : am_cd am_x 6 5 = some (.iconst 1, 1, 0, 0, .null) := by decide +kernel
theorem k6_6 : am_cd am_x 6 6 = some (.if_icmp .ne 7, 3, 13, 0, .null) := by decide +kernel
theorem k6_9 : am_cd am_x 6 9 = some (.iconst 1, 1, 0, 0, .null) := by decide +kernel
theorem k6_10 : am_cd am_x 6 10 = some (.goto 4, 3, 14, 0, .null) := by decide +kernel
theorem k6_13 : am_cd am_x 6 13 = some (.iconst 0, 1, 0, 0, .null) := by decide +kernel
theorem k6_14 : am_cd am_x 6 14 = some (.ireturn, 1, 0, 0, .null) := by decide +kernel
theorem k7_0 : am_cd am_x 7 0 = some (.iload_n 1, 1, 0, 0, .null) := by decide +kernel
theorem k7_1 : am_cd am_x 7 1 = some (.ifCond .lt 15, 3, 16, 0, .null) := by decide +kernel
theorem k7_4 : am_cd am_x 7 4 = some (.iload_n 1, 1, 0, 0, .null) := by decide +kernel
theorem k7_5 : am_cd am_x 7 5 = some (.aload_n 0, 1, 0, 0, .null) := by decide +kernel
theorem k7_6 : am_cd am_x 7 6 = some (.getfield 27, 3, 0, 0, .null) := by decide +kernel
theorem k7_9 : am_cd am_x 7 9 = some (.if_icmp .ge 7, 3, 16, 0, .null) := by decide +kernel
theorem k7_12 : am_cd am_x 7 12 = some (.iconst 1, 1, 0, 0, .null) := by decide +kernel
theorem k7_13 : am_cd am_x 7 13 = some (.goto 4, 3, 17, 0, .null) := by decide +kernel
theorem k7_16 : am_cd am_x 7 16 = some (.iconst 0, 1, 0, 0, .null) := by decide +kernel
theorem k7_17 : am_cd am_x 7 17 = some (.ireturn, 1, 0, 0, .null) := by decide +kernel
theorem k8_0 : am_cd am_x 8 0 = some (.aload_n 0, 1, 0, 0, .null) := by decide +kernel
theorem k8_1 : am_cd am_x 8 1 = some (.iload_n 1, 1, 0, 0, .null) := by decide +kernel
theorem k8_2 : am_cd am_x 8 2 = some (.invokevirtual 65, 3, 7, 0, .null) := by decide +kernel
theorem k8_5 : am_cd am_x 8 5 = some (.ifCond .eq 19, 3, 24, 0, .null) := by decide +kernel
theorem k8_8 : am_cd am_x 8 8 = some (.iload_n 2, 1, 0, 0, .null) := by decide +kernel
theorem k8_9 : am_cd am_x 8 9 = some (.ifCond .lt 15, 3, 24, 0, .null) := by decide +kernel
theorem k8_12 : am_cd am_x 8 12 = some (.iload_n 2, 1, 0, 0, .null) := by decide +kernel
theorem k8_13 : am_cd am_x 8 13 = some (.aload_n 0, 1, 0, 0, .null) := by decide +kernel
theorem k8_14 : am_cd am_x 8 14 = some (.getfield 31, 3, 0, 1, .null) := by decide +kernel
theorem k8_17 : am_cd am_x 8 17 = some (.if_icmp .ge 7, 3, 24, 0, .null) := by decide +kernel
theorem k8_20 : am_cd am_x 8 20 = some (.iconst 1, 1, 0, 0, .null) := by decide +kernel
theorem k8_21 : am_cd am_x 8 21 = some (.goto 4, 3, 25, 0, .null) := by decide +kernel
theorem k8_24 : am_cd am_x 8 24 = some (.iconst 0, 1, 0, 0, .null) := by decide +kernel
theorem k8_25 : am_cd am_x 8 25 = some (.ireturn, 1, 0, 0, .null) := by decide +kernel
theorem k9_0 : am_cd am_x 9 0 = some (.aload_n 0, 1, 0, 0, .null) := by decide +kernel
theorem k9_1 : am_cd am_x 9 1 = some (.iload_n 1, 1, 0, 0, .null) := by decide +kernel
theorem k9_2 : am_cd am_x 9 2 = some (.iload_n 2, 1, 0, 0, .null) := by decide +kernel
theorem k9_3 : am_cd am_x 9 3 = some (.invokevirtual 69, 3, 8, 0, .null) := by decide +kernel
theorem k9_6 : am_cd am_x 9 6 = some (.ifCond .eq 16, 3, 22, 0, .null) := by decide +kernel
theorem k9_9 : am_cd am_x 9 9 = some (.iload_n 3, 1, 0, 0, .null) := by decide +kernel
theorem k9_10 : am_cd am_x 9 10 = some (.ifCond .lt 12, 3, 22, 0, .null) := by decide +kernel
theorem k9_13 : am_cd am_x 9 13 = some (.iload_n 3, 1, 0, 0, .null) := by decide +kernel
theorem k9_14 : am_cd am_x 9 14 = some (.iconst 2, 1, 0, 0, .null) := by decide +kernel
theorem k9_15 : am_cd am_x 9 15 = some (.if_icmp .gt 7, 3, 22, 0, .null) := by decide +kernel
theorem k9_18 : am_cd am_x 9 18 = some (.iconst 1, 1, 0, 0, .null) := by decide +kernel
theorem k9_19 : am_cd am_x 9 19 = some (.goto 4, 3, 23, 0, .null) := by decide +kernel
theorem k9_22 : am_cd am_x 9 22 = some (.iconst 0, 1, 0, 0, .null) := by decide +kernel
theorem k9_23 : am_cd am_x 9 23 = some (.ireturn, 1, 0, 0, .null) := by decide +kernel
theorem k10_0 : am_cd am_x 10 0 = some (.iconst 1, 1, 0, 0, .null) := by decide +kernel
theorem k10_1 : am_cd am_x 10 1 = some (.aload_n 0, 1, 0, 0, .null) := by decide +kernel
theorem k10_2 : am_cd am_x 10 2 = some (.getfield 27, 3, 0, 0, .null) := by decide +kernel
theorem k10_5 : am_cd am_x 10 5 = some (.ishl, 1, 0, 0, .null) := by decide +kernel
theorem k10_6 : am_cd am_x 10 6 = some (.iconst 1, 1, 0, 0, .null) := by decide +kernel
theorem k10_7 : am_cd am_x 10 7 = some (.isub, 1, 0, 0, .null) := by decide +kernel
theorem k10_8 : am_cd am_x 10 8 = some (.ireturn, 1, 0, 0, .null) := by decide +kernel
theorem k11_0 : am_cd am_x 11 0 = some (.iconst 1, 1, 0, 0, .null) := by decide +kernel
theorem k11_1 : am_cd am_x 11 1 = some (.aload_n 0, 1, 0, 0, .null) := by decide +kernel
theorem k11_2 : am_cd am_x 11 2 = some (.getfield 34, 3, 0, 2, .null) := by decide +kernel
theorem k11_5 : am_cd am_x 11 5 = some (.ishl, 1, 0, 0, .null) := by decide +kernel
theorem k11_6 : am_cd am_x 11 6 = some (.iconst 1, 1, 0, 0, .null) := by decide +kernel
theorem k11_7 : am_cd am_x 11 7 = some (.isub, 1, 0, 0, .null) := by decide +kernel
theorem k11_8 : am_cd am_x 11 8 = some (.ireturn, 1, 0, 0, .null) := by decide +kernel
theorem k12_0 : am_cd am_x 12 0 = some (.aload_n 0, 1, 0, 0, .null) := by decide +kernel
theorem k12_1 : am_cd am_x 12 1 = some (.invokevirtual 73, 3, 10, 0, .null) := by decide +kernel
theorem k12_4 : am_cd am_x 12 4 = some (.aload_n 0, 1, 0, 0, .null) := by decide +kernel
theorem k12_5 : am_cd am_x 12 5 = some (.getfield 37, 3, 0, 3, .null) := by decide +kernel
theorem k12_8 : am_cd am_x 12 8 = some (.iconst (-1), 1, 0, 0, .null) := by decide +kernel
theorem k12_9 : am_cd am_x 12 9 = some (.ixor, 1, 0, 0, .null) := by decide +kernel
theorem k12_10 : am_cd am_x 12 10 = some (.iand, 1, 0, 0, .null) := by decide +kernel
theorem k12_11 : am_cd am_x 12 11 = some (.ireturn, 1, 0, 0, .null) := by decide +kernel
theorem k13_0 : am_cd am_x 13 0 = some (.iconst 0, 1, 0, 0, .null) := by decide +kernel
theorem k13_1 : am_cd am_x 13 1 = some (.istore_n 2, 1, 0, 0, .null) := by decide +kernel
theorem k13_2 : am_cd am_x 13 2 = some (.iconst 0, 1, 0, 0, .null) := by decide +kernel
theorem k13_3 : am_cd am_x 13 3 = some (.istore_n 3, 1, 0, 0, .null) := by decide +kernel
theorem k13_4 : am_cd am_x 13 4 = some (.iload_n 3, 1, 0, 0, .null) := by decide +kernel
theorem k13_5 : am_cd am_x 13 5 = some (.aload_n 0, 1, 0, 0, .null) := by decide +kernel
theorem k13_6 : am_cd am_x 13 6 = some (.getfield 27, 3, 0, 0, .null) := by decide +kernel
theorem k13_9 : am_cd am_x 13 9 = some (.if_icmp .ge 45, 3, 54, 0, .null) := by decide +kernel
theorem k13_12 : am_cd am_x 13 12 = some (.iconst 0, 1, 0, 0, .null) := by decide +kernel
theorem k13_13 : am_cd am_x 13 13 = some (.istore 4, 2, 0, 0, .null) := by decide +kernel
theorem k13_15 : am_cd am_x 13 15 = some (.iload 4, 2, 0, 0, .null) := by decide +kernel
theorem k13_17 : am_cd am_x 13 17 = some (.aload_n 0, 1, 0, 0, .null) := by decide +kernel
theorem k13_18 : am_cd am_x 13 18 = some (.getfield 31, 3, 0, 1, .null) := by decide +kernel
theorem k13_21 : am_cd am_x 13 21 = some (.if_icmp .ge 27, 3, 48, 0, .null) := by decide +kernel
theorem k13_24 : am_cd am_x 13 24 = some (.aload_n 0, 1, 0, 0, .null) := by decide +kernel
theorem k13_25 : am_cd am_x 13 25 = some (.getfield 9, 3, 0, 7, .null) := by decide +kernel
theorem k13_28 : am_cd am_x 13 28 = some (.iload_n 3, 1, 0, 0, .null) := by decide +kernel
theorem k13_29 : am_cd am_x 13 29 = some (.iload 4, 2, 0, 0, .null) := by decide +kernel
theorem k13_31 : am_cd am_x 13 31 = some (.invokestatic 76, 3, 5, 0, .null) := by decide +kernel
theorem k13_34 : am_cd am_x 13 34 = some (.iaload, 1, 0, 0, .null) := by decide +kernel
theorem k13_35 : am_cd am_x 13 35 = some (.iload_n 1, 1, 0, 0, .null) := by decide +kernel
theorem k13_36 : am_cd am_x 13 36 = some (.if_icmp .ne 6, 3, 42, 0, .null) := by decide +kernel
theorem k13_39 : am_cd am_x 13 39 = some (.iinc 2 1, 3, 0, 0, .null) := by decide +kernel
theorem k13_42 : am_cd am_x 13 42 = some (.iinc 4 1, 3, 0, 0, .null) := by decide +kernel
theorem k13_45 : am_cd am_x 13 45 = some (.goto (-30), 3, 15, 0, .null) := by decide +kernel
theorem k13_48 : am_cd am_x 13 48 = some (.iinc 3 1, 3, 0, 0, .null) := by decide +kernel
theorem k13_51 : am_cd am_x 13 51 = some (.goto (-47), 3, 4, 0, .null) := by decide +kernel
theorem k13_54 : am_cd am_x 13 54 = some (.iload_n 2, 1, 0, 0, .null) := by decide +kernel
theorem k13_55 : am_cd am_x 13 55 = some (.ireturn, 1, 0, 0, .null) := by decide +kernel
theorem k14_0 : am_cd am_x 14 0 = some (.iconst 0, 1, 0, 0, .null) := by decide +kernel
theorem k14_1 : am_cd am_x 14 1 = some (.istore_n 1, 1, 0, 0, .null) := by decide +kernel
theorem k14_2 : am_cd am_x 14 2 = some (.iconst 0, 1, 0, 0, .null) := by decide +kernel
theorem k14_3 : am_cd am_x 14 3 = some (.istore_n 2, 1, 0, 0, .null) := by decide +kernel
theorem k14_4 : am_cd am_x 14 4 = some (.iload_n 2, 1, 0, 0, .null) := by decide +kernel
theorem k14_5 : am_cd am_x 14 5 = some (.aload_n 0, 1, 0, 0, .null) := by decide +kernel
theorem k14_6 : am_cd am_x 14 6 = some (.getfield 27, 3, 0, 0, .null) := by decide +kernel
theorem k14_9 : am_cd am_x 14 9 = some (.if_icmp .ge 42, 3, 51, 0, .null) := by decide +kernel
theorem k14_12 : am_cd am_x 14 12 = some (.iconst 0, 1, 0, 0, .null) := by decide +kernel
theorem k14_13 : am_cd am_x 14 13 = some (.istore_n 3, 1, 0, 0, .null) := by decide +kernel
theorem k14_14 : am_cd am_x 14 14 = some (.iload_n 3, 1, 0, 0, .null) := by decide +kernel
theorem k14_15 : am_cd am_x 14 15 = some (.aload_n 0, 1, 0, 0, .null) := by decide +kernel
theorem k14_16 : am_cd am_x 14 16 = some (.getfield 31, 3, 0, 1, .null) := by decide +kernel
theorem k14_19 : am_cd am_x 14 19 = some (.if_icmp .ge 26, 3, 45, 0, .null) := by decide +kernel
theorem k14_22 : am_cd am_x 14 22 = some (.aload_n 0, 1, 0, 0, .null) := by decide +kernel
theorem k14_23 : am_cd am_x 14 23 = some (.getfield 15, 3, 0, 8, .null) := by decide +kernel
theorem k14_26 : am_cd am_x 14 26 = some (.iload_n 2, 1, 0, 0, .null) := by decide +kernel
theorem k14_27 : am_cd am_x 14 27 = some (.iload_n 3, 1, 0, 0, .null) := by decide +kernel
theorem k14_28 : am_cd am_x 14 28 = some (.invokestatic 76, 3, 5, 0, .null) := by decide +kernel
theorem k14_31 : am_cd am_x 14 31 = some (.iaload, 1, 0, 0, .null) := by decide +kernel
theorem k14_32 : am_cd am_x 14 32 = some (.iconst 2, 1, 0, 0, .null) := by decide +kernel
theorem k14_33 : am_cd am_x 14 33 = some (.if_icmp .eq 6, 3, 39, 0, .null) := by decide +kernel
theorem k14_36 : am_cd am_x 14 36 = some (.iinc 1 1, 3, 0, 0, .null) := by decide +kernel
theorem k14_39 : am_cd am_x 14 39 = some (.iinc 3 1, 3, 0, 0, .null) := by decide +kernel
theorem k14_42 : am_cd am_x 14 42 = some (.goto (-28), 3, 14, 0, .null) := by decide +kernel
theorem k14_45 : am_cd am_x 14 45 = some (.iinc 2 1, 3, 0, 0, .null) := by decide +kernel
theorem k14_48 : am_cd am_x 14 48 = some (.goto (-44), 3, 4, 0, .null) := by decide +kernel
theorem k14_51 : am_cd am_x 14 51 = some (.iload_n 1, 1, 0, 0, .null) := by decide +kernel
theorem k14_52 : am_cd am_x 14 52 = some (.ireturn, 1, 0, 0, .null) := by decide +kernel
theorem k15_0 : am_cd am_x 15 0 = some (.iconst 0, 1, 0, 0, .null) := by decide +kernel
theorem k15_1 : am_cd am_x 15 1 = some (.istore_n 1, 1, 0, 0, .null) := by decide +kernel
theorem k15_2 : am_cd am_x 15 2 = some (.iconst 0, 1, 0, 0, .null) := by decide +kernel
theorem k15_3 : am_cd am_x 15 3 = some (.istore_n 2, 1, 0, 0, .null) := by decide +kernel
theorem k15_4 : am_cd am_x 15 4 = some (.iload_n 2, 1, 0, 0, .null) := by decide +kernel
theorem k15_5 : am_cd am_x 15 5 = some (.aload_n 0, 1, 0, 0, .null) := by decide +kernel
theorem k15_6 : am_cd am_x 15 6 = some (.getfield 27, 3, 0, 0, .null) := by decide +kernel
theorem k15_9 : am_cd am_x 15 9 = some (.if_icmp .ge 21, 3, 30, 0, .null) := by decide +kernel
theorem k15_12 : am_cd am_x 15 12 = some (.iload_n 1, 1, 0, 0, .null) := by decide +kernel
theorem k15_13 : am_cd am_x 15 13 = some (.aload_n 0, 1, 0, 0, .null) := by decide +kernel
theorem k15_14 : am_cd am_x 15 14 = some (.getfield 18, 3, 0, 9, .null) := by decide +kernel
theorem k15_17 : am_cd am_x 15 17 = some (.iload_n 2, 1, 0, 0, .null) := by decide +kernel
theorem k15_18 : am_cd am_x 15 18 = some (.iaload, 1, 0, 0, .null) := by decide +kernel
theorem k15_19 : am_cd am_x 15 19 = some (.invokestatic 80, 3, 212, 0, .null) := by decide +kernel
theorem k15_22 : am_cd am_x 15 22 = some (.iadd, 1, 0, 0, .null) := by decide +kernel
theorem k15_23 : am_cd am_x 15 23 = some (.istore_n 1, 1, 0, 0, .null) := by decide +kernel
theorem k15_24 : am_cd am_x 15 24 = some (.iinc 2 1, 3, 0, 0, .null) := by decide +kernel
theorem k15_27 : am_cd am_x 15 27 = some (.goto (-23), 3, 4, 0, .null) := by decide +kernel
theorem k15_30 : am_cd am_x 15 30 = some (.iload_n 1, 1, 0, 0, .null) := by decide +kernel
theorem k15_31 : am_cd am_x 15 31 = some (.ireturn, 1, 0, 0, .null) := by decide +kernel
theorem k16_0 : am_cd am_x 16 0 = some (.iconst 0, 1, 0, 0, .null) := by decide +kernel
theorem k16_1 : am_cd am_x 16 1 = some (.istore_n 3, 1, 0, 0, .null) := by decide +kernel
theorem k16_2 : am_cd am_x 16 2 = some (.iconst 0, 1, 0, 0, .null) := by decide +kernel
theorem k16_3 : am_cd am_x 16 3 = some (.istore 4, 2, 0, 0, .null) := by decide +kernel
theorem k16_5 : am_cd am_x 16 5 = some (.iload 4, 2, 0, 0, .null) := by decide +kernel
theorem k16_7 : am_cd am_x 16 7 = some (.aload_n 0, 1, 0, 0, .null) := by decide +kernel
theorem k16_8 : am_cd am_x 16 8 = some (.getfield 27, 3, 0, 0, .null) := by decide +kernel
theorem k16_11 : am_cd am_x 16 11 = some (.if_icmp .ge 61, 3, 72, 0, .null) := by decide +kernel
theorem k16_14 : am_cd am_x 16 14 = some (.iload 4, 2, 0, 0, .null) := by decide +kernel
theorem k16_16 : am_cd am_x 16 16 = some (.aload_n 0, 1, 0, 0, .null) := by decide +kernel
theorem k16_17 : am_cd am_x 16 17 = some (.getfield 37, 3, 0, 3, .null) := by decide +kernel
theorem k16_20 : am_cd am_x 16 20 = some (.invokestatic 86, 3, 6, 0, .null) := by decide +kernel
theorem k16_23 : am_cd am_x 16 23 = some (.ifCond .ne 43, 3, 66, 0, .null) := by decide +kernel
theorem k16_26 : am_cd am_x 16 26 = some (.iload_n 2, 1, 0, 0, .null) := by decide +kernel
theorem k16_27 : am_cd am_x 16 27 = some (.aload_n 0, 1, 0, 0, .null) := by decide +kernel
theorem k16_28 : am_cd am_x 16 28 = some (.getfield 18, 3, 0, 9, .null) := by decide +kernel
theorem k16_31 : am_cd am_x 16 31 = some (.iload 4, 2, 0, 0, .null) := by decide +kernel
theorem k16_33 : am_cd am_x 16 33 = some (.iaload, 1, 0, 0, .null) := by decide +kernel
theorem k16_34 : am_cd am_x 16 34 = some (.invokestatic 86, 3, 6, 0, .null) := by decide +kernel
theorem k16_37 : am_cd am_x 16 37 = some (.ifCond .eq 29, 3, 66, 0, .null) := by decide +kernel
theorem k16_40 : am_cd am_x 16 40 = some (.aload_n 0, 1, 0, 0, .null) := by decide +kernel
theorem k16_41 : am_cd am_x 16 41 = some (.getfield 9, 3, 0, 7, .null) := by decide +kernel
theorem k16_44 : am_cd am_x 16 44 = some (.iload 4, 2, 0, 0, .null) := by decide +kernel
theorem k16_46 : am_cd am_x 16 46 = some (.iload_n 1, 1, 0, 0, .null) := by decide +kernel
theorem k16_47 : am_cd am_x 16 47 = some (.invokestatic 76, 3, 5, 0, .null) := by decide +kernel
theorem k16_50 : am_cd am_x 16 50 = some (.iaload, 1, 0, 0, .null) := by decide +kernel
theorem k16_51 : am_cd am_x 16 51 = some (.istore 5, 2, 0, 0, .null) := by decide +kernel
theorem k16_53 : am_cd am_x 16 53 = some (.iload 5, 2, 0, 0, .null) := by decide +kernel
theorem k16_55 : am_cd am_x 16 55 = some (.iconst 2, 1, 0, 0, .null) := by decide +kernel
theorem k16_56 : am_cd am_x 16 56 = some (.if_icmp .ne 5, 3, 61, 0, .null) := by decide +kernel
theorem k16_59 : am_cd am_x 16 59 = some (.iconst 2, 1, 0, 0, .null) := by decide +kernel
theorem k16_60 : am_cd am_x 16 60 = some (.ireturn, 1, 0, 0, .null) := by decide +kernel
theorem k16_61 : am_cd am_x 16 61 = some (.iload_n 3, 1, 0, 0, .null) := by decide +kernel
theorem k16_62 : am_cd am_x 16 62 = some (.iload 5, 2, 0, 0, .null) := by decide +kernel
theorem k16_64 : am_cd am_x 16 64 = some (.ixor, 1, 0, 0, .null) := by decide +kernel
theorem k16_65 : am_cd am_x 16 65 = some (.istore_n 3, 1, 0, 0, .null) := by decide +kernel
theorem k16_66 : am_cd am_x 16 66 = some (.iinc 4 1, 3, 0, 0, .null) := by decide +kernel
theorem k16_69 : am_cd am_x 16 69 = some (.goto (-64), 3, 5, 0, .null) := by decide +kernel
theorem k16_72 : am_cd am_x 16 72 = some (.iload_n 3, 1, 0, 0, .null) := by decide +kernel
theorem k16_73 : am_cd am_x 16 73 = some (.ireturn, 1, 0, 0, .null) := by decide +kernel
theorem k17_0 : am_cd am_x 17 0 = some (.iconst 0, 1, 0, 0, .null) := by decide +kernel
theorem k17_1 : am_cd am_x 17 1 = some (.istore_n 3, 1, 0, 0, .null) := by decide +kernel
theorem k17_2 : am_cd am_x 17 2 = some (.iconst 0, 1, 0, 0, .null) := by decide +kernel
theorem k17_3 : am_cd am_x 17 3 = some (.istore 4, 2, 0, 0, .null) := by decide +kernel
theorem k17_5 : am_cd am_x 17 5 = some (.iload 4, 2, 0, 0, .null) := by decide +kernel
theorem k17_7 : am_cd am_x 17 7 = some (.aload_n 0, 1, 0, 0, .null) := by decide +kernel
theorem k17_8 : am_cd am_x 17 8 = some (.getfield 27, 3, 0, 0, .null) := by decide +kernel
theorem k17_11 : am_cd am_x 17 11 = some (.if_icmp .ge 43, 3, 54, 0, .null) := by decide +kernel
theorem k17_14 : am_cd am_x 17 14 = some (.iload 4, 2, 0, 0, .null) := by decide +kernel
theorem k17_16 : am_cd am_x 17 16 = some (.iload_n 2, 1, 0, 0, .null) := by decide +kernel
theorem k17_17 : am_cd am_x 17 17 = some (.invokestatic 86, 3, 6, 0, .null) := by decide +kernel
theorem k17_20 : am_cd am_x 17 20 = some (.ifCond .ne 28, 3, 48, 0, .null) := by decide +kernel
theorem k17_23 : am_cd am_x 17 23 = some (.aload_n 0, 1, 0, 0, .null) := by decide +kernel
theorem k17_24 : am_cd am_x 17 24 = some (.getfield 9, 3, 0, 7, .null) := by decide +kernel
theorem k17_27 : am_cd am_x 17 27 = some (.iload 4, 2, 0, 0, .null) := by decide +kernel
theorem k17_29 : am_cd am_x 17 29 = some (.iload_n 1, 1, 0, 0, .null) := by decide +kernel
theorem k17_30 : am_cd am_x 17 30 = some (.invokestatic 76, 3, 5, 0, .null) := by decide +kernel
theorem k17_33 : am_cd am_x 17 33 = some (.iaload, 1, 0, 0, .null) := by decide +kernel
theorem k17_34 : am_cd am_x 17 34 = some (.iconst 2, 1, 0, 0, .null) := by decide +kernel
theorem k17_35 : am_cd am_x 17 35 = some (.if_icmp .ne 13, 3, 48, 0, .null) := by decide +kernel
theorem k17_38 : am_cd am_x 17 38 = some (.iload_n 3, 1, 0, 0, .null) := by decide +kernel
theorem k17_39 : am_cd am_x 17 39 = some (.aload_n 0, 1, 0, 0, .null) := by decide +kernel
theorem k17_40 : am_cd am_x 17 40 = some (.getfield 18, 3, 0, 9, .null) := by decide +kernel
theorem k17_43 : am_cd am_x 17 43 = some (.iload 4, 2, 0, 0, .null) := by decide +kernel
theorem k17_45 : am_cd am_x 17 45 = some (.iaload, 1, 0, 0, .null) := by decide +kernel
theorem k17_46 : am_cd am_x 17 46 = some (.ior, 1, 0, 0, .null) := by decide +kernel
theorem k17_47 : am_cd am_x 17 47 = some (.istore_n 3, 1, 0, 0, .null) := by decide +kernel
theorem k17_48 : am_cd am_x 17 48 = some (.iinc 4 1, 3, 0, 0, .null) := by decide +kernel
theorem k17_51 : am_cd am_x 17 51 = some (.goto (-46), 3, 5, 0, .null) := by decide +kernel
theorem k17_54 : am_cd am_x 17 54 = some (.iload_n 3, 1, 0, 0, .null) := by decide +kernel
theorem k17_55 : am_cd am_x 17 55 = some (.ireturn, 1, 0, 0, .null) := by decide +kernel
theorem k18_0 : am_cd am_x 18 0 = some (.aload_n 0, 1, 0, 0, .null) := by decide +kernel
theorem k18_1 : am_cd am_x 18 1 = some (.getfield 9, 3, 0, 7, .null) := by decide +kernel
theorem k18_4 : am_cd am_x 18 4 = some (.iload_n 1, 1, 0, 0, .null) := by decide +kernel
theorem k18_5 : am_cd am_x 18 5 = some (.iload_n 2, 1, 0, 0, .null) := by decide +kernel
theorem k18_6 : am_cd am_x 18 6 = some (.invokestatic 76, 3, 5, 0, .null) := by decide +kernel
theorem k18_9 : am_cd am_x 18 9 = some (.iaload, 1, 0, 0, .null) := by decide +kernel
theorem k18_10 : am_cd am_x 18 10 = some (.iconst 2, 1, 0, 0, .null) := by decide +kernel
theorem k18_11 : am_cd am_x 18 11 = some (.if_icmp .eq 29, 3, 40, 0, .null) := by decide +kernel
theorem k18_14 : am_cd am_x 18 14 = some (.iload_n 1, 1, 0, 0, .null) := by decide +kernel
theorem k18_15 : am_cd am_x 18 15 = some (.iload_n 3, 1, 0, 0, .null) := by decide +kernel
theorem k18_16 : am_cd am_x 18 16 = some (.invokestatic 86, 3, 6, 0, .null) := by decide +kernel
theorem k18_19 : am_cd am_x 18 19 = some (.ifCond .ne 21, 3, 40, 0, .null) := by decide +kernel
theorem k18_22 : am_cd am_x 18 22 = some (.aload_n 0, 1, 0, 0, .null) := by decide +kernel
theorem k18_23 : am_cd am_x 18 23 = some (.getfield 18, 3, 0, 9, .null) := by decide +kernel
theorem k18_26 : am_cd am_x 18 26 = some (.iload_n 1, 1, 0, 0, .null) := by decide +kernel
theorem k18_27 : am_cd am_x 18 27 = some (.iaload, 1, 0, 0, .null) := by decide +kernel
theorem k18_28 : am_cd am_x 18 28 = some (.iload 4, 2, 0, 0, .null) := by decide +kernel
theorem k18_30 : am_cd am_x 18 30 = some (.iconst (-1), 1, 0, 0, .null) := by decide +kernel
theorem k18_31 : am_cd am_x 18 31 = some (.ixor, 1, 0, 0, .null) := by decide +kernel
theorem k18_32 : am_cd am_x 18 32 = some (.iand, 1, 0, 0, .null) := by decide +kernel
theorem k18_33 : am_cd am_x 18 33 = some (.ifCond .eq 7, 3, 40, 0, .null) := by decide +kernel
theorem k18_36 : am_cd am_x 18 36 = some (.iconst 1, 1, 0, 0, .null) := by decide +kernel
theorem k18_37 : am_cd am_x 18 37 = some (.goto 4, 3, 41, 0, .null) := by decide +kernel
theorem k18_40 : am_cd am_x 18 40 = some (.iconst 0, 1, 0, 0, .null) := by decide +kernel
theorem k18_41 : am_cd am_x 18 41 = some (.ireturn, 1, 0, 0, .null) := by decide +kernel
theorem k19_0 : am_cd am_x 19 0 = some (.iconst 0, 1, 0, 0, .null) := by decide +kernel
theorem k19_1 : am_cd am_x 19 1 = some (.istore_n 2, 1, 0, 0, .null) := by decide +kernel
theorem k19_2 : am_cd am_x 19 2 = some (.iconst 0, 1, 0, 0, .null) := by decide +kernel
theorem k19_3 : am_cd am_x 19 3 = some (.istore_n 3, 1, 0, 0, .null) := by decide +kernel
theorem k19_4 : am_cd am_x 19 4 = some (.iload_n 3, 1, 0, 0, .null) := by decide +kernel
theorem k19_5 : am_cd am_x 19 5 = some (.aload_n 0, 1, 0, 0, .null) := by decide +kernel
theorem k19_6 : am_cd am_x 19 6 = some (.getfield 31, 3, 0, 1, .null) := by decide +kernel
theorem k19_9 : am_cd am_x 19 9 = some (.if_icmp .ge 51, 3, 60, 0, .null) := by decide +kernel
theorem k19_12 : am_cd am_x 19 12 = some (.aload_n 0, 1, 0, 0, .null) := by decide +kernel
theorem k19_13 : am_cd am_x 19 13 = some (.iload_n 3, 1, 0, 0, .null) := by decide +kernel
theorem k19_14 : am_cd am_x 19 14 = some (.iload_n 1, 1, 0, 0, .null) := by decide +kernel
theorem k19_15 : am_cd am_x 19 15 = some (.invokevirtual 89, 3, 17, 0, .null) := by decide +kernel
theorem k19_18 : am_cd am_x 19 18 = some (.istore 4, 2, 0, 0, .null) := by decide +kernel
theorem k19_20 : am_cd am_x 19 20 = some (.iconst 0, 1, 0, 0, .null) := by decide +kernel
theorem k19_21 : am_cd am_x 19 21 = some (.istore 5, 2, 0, 0, .null) := by decide +kernel
theorem k19_23 : am_cd am_x 19 23 = some (.iload 5, 2, 0, 0, .null) := by decide +kernel
theorem k19_25 : am_cd am_x 19 25 = some (.aload_n 0, 1, 0, 0, .null) := by decide +kernel
theorem k19_26 : am_cd am_x 19 26 = some (.getfield 27, 3, 0, 0, .null) := by decide +kernel
theorem k19_29 : am_cd am_x 19 29 = some (.if_icmp .ge 25, 3, 54, 0, .null) := by decide +kernel
theorem k19_32 : am_cd am_x 19 32 = some (.aload_n 0, 1, 0, 0, .null) := by decide +kernel
theorem k19_33 : am_cd am_x 19 33 = some (.iload 5, 2, 0, 0, .null) := by decide +kernel
theorem k19_35 : am_cd am_x 19 35 = some (.iload_n 3, 1, 0, 0, .null) := by decide +kernel
theorem k19_36 : am_cd am_x 19 36 = some (.iload_n 1, 1, 0, 0, .null) := by decide +kernel
theorem k19_37 : am_cd am_x 19 37 = some (.iload 4, 2, 0, 0, .null) := by decide +kernel
theorem k19_39 : am_cd am_x 19 39 = some (.invokevirtual 92, 3, 18, 0, .null) := by decide +kernel
theorem k19_42 : am_cd am_x 19 42 = some (.ifCond .eq 6, 3, 48, 0, .null) := by decide +kernel
theorem k19_45 : am_cd am_x 19 45 = some (.iinc 2 1, 3, 0, 0, .null) := by decide +kernel
theorem k19_48 : am_cd am_x 19 48 = some (.iinc 5 1, 3, 0, 0, .null) := by decide +kernel
theorem k19_51 : am_cd am_x 19 51 = some (.goto (-28), 3, 23, 0, .null) := by decide +kernel
theorem k19_54 : am_cd am_x 19 54 = some (.iinc 3 1, 3, 0, 0, .null) := by decide +kernel
theorem k19_57 : am_cd am_x 19 57 = some (.goto (-53), 3, 4, 0, .null) := by decide +kernel
theorem k19_60 : am_cd am_x 19 60 = some (.iload_n 2, 1, 0, 0, .null) := by decide +kernel
theorem k19_61 : am_cd am_x 19 61 = some (.ireturn, 1, 0, 0, .null) := by decide +kernel
theorem k20_0 : am_cd am_x 20 0 = some (.iload_n 2, 1, 0, 0, .null) := by decide +kernel
theorem k20_1 : am_cd am_x 20 1 = some (.lookupswitch 62 #[(0, 27), (1, 42)], 27, 0, 0, .null) := by decide +kernel
theorem k20_28 : am_cd am_x 20 28 = some (.aload_n 0, 1, 0, 0, .null) := by decide +kernel
theorem k20_29 : am_cd am_x 20 29 = some (.getfield 18, 3, 0, 9, .null) := by decide +kernel
theorem k20_32 : am_cd am_x 20 32 = some (.iload_n 1, 1, 0, 0, .null) := by decide +kernel
theorem k20_33 : am_cd am_x 20 33 = some (.iaload, 1, 0, 0, .null) := by decide +kernel
theorem k20_34 : am_cd am_x 20 34 = some (.ifCond .ne 7, 3, 41, 0, .null) := by decide +kernel
theorem k20_37 : am_cd am_x 20 37 = some (.iconst 1, 1, 0, 0, .null) := by decide +kernel
theorem k20_38 : am_cd am_x 20 38 = some (.goto 4, 3, 42, 0, .null) := by decide +kernel
theorem k20_41 : am_cd am_x 20 41 = some (.iconst 0, 1, 0, 0, .null) := by decide +kernel
theorem k20_42 : am_cd am_x 20 42 = some (.ireturn, 1, 0, 0, .null) := by decide +kernel
theorem k20_43 : am_cd am_x 20 43 = some (.aload_n 0, 1, 0, 0, .null) := by decide +kernel
theorem k20_44 : am_cd am_x 20 44 = some (.getfield 18, 3, 0, 9, .null) := by decide +kernel
theorem k20_47 : am_cd am_x 20 47 = some (.iload_n 1, 1, 0, 0, .null) := by decide +kernel
theorem k20_48 : am_cd am_x 20 48 = some (.iaload, 1, 0, 0, .null) := by decide +kernel
theorem k20_49 : am_cd am_x 20 49 = some (.invokestatic 80, 3, 212, 0, .null) := by decide +kernel
theorem k20_52 : am_cd am_x 20 52 = some (.iconst 2, 1, 0, 0, .null) := by decide +kernel
theorem k20_53 : am_cd am_x 20 53 = some (.irem, 1, 0, 0, .null) := by decide +kernel
theorem k20_54 : am_cd am_x 20 54 = some (.ifCond .ne 7, 3, 61, 0, .null) := by decide +kernel
theorem k20_57 : am_cd am_x 20 57 = some (.iconst 1, 1, 0, 0, .null) := by decide +kernel
theorem k20_58 : am_cd am_x 20 58 = some (.goto 4, 3, 62, 0, .null) := by decide +kernel
theorem k20_61 : am_cd am_x 20 61 = some (.iconst 0, 1, 0, 0, .null) := by decide +kernel
theorem k20_62 : am_cd am_x 20 62 = some (.ireturn, 1, 0, 0, .null) := by decide +kernel
theorem k20_63 : am_cd am_x 20 63 = some (.aload_n 0, 1, 0, 0, .null) := by decide +kernel
theorem k20_64 : am_cd am_x 20 64 = some (.iload_n 1, 1, 0, 0, .null) := by decide +kernel
theorem k20_65 : am_cd am_x 20 65 = some (.invokevirtual 96, 3, 21, 0, .null) := by decide +kernel
theorem k20_68 : am_cd am_x 20 68 = some (.ireturn, 1, 0, 0, .null) := by decide +kernel
theorem k21_0 : am_cd am_x 21 0 = some (.iconst 0, 1, 0, 0, .null) := by decide +kernel
theorem k21_1 : am_cd am_x 21 1 = some (.istore_n 2, 1, 0, 0, .null) := by decide +kernel
theorem k21_2 : am_cd am_x 21 2 = some (.iload_n 2, 1, 0, 0, .null) := by decide +kernel
theorem k21_3 : am_cd am_x 21 3 = some (.iload_n 1, 1, 0, 0, .null) := by decide +kernel
theorem k21_4 : am_cd am_x 21 4 = some (.if_icmp .ge 26, 3, 30, 0, .null) := by decide +kernel
theorem k21_7 : am_cd am_x 21 7 = some (.aload_n 0, 1, 0, 0, .null) := by decide +kernel
theorem k21_8 : am_cd am_x 21 8 = some (.getfield 18, 3, 0, 9, .null) := by decide +kernel
theorem k21_11 : am_cd am_x 21 11 = some (.iload_n 2, 1, 0, 0, .null) := by decide +kernel
theorem k21_12 : am_cd am_x 21 12 = some (.iaload, 1, 0, 0, .null) := by decide +kernel
theorem k21_13 : am_cd am_x 21 13 = some (.aload_n 0, 1, 0, 0, .null) := by decide +kernel
theorem k21_14 : am_cd am_x 21 14 = some (.getfield 18, 3, 0, 9, .null) := by decide +kernel
theorem k21_17 : am_cd am_x 21 17 = some (.iload_n 1, 1, 0, 0, .null) := by decide +kernel
theorem k21_18 : am_cd am_x 21 18 = some (.iaload, 1, 0, 0, .null) := by decide +kernel
theorem k21_19 : am_cd am_x 21 19 = some (.if_icmp .ne 5, 3, 24, 0, .null) := by decide +kernel
theorem k21_22 : am_cd am_x 21 22 = some (.iconst 1, 1, 0, 0, .null) := by decide +kernel
theorem k21_23 : am_cd am_x 21 23 = some (.ireturn, 1, 0, 0, .null) := by decide +kernel
theorem k21_24 : am_cd am_x 21 24 = some (.iinc 2 1, 3, 0, 0, .null) := by decide +kernel
theorem k21_27 : am_cd am_x 21 27 = some (.goto (-25), 3, 2, 0, .null) := by decide +kernel
theorem k21_30 : am_cd am_x 21 30 = some (.iconst 0, 1, 0, 0, .null) := by decide +kernel
theorem k21_31 : am_cd am_x 21 31 = some (.ireturn, 1, 0, 0, .null) := by decide +kernel
theorem k22_0 : am_cd am_x 22 0 = some (.iconst 0, 1, 0, 0, .null) := by decide +kernel
theorem k22_1 : am_cd am_x 22 1 = some (.istore_n 2, 1, 0, 0, .null) := by decide +kernel
theorem k22_2 : am_cd am_x 22 2 = some (.iconst 0, 1, 0, 0, .null) := by decide +kernel
theorem k22_3 : am_cd am_x 22 3 = some (.istore_n 3, 1, 0, 0, .null) := by decide +kernel
theorem k22_4 : am_cd am_x 22 4 = some (.iload_n 3, 1, 0, 0, .null) := by decide +kernel
theorem k22_5 : am_cd am_x 22 5 = some (.aload_n 0, 1, 0, 0, .null) := by decide +kernel
theorem k22_6 : am_cd am_x 22 6 = some (.getfield 27, 3, 0, 0, .null) := by decide +kernel
theorem k22_9 : am_cd am_x 22 9 = some (.if_icmp .ge 26, 3, 35, 0, .null) := by decide +kernel
theorem k22_12 : am_cd am_x 22 12 = some (.iload_n 3, 1, 0, 0, .null) := by decide +kernel
theorem k22_13 : am_cd am_x 22 13 = some (.iload_n 1, 1, 0, 0, .null) := by decide +kernel
theorem k22_14 : am_cd am_x 22 14 = some (.invokestatic 86, 3, 6, 0, .null) := by decide +kernel
theorem k22_17 : am_cd am_x 22 17 = some (.ifCond .eq 12, 3, 29, 0, .null) := by decide +kernel
theorem k22_20 : am_cd am_x 22 20 = some (.iload_n 2, 1, 0, 0, .null) := by decide +kernel
theorem k22_21 : am_cd am_x 22 21 = some (.aload_n 0, 1, 0, 0, .null) := by decide +kernel
theorem k22_22 : am_cd am_x 22 22 = some (.getfield 18, 3, 0, 9, .null) := by decide +kernel
theorem k22_25 : am_cd am_x 22 25 = some (.iload_n 3, 1, 0, 0, .null) := by decide +kernel
theorem k22_26 : am_cd am_x 22 26 = some (.iaload, 1, 0, 0, .null) := by decide +kernel
theorem k22_27 : am_cd am_x 22 27 = some (.ixor, 1, 0, 0, .null) := by decide +kernel
theorem k22_28 : am_cd am_x 22 28 = some (.istore_n 2, 1, 0, 0, .null) := by decide +kernel
theorem k22_29 : am_cd am_x 22 29 = some (.iinc 3 1, 3, 0, 0, .null) := by decide +kernel
theorem k22_32 : am_cd am_x 22 32 = some (.goto (-28), 3, 4, 0, .null) := by decide +kernel
theorem k22_35 : am_cd am_x 22 35 = some (.iload_n 2, 1, 0, 0, .null) := by decide +kernel
theorem k22_36 : am_cd am_x 22 36 = some (.ireturn, 1, 0, 0, .null) := by decide +kernel
theorem k23_0 : am_cd am_x 23 0 = some (.iconst 0, 1, 0, 0, .null) := by decide +kernel
theorem k23_1 : am_cd am_x 23 1 = some (.istore_n 2, 1, 0, 0, .null) := by decide +kernel
theorem k23_2 : am_cd am_x 23 2 = some (.iconst 0, 1, 0, 0, .null) := by decide +kernel
theorem k23_3 : am_cd am_x 23 3 = some (.istore_n 3, 1, 0, 0, .null) := by decide +kernel
theorem k23_4 : am_cd am_x 23 4 = some (.iload_n 3, 1, 0, 0, .null) := by decide +kernel
theorem k23_5 : am_cd am_x 23 5 = some (.aload_n 0, 1, 0, 0, .null) := by decide +kernel
theorem k23_6 : am_cd am_x 23 6 = some (.getfield 27, 3, 0, 0, .null) := by decide +kernel
theorem k23_9 : am_cd am_x 23 9 = some (.if_icmp .ge 26, 3, 35, 0, .null) := by decide +kernel
theorem k23_12 : am_cd am_x 23 12 = some (.iload_n 3, 1, 0, 0, .null) := by decide +kernel
theorem k23_13 : am_cd am_x 23 13 = some (.iload_n 1, 1, 0, 0, .null) := by decide +kernel
theorem k23_14 : am_cd am_x 23 14 = some (.invokestatic 86, 3, 6, 0, .null) := by decide +kernel
theorem k23_17 : am_cd am_x 23 17 = some (.ifCond .eq 12, 3, 29, 0, .null) := by decide +kernel
theorem k23_20 : am_cd am_x 23 20 = some (.iload_n 2, 1, 0, 0, .null) := by decide +kernel
theorem k23_21 : am_cd am_x 23 21 = some (.aload_n 0, 1, 0, 0, .null) := by decide +kernel
theorem k23_22 : am_cd am_x 23 22 = some (.getfield 18, 3, 0, 9, .null) := by decide +kernel
theorem k23_25 : am_cd am_x 23 25 = some (.iload_n 3, 1, 0, 0, .null) := by decide +kernel
theorem k23_26 : am_cd am_x 23 26 = some (.iaload, 1, 0, 0, .null) := by decide +kernel
theorem k23_27 : am_cd am_x 23 27 = some (.ior, 1, 0, 0, .null) := by decide +kernel
theorem k23_28 : am_cd am_x 23 28 = some (.istore_n 2, 1, 0, 0, .null) := by decide +kernel
theorem k23_29 : am_cd am_x 23 29 = some (.iinc 3 1, 3, 0, 0, .null) := by decide +kernel
theorem k23_32 : am_cd am_x 23 32 = some (.goto (-28), 3, 4, 0, .null) := by decide +kernel
theorem k23_35 : am_cd am_x 23 35 = some (.iload_n 2, 1, 0, 0, .null) := by decide +kernel
theorem k23_36 : am_cd am_x 23 36 = some (.ireturn, 1, 0, 0, .null) := by decide +kernel
theorem k24_0 : am_cd am_x 24 0 = some (.iload_n 0, 1, 0, 0, .null) := by decide +kernel
theorem k24_1 : am_cd am_x 24 1 = some (.iload_n 2, 1, 0, 0, .null) := by decide +kernel
theorem k24_2 : am_cd am_x 24 2 = some (.iconst (-1), 1, 0, 0, .null) := by decide +kernel
theorem k24_3 : am_cd am_x 24 3 = some (.ixor, 1, 0, 0, .null) := by decide +kernel
theorem k24_4 : am_cd am_x 24 4 = some (.iand, 1, 0, 0, .null) := by decide +kernel
theorem k24_5 : am_cd am_x 24 5 = some (.ifCond .ne 15, 3, 20, 0, .null) := by decide +kernel
theorem k24_8 : am_cd am_x 24 8 = some (.iload_n 0, 1, 0, 0, .null) := by decide +kernel
theorem k24_9 : am_cd am_x 24 9 = some (.invokestatic 80, 3, 212, 0, .null) := by decide +kernel
theorem k24_12 : am_cd am_x 24 12 = some (.iload_n 1, 1, 0, 0, .null) := by decide +kernel
theorem k24_13 : am_cd am_x 24 13 = some (.if_icmp .ne 7, 3, 20, 0, .null) := by decide +kernel
theorem k24_16 : am_cd am_x 24 16 = some (.iconst 1, 1, 0, 0, .null) := by decide +kernel
theorem k24_17 : am_cd am_x 24 17 = some (.goto 4, 3, 21, 0, .null) := by decide +kernel
theorem k24_20 : am_cd am_x 24 20 = some (.iconst 0, 1, 0, 0, .null) := by decide +kernel
theorem k24_21 : am_cd am_x 24 21 = some (.ireturn, 1, 0, 0, .null) := by decide +kernel
theorem k25_0 : am_cd am_x 25 0 = some (.aload_n 0, 1, 0, 0, .null) := by decide +kernel
theorem k25_1 : am_cd am_x 25 1 = some (.invokevirtual 99, 3, 12, 0, .null) := by decide +kernel
theorem k25_4 : am_cd am_x 25 4 = some (.istore 4, 2, 0, 0, .null) := by decide +kernel
theorem k25_6 : am_cd am_x 25 6 = some (.iconst 0, 1, 0, 0, .null) := by decide +kernel
theorem k25_7 : am_cd am_x 25 7 = some (.istore 5, 2, 0, 0, .null) := by decide +kernel
theorem k25_9 : am_cd am_x 25 9 = some (.iconst 1, 1, 0, 0, .null) := by decide +kernel
theorem k25_10 : am_cd am_x 25 10 = some (.istore 6, 2, 0, 0, .null) := by decide +kernel
theorem k25_12 : am_cd am_x 25 12 = some (.iload 6, 2, 0, 0, .null) := by decide +kernel
theorem k25_14 : am_cd am_x 25 14 = some (.iload 4, 2, 0, 0, .null) := by decide +kernel
theorem k25_16 : am_cd am_x 25 16 = some (.if_icmp .gt 40, 3, 56, 0, .null) := by decide +kernel
theorem k25_19 : am_cd am_x 25 19 = some (.iload 6, 2, 0, 0, .null) := by decide +kernel
theorem k25_21 : am_cd am_x 25 21 = some (.iload_n 1, 1, 0, 0, .null) := by decide +kernel
theorem k25_22 : am_cd am_x 25 22 = some (.iload 4, 2, 0, 0, .null) := by decide +kernel
theorem k25_24 : am_cd am_x 25 24 = some (.invokestatic 102, 3, 24, 0, .null) := by decide +kernel
theorem k25_27 : am_cd am_x 25 27 = some (.ifCond .eq 23, 3, 50, 0, .null) := by decide +kernel
theorem k25_30 : am_cd am_x 25 30 = some (.iload 5, 2, 0, 0, .null) := by decide +kernel
theorem k25_32 : am_cd am_x 25 32 = some (.aload_n 0, 1, 0, 0, .null) := by decide +kernel
theorem k25_33 : am_cd am_x 25 33 = some (.iload 6, 2, 0, 0, .null) := by decide +kernel
theorem k25_35 : am_cd am_x 25 35 = some (.iload_n 2, 1, 0, 0, .null) := by decide +kernel
theorem k25_36 : am_cd am_x 25 36 = some (.iload 4, 2, 0, 0, .null) := by decide +kernel
theorem k25_38 : am_cd am_x 25 38 = some (.iload 6, 2, 0, 0, .null) := by decide +kernel
theorem k25_40 : am_cd am_x 25 40 = some (.iconst (-1), 1, 0, 0, .null) := by decide +kernel
theorem k25_41 : am_cd am_x 25 41 = some (.ixor, 1, 0, 0, .null) := by decide +kernel
theorem k25_42 : am_cd am_x 25 42 = some (.iand, 1, 0, 0, .null) := by decide +kernel
theorem k25_43 : am_cd am_x 25 43 = some (.iload_n 3, 1, 0, 0, .null) := by decide +kernel
theorem k25_44 : am_cd am_x 25 44 = some (.invokevirtual 106, 3, 26, 0, .null) := by decide +kernel
theorem k25_47 : am_cd am_x 25 47 = some (.iadd, 1, 0, 0, .null) := by decide +kernel
theorem k25_48 : am_cd am_x 25 48 = some (.istore 5, 2, 0, 0, .null) := by decide +kernel
theorem k25_50 : am_cd am_x 25 50 = some (.iinc 6 1, 3, 0, 0, .null) := by decide +kernel
theorem k25_53 : am_cd am_x 25 53 = some (.goto (-41), 3, 12, 0, .null) := by decide +kernel
theorem k25_56 : am_cd am_x 25 56 = some (.iload 5, 2, 0, 0, .null) := by decide +kernel
theorem k25_58 : am_cd am_x 25 58 = some (.ireturn, 1, 0, 0, .null) := by decide +kernel
theorem k26_0 : am_cd am_x 26 0 = some (.aload_n 0, 1, 0, 0, .null) := by decide +kernel
theorem k26_1 : am_cd am_x 26 1 = some (.iload_n 1, 1, 0, 0, .null) := by decide +kernel
theorem k26_2 : am_cd am_x 26 2 = some (.invokevirtual 110, 3, 22, 0, .null) := by decide +kernel
theorem k26_5 : am_cd am_x 26 5 = some (.istore 5, 2, 0, 0, .null) := by decide +kernel
theorem k26_7 : am_cd am_x 26 7 = some (.iconst 0, 1, 0, 0, .null) := by decide +kernel
theorem k26_8 : am_cd am_x 26 8 = some (.istore 6, 2, 0, 0, .null) := by decide +kernel
theorem k26_10 : am_cd am_x 26 10 = some (.iconst 0, 1, 0, 0, .null) := by decide +kernel
theorem k26_11 : am_cd am_x 26 11 = some (.istore 7, 2, 0, 0, .null) := by decide +kernel
theorem k26_13 : am_cd am_x 26 13 = some (.iload 7, 2, 0, 0, .null) := by decide +kernel
theorem k26_15 : am_cd am_x 26 15 = some (.iload_n 3, 1, 0, 0, .null) := by decide +kernel
theorem k26_16 : am_cd am_x 26 16 = some (.if_icmp .gt 41, 3, 57, 0, .null) := by decide +kernel
theorem k26_19 : am_cd am_x 26 19 = some (.iload 7, 2, 0, 0, .null) := by decide +kernel
theorem k26_21 : am_cd am_x 26 21 = some (.iload_n 2, 1, 0, 0, .null) := by decide +kernel
theorem k26_22 : am_cd am_x 26 22 = some (.iload_n 3, 1, 0, 0, .null) := by decide +kernel
theorem k26_23 : am_cd am_x 26 23 = some (.invokestatic 102, 3, 24, 0, .null) := by decide +kernel
theorem k26_26 : am_cd am_x 26 26 = some (.ifCond .eq 25, 3, 51, 0, .null) := by decide +kernel
theorem k26_29 : am_cd am_x 26 29 = some (.iload 4, 2, 0, 0, .null) := by decide +kernel
theorem k26_31 : am_cd am_x 26 31 = some (.ifCond .eq 17, 3, 48, 0, .null) := by decide +kernel
theorem k26_34 : am_cd am_x 26 34 = some (.iload 5, 2, 0, 0, .null) := by decide +kernel
theorem k26_36 : am_cd am_x 26 36 = some (.aload_n 0, 1, 0, 0, .null) := by decide +kernel
theorem k26_37 : am_cd am_x 26 37 = some (.iload 7, 2, 0, 0, .null) := by decide +kernel
theorem k26_39 : am_cd am_x 26 39 = some (.invokevirtual 113, 3, 23, 0, .null) := by decide +kernel
theorem k26_42 : am_cd am_x 26 42 = some (.iconst (-1), 1, 0, 0, .null) := by decide +kernel
theorem k26_43 : am_cd am_x 26 43 = some (.ixor, 1, 0, 0, .null) := by decide +kernel
theorem k26_44 : am_cd am_x 26 44 = some (.iand, 1, 0, 0, .null) := by decide +kernel
theorem k26_45 : am_cd am_x 26 45 = some (.ifCond .ne 6, 3, 51, 0, .null) := by decide +kernel
theorem k26_48 : am_cd am_x 26 48 = some (.iinc 6 1, 3, 0, 0, .null) := by decide +kernel
theorem k26_51 : am_cd am_x 26 51 = some (.iinc 7 1, 3, 0, 0, .null) := by decide +kernel
theorem k26_54 : am_cd am_x 26 54 = some (.goto (-41), 3, 13, 0, .null) := by decide +kernel
theorem k26_57 : am_cd am_x 26 57 = some (.iload 6, 2, 0, 0, .null) := by decide +kernel
theorem k26_59 : am_cd am_x 26 59 = some (.ireturn, 1, 0, 0, .null) := by decide +kernel
theorem k27_0 : am_cd am_x 27 0 = some (.ldc 116, 2, 0, 0, .int 65536) := by decide +kernel
theorem k27_2 : am_cd am_x 27 2 = some (.iconst 1, 1, 0, 0, .null) := by decide +kernel
theorem k27_3 : am_cd am_x 27 3 = some (.iconst 2, 1, 0, 0, .null) := by decide +kernel
theorem k27_4 : am_cd am_x 27 4 = some (.aload_n 0, 1, 0, 0, .null) := by decide +kernel
theorem k27_5 : am_cd am_x 27 5 = some (.getfield 31, 3, 0, 1, .null) := by decide +kernel
theorem k27_8 : am_cd am_x 27 8 = some (.imul, 1, 0, 0, .null) := by decide +kernel
theorem k27_9 : am_cd am_x 27 9 = some (.ishl, 1, 0, 0, .null) := by decide +kernel
theorem k27_10 : am_cd am_x 27 10 = some (.iconst 1, 1, 0, 0, .null) := by decide +kernel
theorem k27_11 : am_cd am_x 27 11 = some (.isub, 1, 0, 0, .null) := by decide +kernel
theorem k27_12 : am_cd am_x 27 12 = some (.ior, 1, 0, 0, .null) := by decide +kernel
theorem k27_13 : am_cd am_x 27 13 = some (.ireturn, 1, 0, 0, .null) := by decide +kernel
theorem k28_0 : am_cd am_x 28 0 = some (.aload_n 0, 1, 0, 0, .null) := by decide +kernel
theorem k28_1 : am_cd am_x 28 1 = some (.iload_n 1, 1, 0, 0, .null) := by decide +kernel
theorem k28_2 : am_cd am_x 28 2 = some (.iload_n 2, 1, 0, 0, .null) := by decide +kernel
theorem k28_3 : am_cd am_x 28 3 = some (.aload_n 0, 1, 0, 0, .null) := by decide +kernel
theorem k28_4 : am_cd am_x 28 4 = some (.getfield 31, 3, 0, 1, .null) := by decide +kernel
theorem k28_7 : am_cd am_x 28 7 = some (.iconst 0, 1, 0, 0, .null) := by decide +kernel
theorem k28_8 : am_cd am_x 28 8 = some (.invokevirtual 117, 3, 29, 0, .null) := by decide +kernel
theorem k28_11 : am_cd am_x 28 11 = some (.ifCond .eq 8, 3, 19, 0, .null) := by decide +kernel
theorem k28_14 : am_cd am_x 28 14 = some (.ldc 116, 2, 0, 0, .int 65536) := by decide +kernel
theorem k28_16 : am_cd am_x 28 16 = some (.goto 4, 3, 20, 0, .null) := by decide +kernel
theorem k28_19 : am_cd am_x 28 19 = some (.iconst 0, 1, 0, 0, .null) := by decide +kernel
theorem k28_20 : am_cd am_x 28 20 = some (.istore_n 3, 1, 0, 0, .null) := by decide +kernel
theorem k28_21 : am_cd am_x 28 21 = some (.iconst 0, 1, 0, 0, .null) := by decide +kernel
theorem k28_22 : am_cd am_x 28 22 = some (.istore 4, 2, 0, 0, .null) := by decide +kernel
theorem k28_24 : am_cd am_x 28 24 = some (.iload 4, 2, 0, 0, .null) := by decide +kernel
theorem k28_26 : am_cd am_x 28 26 = some (.aload_n 0, 1, 0, 0, .null) := by decide +kernel
theorem k28_27 : am_cd am_x 28 27 = some (.getfield 31, 3, 0, 1, .null) := by decide +kernel
theorem k28_30 : am_cd am_x 28 30 = some (.if_icmp .ge 49, 3, 79, 0, .null) := by decide +kernel
theorem k28_33 : am_cd am_x 28 33 = some (.iconst 0, 1, 0, 0, .null) := by decide +kernel
theorem k28_34 : am_cd am_x 28 34 = some (.istore 5, 2, 0, 0, .null) := by decide +kernel
theorem k28_36 : am_cd am_x 28 36 = some (.iload 5, 2, 0, 0, .null) := by decide +kernel
theorem k28_38 : am_cd am_x 28 38 = some (.iconst 1, 1, 0, 0, .null) := by decide +kernel
theorem k28_39 : am_cd am_x 28 39 = some (.if_icmp .gt 34, 3, 73, 0, .null) := by decide +kernel
theorem k28_42 : am_cd am_x 28 42 = some (.aload_n 0, 1, 0, 0, .null) := by decide +kernel
theorem k28_43 : am_cd am_x 28 43 = some (.iload_n 1, 1, 0, 0, .null) := by decide +kernel
theorem k28_44 : am_cd am_x 28 44 = some (.iload_n 2, 1, 0, 0, .null) := by decide +kernel
theorem k28_45 : am_cd am_x 28 45 = some (.iload 4, 2, 0, 0, .null) := by decide +kernel
theorem k28_47 : am_cd am_x 28 47 = some (.iload 5, 2, 0, 0, .null) := by decide +kernel
theorem k28_49 : am_cd am_x 28 49 = some (.invokevirtual 117, 3, 29, 0, .null) := by decide +kernel
theorem k28_52 : am_cd am_x 28 52 = some (.ifCond .eq 15, 3, 67, 0, .null) := by decide +kernel
theorem k28_55 : am_cd am_x 28 55 = some (.iload_n 3, 1, 0, 0, .null) := by decide +kernel
theorem k28_56 : am_cd am_x 28 56 = some (.iconst 1, 1, 0, 0, .null) := by decide +kernel
theorem k28_57 : am_cd am_x 28 57 = some (.iconst 2, 1, 0, 0, .null) := by decide +kernel
theorem k28_58 : am_cd am_x 28 58 = some (.iload 4, 2, 0, 0, .null) := by decide +kernel
theorem k28_60 : am_cd am_x 28 60 = some (.imul, 1, 0, 0, .null) := by decide +kernel
theorem k28_61 : am_cd am_x 28 61 = some (.iload 5, 2, 0, 0, .null) := by decide +kernel
theorem k28_63 : am_cd am_x 28 63 = some (.iadd, 1, 0, 0, .null) := by decide +kernel
theorem k28_64 : am_cd am_x 28 64 = some (.ishl, 1, 0, 0, .null) := by decide +kernel
theorem k28_65 : am_cd am_x 28 65 = some (.ior, 1, 0, 0, .null) := by decide +kernel
theorem k28_66 : am_cd am_x 28 66 = some (.istore_n 3, 1, 0, 0, .null) := by decide +kernel
theorem k28_67 : am_cd am_x 28 67 = some (.iinc 5 1, 3, 0, 0, .null) := by decide +kernel
theorem k28_70 : am_cd am_x 28 70 = some (.goto (-34), 3, 36, 0, .null) := by decide +kernel
theorem k28_73 : am_cd am_x 28 73 = some (.iinc 4 1, 3, 0, 0, .null) := by decide +kernel
theorem k28_76 : am_cd am_x 28 76 = some (.goto (-52), 3, 24, 0, .null) := by decide +kernel
theorem k28_79 : am_cd am_x 28 79 = some (.iload_n 3, 1, 0, 0, .null) := by decide +kernel
theorem k28_80 : am_cd am_x 28 80 = some (.ireturn, 1, 0, 0, .null) := by decide +kernel
theorem k29_0 : am_cd am_x 29 0 = some (.iconst 0, 1, 0, 0, .null) := by decide +kernel
theorem k29_1 : am_cd am_x 29 1 = some (.istore 5, 2, 0, 0, .null) := by decide +kernel
theorem k29_3 : am_cd am_x 29 3 = some (.iload 5, 2, 0, 0, .null) := by decide +kernel
theorem k29_5 : am_cd am_x 29 5 = some (.aload_n 0, 1, 0, 0, .null) := by decide +kernel
theorem k29_6 : am_cd am_x 29 6 = some (.getfield 31, 3, 0, 1, .null) := by decide +kernel
theorem k29_9 : am_cd am_x 29 9 = some (.if_icmp .ge 52, 3, 61, 0, .null) := by decide +kernel
theorem k29_12 : am_cd am_x 29 12 = some (.iload 5, 2, 0, 0, .null) := by decide +kernel
theorem k29_14 : am_cd am_x 29 14 = some (.iload_n 3, 1, 0, 0, .null) := by decide +kernel
theorem k29_15 : am_cd am_x 29 15 = some (.if_icmp .ge 17, 3, 32, 0, .null) := by decide +kernel
theorem k29_18 : am_cd am_x 29 18 = some (.aload_n 0, 1, 0, 0, .null) := by decide +kernel
theorem k29_19 : am_cd am_x 29 19 = some (.getfield 9, 3, 0, 7, .null) := by decide +kernel
theorem k29_22 : am_cd am_x 29 22 = some (.iload_n 1, 1, 0, 0, .null) := by decide +kernel
theorem k29_23 : am_cd am_x 29 23 = some (.iload 5, 2, 0, 0, .null) := by decide +kernel
theorem k29_25 : am_cd am_x 29 25 = some (.invokestatic 76, 3, 5, 0, .null) := by decide +kernel
theorem k29_28 : am_cd am_x 29 28 = some (.iaload, 1, 0, 0, .null) := by decide +kernel
theorem k29_29 : am_cd am_x 29 29 = some (.goto 5, 3, 34, 0, .null) := by decide +kernel
theorem k29_32 : am_cd am_x 29 32 = some (.iload 4, 2, 0, 0, .null) := by decide +kernel
theorem k29_34 : am_cd am_x 29 34 = some (.istore 6, 2, 0, 0, .null) := by decide +kernel
theorem k29_36 : am_cd am_x 29 36 = some (.iload 6, 2, 0, 0, .null) := by decide +kernel
theorem k29_38 : am_cd am_x 29 38 = some (.iconst 2, 1, 0, 0, .null) := by decide +kernel
theorem k29_39 : am_cd am_x 29 39 = some (.if_icmp .eq 16, 3, 55, 0, .null) := by decide +kernel
theorem k29_42 : am_cd am_x 29 42 = some (.iload 6, 2, 0, 0, .null) := by decide +kernel
theorem k29_44 : am_cd am_x 29 44 = some (.iload_n 2, 1, 0, 0, .null) := by decide +kernel
theorem k29_45 : am_cd am_x 29 45 = some (.iload 5, 2, 0, 0, .null) := by decide +kernel
theorem k29_47 : am_cd am_x 29 47 = some (.ishr, 1, 0, 0, .null) := by decide +kernel
theorem k29_48 : am_cd am_x 29 48 = some (.iconst 1, 1, 0, 0, .null) := by decide +kernel
theorem k29_49 : am_cd am_x 29 49 = some (.iand, 1, 0, 0, .null) := by decide +kernel
theorem k29_50 : am_cd am_x 29 50 = some (.if_icmp .eq 5, 3, 55, 0, .null) := by decide +kernel
theorem k29_53 : am_cd am_x 29 53 = some (.iconst 0, 1, 0, 0, .null) := by decide +kernel
theorem k29_54 : am_cd am_x 29 54 = some (.ireturn, 1, 0, 0, .null) := by decide +kernel
theorem k29_55 : am_cd am_x 29 55 = some (.iinc 5 1, 3, 0, 0, .null) := by decide +kernel
theorem k29_58 : am_cd am_x 29 58 = some (.goto (-55), 3, 3, 0, .null) := by decide +kernel
theorem k29_61 : am_cd am_x 29 61 = some (.iconst 1, 1, 0, 0, .null) := by decide +kernel
theorem k29_62 : am_cd am_x 29 62 = some (.ireturn, 1, 0, 0, .null) := by decide +kernel
theorem k30_0 : am_cd am_x 30 0 = some (.aload_n 0, 1, 0, 0, .null) := by decide +kernel
theorem k30_1 : am_cd am_x 30 1 = some (.getfield 27, 3, 0, 0, .null) := by decide +kernel
theorem k30_4 : am_cd am_x 30 4 = some (.aload_n 1, 1, 0, 0, .null) := by decide +kernel
theorem k30_5 : am_cd am_x 30 5 = some (.getfield 27, 3, 0, 0, .null) := by decide +kernel
theorem k30_8 : am_cd am_x 30 8 = some (.if_icmp .ne 29, 3, 37, 0, .null) := by decide +kernel
theorem k30_11 : am_cd am_x 30 11 = some (.aload_n 0, 1, 0, 0, .null) := by decide +kernel
theorem k30_12 : am_cd am_x 30 12 = some (.getfield 31, 3, 0, 1, .null) := by decide +kernel
theorem k30_15 : am_cd am_x 30 15 = some (.aload_n 1, 1, 0, 0, .null) := by decide +kernel
theorem k30_16 : am_cd am_x 30 16 = some (.getfield 31, 3, 0, 1, .null) := by decide +kernel
theorem k30_19 : am_cd am_x 30 19 = some (.if_icmp .ne 18, 3, 37, 0, .null) := by decide +kernel
theorem k30_22 : am_cd am_x 30 22 = some (.aload_n 0, 1, 0, 0, .null) := by decide +kernel
theorem k30_23 : am_cd am_x 30 23 = some (.getfield 34, 3, 0, 2, .null) := by decide +kernel
theorem k30_26 : am_cd am_x 30 26 = some (.aload_n 1, 1, 0, 0, .null) := by decide +kernel
theorem k30_27 : am_cd am_x 30 27 = some (.getfield 34, 3, 0, 2, .null) := by decide +kernel
theorem k30_30 : am_cd am_x 30 30 = some (.if_icmp .ne 7, 3, 37, 0, .null) := by decide +kernel
theorem k30_33 : am_cd am_x 30 33 = some (.iconst 1, 1, 0, 0, .null) := by decide +kernel
theorem k30_34 : am_cd am_x 30 34 = some (.goto 4, 3, 38, 0, .null) := by decide +kernel
theorem k30_37 : am_cd am_x 30 37 = some (.iconst 0, 1, 0, 0, .null) := by decide +kernel
theorem k30_38 : am_cd am_x 30 38 = some (.ireturn, 1, 0, 0, .null) := by decide +kernel
theorem k31_0 : am_cd am_x 31 0 = some (.iload_n 0, 1, 0, 0, .null) := by decide +kernel
theorem k31_1 : am_cd am_x 31 1 = some (.iconst 2, 1, 0, 0, .null) := by decide +kernel
theorem k31_2 : am_cd am_x 31 2 = some (.if_icmp .eq 17, 3, 19, 0, .null) := by decide +kernel
theorem k31_5 : am_cd am_x 31 5 = some (.iload_n 1, 1, 0, 0, .null) := by decide +kernel
theorem k31_6 : am_cd am_x 31 6 = some (.iconst 2, 1, 0, 0, .null) := by decide +kernel
theorem k31_7 : am_cd am_x 31 7 = some (.if_icmp .eq 12, 3, 19, 0, .null) := by decide +kernel
theorem k31_10 : am_cd am_x 31 10 = some (.iload_n 0, 1, 0, 0, .null) := by decide +kernel
theorem k31_11 : am_cd am_x 31 11 = some (.iload_n 1, 1, 0, 0, .null) := by decide +kernel
theorem k31_12 : am_cd am_x 31 12 = some (.if_icmp .eq 7, 3, 19, 0, .null) := by decide +kernel
theorem k31_15 : am_cd am_x 31 15 = some (.iconst 1, 1, 0, 0, .null) := by decide +kernel
theorem k31_16 : am_cd am_x 31 16 = some (.goto 4, 3, 20, 0, .null) := by decide +kernel
theorem k31_19 : am_cd am_x 31 19 = some (.iconst 0, 1, 0, 0, .null) := by decide +kernel
theorem k31_20 : am_cd am_x 31 20 = some (.ireturn, 1, 0, 0, .null) := by decide +kernel
theorem k32_0 : am_cd am_x 32 0 = some (.iconst 0, 1, 0, 0, .null) := by decide +kernel
theorem k32_1 : am_cd am_x 32 1 = some (.istore_n 2, 1, 0, 0, .null) := by decide +kernel
theorem k32_2 : am_cd am_x 32 2 = some (.iconst 0, 1, 0, 0, .null) := by decide +kernel
theorem k32_3 : am_cd am_x 32 3 = some (.istore_n 3, 1, 0, 0, .null) := by decide +kernel
theorem k32_4 : am_cd am_x 32 4 = some (.iload_n 3, 1, 0, 0, .null) := by decide +kernel
theorem k32_5 : am_cd am_x 32 5 = some (.aload_n 0, 1, 0, 0, .null) := by decide +kernel
theorem k32_6 : am_cd am_x 32 6 = some (.getfield 31, 3, 0, 1, .null) := by decide +kernel
theorem k32_9 : am_cd am_x 32 9 = some (.if_icmp .ge 50, 3, 59, 0, .null) := by decide +kernel
theorem k32_12 : am_cd am_x 32 12 = some (.iconst 0, 1, 0, 0, .null) := by decide +kernel
theorem k32_13 : am_cd am_x 32 13 = some (.istore 4, 2, 0, 0, .null) := by decide +kernel
theorem k32_15 : am_cd am_x 32 15 = some (.iload 4, 2, 0, 0, .null) := by decide +kernel
theorem k32_17 : am_cd am_x 32 17 = some (.aload_n 0, 1, 0, 0, .null) := by decide +kernel
theorem k32_18 : am_cd am_x 32 18 = some (.getfield 34, 3, 0, 2, .null) := by decide +kernel
theorem k32_21 : am_cd am_x 32 21 = some (.if_icmp .ge 32, 3, 53, 0, .null) := by decide +kernel
theorem k32_24 : am_cd am_x 32 24 = some (.aload_n 0, 1, 0, 0, .null) := by decide +kernel
theorem k32_25 : am_cd am_x 32 25 = some (.iload_n 3, 1, 0, 0, .null) := by decide +kernel
theorem k32_26 : am_cd am_x 32 26 = some (.iload 4, 2, 0, 0, .null) := by decide +kernel
theorem k32_28 : am_cd am_x 32 28 = some (.invokevirtual 120, 3, 16, 0, .null) := by decide +kernel
theorem k32_31 : am_cd am_x 32 31 = some (.aload_n 1, 1, 0, 0, .null) := by decide +kernel
theorem k32_32 : am_cd am_x 32 32 = some (.iload_n 3, 1, 0, 0, .null) := by decide +kernel
theorem k32_33 : am_cd am_x 32 33 = some (.iload 4, 2, 0, 0, .null) := by decide +kernel
theorem k32_35 : am_cd am_x 32 35 = some (.invokevirtual 120, 3, 16, 0, .null) := by decide +kernel
theorem k32_38 : am_cd am_x 32 38 = some (.invokestatic 123, 3, 31, 0, .null) := by decide +kernel
theorem k32_41 : am_cd am_x 32 41 = some (.ifCond .eq 6, 3, 47, 0, .null) := by decide +kernel
theorem k32_44 : am_cd am_x 32 44 = some (.iinc 2 1, 3, 0, 0, .null) := by decide +kernel
theorem k32_47 : am_cd am_x 32 47 = some (.iinc 4 1, 3, 0, 0, .null) := by decide +kernel
theorem k32_50 : am_cd am_x 32 50 = some (.goto (-35), 3, 15, 0, .null) := by decide +kernel
theorem k32_53 : am_cd am_x 32 53 = some (.iinc 3 1, 3, 0, 0, .null) := by decide +kernel
theorem k32_56 : am_cd am_x 32 56 = some (.goto (-52), 3, 4, 0, .null) := by decide +kernel
theorem k32_59 : am_cd am_x 32 59 = some (.iload_n 2, 1, 0, 0, .null) := by decide +kernel
theorem k32_60 : am_cd am_x 32 60 = some (.ireturn, 1, 0, 0, .null) := by decide +kernel
theorem k33_0 : am_cd am_x 33 0 = some (.iconst 0, 1, 0, 0, .null) := by decide +kernel
theorem k33_1 : am_cd am_x 33 1 = some (.istore_n 2, 1, 0, 0, .null) := by decide +kernel
theorem k33_2 : am_cd am_x 33 2 = some (.iconst 0, 1, 0, 0, .null) := by decide +kernel
theorem k33_3 : am_cd am_x 33 3 = some (.istore_n 3, 1, 0, 0, .null) := by decide +kernel
theorem k33_4 : am_cd am_x 33 4 = some (.iload_n 3, 1, 0, 0, .null) := by decide +kernel
theorem k33_5 : am_cd am_x 33 5 = some (.aload_n 0, 1, 0, 0, .null) := by decide +kernel
theorem k33_6 : am_cd am_x 33 6 = some (.getfield 27, 3, 0, 0, .null) := by decide +kernel
theorem k33_9 : am_cd am_x 33 9 = some (.if_icmp .ge 58, 3, 67, 0, .null) := by decide +kernel
theorem k33_12 : am_cd am_x 33 12 = some (.iconst 0, 1, 0, 0, .null) := by decide +kernel
theorem k33_13 : am_cd am_x 33 13 = some (.istore 4, 2, 0, 0, .null) := by decide +kernel
theorem k33_15 : am_cd am_x 33 15 = some (.iload 4, 2, 0, 0, .null) := by decide +kernel
theorem k33_17 : am_cd am_x 33 17 = some (.aload_n 0, 1, 0, 0, .null) := by decide +kernel
theorem k33_18 : am_cd am_x 33 18 = some (.getfield 31, 3, 0, 1, .null) := by decide +kernel
theorem k33_21 : am_cd am_x 33 21 = some (.if_icmp .ge 40, 3, 61, 0, .null) := by decide +kernel
theorem k33_24 : am_cd am_x 33 24 = some (.aload_n 0, 1, 0, 0, .null) := by decide +kernel
theorem k33_25 : am_cd am_x 33 25 = some (.getfield 9, 3, 0, 7, .null) := by decide +kernel
theorem k33_28 : am_cd am_x 33 28 = some (.iload_n 3, 1, 0, 0, .null) := by decide +kernel
theorem k33_29 : am_cd am_x 33 29 = some (.iload 4, 2, 0, 0, .null) := by decide +kernel
theorem k33_31 : am_cd am_x 33 31 = some (.invokestatic 76, 3, 5, 0, .null) := by decide +kernel
theorem k33_34 : am_cd am_x 33 34 = some (.iaload, 1, 0, 0, .null) := by decide +kernel
theorem k33_35 : am_cd am_x 33 35 = some (.aload_n 1, 1, 0, 0, .null) := by decide +kernel
theorem k33_36 : am_cd am_x 33 36 = some (.getfield 9, 3, 0, 7, .null) := by decide +kernel
theorem k33_39 : am_cd am_x 33 39 = some (.iload_n 3, 1, 0, 0, .null) := by decide +kernel
theorem k33_40 : am_cd am_x 33 40 = some (.iload 4, 2, 0, 0, .null) := by decide +kernel
theorem k33_42 : am_cd am_x 33 42 = some (.invokestatic 76, 3, 5, 0, .null) := by decide +kernel
theorem k33_45 : am_cd am_x 33 45 = some (.iaload, 1, 0, 0, .null) := by decide +kernel
theorem k33_46 : am_cd am_x 33 46 = some (.invokestatic 123, 3, 31, 0, .null) := by decide +kernel
theorem k33_49 : am_cd am_x 33 49 = some (.ifCond .eq 6, 3, 55, 0, .null) := by decide +kernel
theorem k33_52 : am_cd am_x 33 52 = some (.iinc 2 1, 3, 0, 0, .null) := by decide +kernel
theorem k33_55 : am_cd am_x 33 55 = some (.iinc 4 1, 3, 0, 0, .null) := by decide +kernel
theorem k33_58 : am_cd am_x 33 58 = some (.goto (-43), 3, 15, 0, .null) := by decide +kernel
theorem k33_61 : am_cd am_x 33 61 = some (.iinc 3 1, 3, 0, 0, .null) := by decide +kernel
theorem k33_64 : am_cd am_x 33 64 = some (.goto (-60), 3, 4, 0, .null) := by decide +kernel
theorem k33_67 : am_cd am_x 33 67 = some (.iload_n 2, 1, 0, 0, .null) := by decide +kernel
theorem k33_68 : am_cd am_x 33 68 = some (.ireturn, 1, 0, 0, .null) := by decide +kernel
theorem k35_0 : am_cd am_x 35 0 = some (.aload_n 0, 1, 0, 0, .null) := by decide +kernel
theorem k35_1 : am_cd am_x 35 1 = some (.getfield 9, 3, 1, 0, .null) := by decide +kernel
theorem k35_4 : am_cd am_x 35 4 = some (.iconst 0, 1, 0, 0, .null) := by decide +kernel
theorem k35_5 : am_cd am_x 35 5 = some (.invokestatic 15, 3, 219, 0, .null) := by decide +kernel
theorem k35_8 : am_cd am_x 35 8 = some (.aload_n 0, 1, 0, 0, .null) := by decide +kernel
theorem k35_9 : am_cd am_x 35 9 = some (.iconst 0, 1, 0, 0, .null) := by decide +kernel
theorem k35_10 : am_cd am_x 35 10 = some (.putfield 21, 3, 1, 1, .int 0) := by decide +kernel
theorem k35_13 : am_cd am_x 35 13 = some (.aload_n 0, 1, 0, 0, .null) := by decide +kernel
theorem k35_14 : am_cd am_x 35 14 = some (.iconst 0, 1, 0, 0, .null) := by decide +kernel
theorem k35_15 : am_cd am_x 35 15 = some (.putfield 25, 3, 1, 2, .int 1) := by decide +kernel
theorem k35_18 : am_cd am_x 35 18 = some (.return_, 1, 0, 0, .null) := by decide +kernel
theorem k36_0 : am_cd am_x 36 0 = some (.iload_n 1, 1, 0, 0, .null) := by decide +kernel
theorem k36_1 : am_cd am_x 36 1 = some (.istore_n 2, 1, 0, 0, .null) := by decide +kernel
theorem k36_2 : am_cd am_x 36 2 = some (.iconst 0, 1, 0, 0, .null) := by decide +kernel
theorem k36_3 : am_cd am_x 36 3 = some (.istore_n 3, 1, 0, 0, .null) := by decide +kernel
theorem k36_4 : am_cd am_x 36 4 = some (.iload_n 3, 1, 0, 0, .null) := by decide +kernel
theorem k36_5 : am_cd am_x 36 5 = some (.bipush 12, 2, 0, 0, .null) := by decide +kernel
theorem k36_7 : am_cd am_x 36 7 = some (.if_icmp .ge 54, 3, 61, 0, .null) := by decide +kernel
theorem k36_10 : am_cd am_x 36 10 = some (.iload_n 2, 1, 0, 0, .null) := by decide +kernel
theorem k36_11 : am_cd am_x 36 11 = some (.iload_n 3, 1, 0, 0, .null) := by decide +kernel
theorem k36_12 : am_cd am_x 36 12 = some (.ishr, 1, 0, 0, .null) := by decide +kernel
theorem k36_13 : am_cd am_x 36 13 = some (.iconst 1, 1, 0, 0, .null) := by decide +kernel
theorem k36_14 : am_cd am_x 36 14 = some (.iand, 1, 0, 0, .null) := by decide +kernel
theorem k36_15 : am_cd am_x 36 15 = some (.iconst 1, 1, 0, 0, .null) := by decide +kernel
theorem k36_16 : am_cd am_x 36 16 = some (.if_icmp .ne 39, 3, 55, 0, .null) := by decide +kernel
theorem k36_19 : am_cd am_x 36 19 = some (.aload_n 0, 1, 0, 0, .null) := by decide +kernel
theorem k36_20 : am_cd am_x 36 20 = some (.getfield 9, 3, 1, 0, .null) := by decide +kernel
theorem k36_23 : am_cd am_x 36 23 = some (.iload_n 3, 1, 0, 0, .null) := by decide +kernel
theorem k36_24 : am_cd am_x 36 24 = some (.iaload, 1, 0, 0, .null) := by decide +kernel
theorem k36_25 : am_cd am_x 36 25 = some (.ifCond .ne 21, 3, 46, 0, .null) := by decide +kernel
theorem k36_28 : am_cd am_x 36 28 = some (.aload_n 0, 1, 0, 0, .null) := by decide +kernel
theorem k36_29 : am_cd am_x 36 29 = some (.getfield 9, 3, 1, 0, .null) := by decide +kernel
theorem k36_32 : am_cd am_x 36 32 = some (.iload_n 3, 1, 0, 0, .null) := by decide +kernel
theorem k36_33 : am_cd am_x 36 33 = some (.iload_n 2, 1, 0, 0, .null) := by decide +kernel
theorem k36_34 : am_cd am_x 36 34 = some (.iastore, 1, 0, 0, .null) := by decide +kernel
theorem k36_35 : am_cd am_x 36 35 = some (.aload_n 0, 1, 0, 0, .null) := by decide +kernel
theorem k36_36 : am_cd am_x 36 36 = some (.dup, 1, 0, 0, .null) := by decide +kernel
theorem k36_37 : am_cd am_x 36 37 = some (.getfield 21, 3, 1, 1, .null) := by decide +kernel
theorem k36_40 : am_cd am_x 36 40 = some (.iconst 1, 1, 0, 0, .null) := by decide +kernel
theorem k36_41 : am_cd am_x 36 41 = some (.iadd, 1, 0, 0, .null) := by decide +kernel
theorem k36_42 : am_cd am_x 36 42 = some (.putfield 21, 3, 1, 1, .int 0) := by decide +kernel
theorem k36_45 : am_cd am_x 36 45 = some (.return_, 1, 0, 0, .null) := by decide +kernel
theorem k36_46 : am_cd am_x 36 46 = some (.iload_n 2, 1, 0, 0, .null) := by decide +kernel
theorem k36_47 : am_cd am_x 36 47 = some (.aload_n 0, 1, 0, 0, .null) := by decide +kernel
theorem k36_48 : am_cd am_x 36 48 = some (.getfield 9, 3, 1, 0, .null) := by decide +kernel
theorem k36_51 : am_cd am_x 36 51 = some (.iload_n 3, 1, 0, 0, .null) := by decide +kernel
theorem k36_52 : am_cd am_x 36 52 = some (.iaload, 1, 0, 0, .null) := by decide +kernel
theorem k36_53 : am_cd am_x 36 53 = some (.ixor, 1, 0, 0, .null) := by decide +kernel
theorem k36_54 : am_cd am_x 36 54 = some (.istore_n 2, 1, 0, 0, .null) := by decide +kernel
theorem k36_55 : am_cd am_x 36 55 = some (.iinc 3 1, 3, 0, 0, .null) := by decide +kernel
theorem k36_58 : am_cd am_x 36 58 = some (.goto (-54), 3, 4, 0, .null) := by decide +kernel
theorem k36_61 : am_cd am_x 36 61 = some (.iload_n 2, 1, 0, 0, .null) := by decide +kernel
theorem k36_62 : am_cd am_x 36 62 = some (.ifCond .eq 8, 3, 70, 0, .null) := by decide +kernel
theorem k36_65 : am_cd am_x 36 65 = some (.aload_n 0, 1, 0, 0, .null) := by decide +kernel
theorem k36_66 : am_cd am_x 36 66 = some (.iconst 1, 1, 0, 0, .null) := by decide +kernel
theorem k36_67 : am_cd am_x 36 67 = some (.putfield 25, 3, 1, 2, .int 1) := by decide +kernel
theorem k36_70 : am_cd am_x 36 70 = some (.return_, 1, 0, 0, .null) := by decide +kernel
theorem k37_0 : am_cd am_x 37 0 = some (.sipush 4096, 3, 0, 0, .null) := by decide +kernel
theorem k37_3 : am_cd am_x 37 3 = some (.istore_n 1, 1, 0, 0, .null) := by decide +kernel
theorem k37_4 : am_cd am_x 37 4 = some (.bipush 11, 2, 0, 0, .null) := by decide +kernel
theorem k37_6 : am_cd am_x 37 6 = some (.istore_n 2, 1, 0, 0, .null) := by decide +kernel
theorem k37_7 : am_cd am_x 37 7 = some (.iload_n 2, 1, 0, 0, .null) := by decide +kernel
theorem k37_8 : am_cd am_x 37 8 = some (.ifCond .lt 25, 3, 33, 0, .null) := by decide +kernel
theorem k37_11 : am_cd am_x 37 11 = some (.iload_n 1, 1, 0, 0, .null) := by decide +kernel
theorem k37_12 : am_cd am_x 37 12 = some (.aload_n 0, 1, 0, 0, .null) := by decide +kernel
theorem k37_13 : am_cd am_x 37 13 = some (.getfield 9, 3, 1, 0, .null) := by decide +kernel
theorem k37_16 : am_cd am_x 37 16 = some (.iload_n 2, 1, 0, 0, .null) := by decide +kernel
theorem k37_17 : am_cd am_x 37 17 = some (.iaload, 1, 0, 0, .null) := by decide +kernel
theorem k37_18 : am_cd am_x 37 18 = some (.iload_n 1, 1, 0, 0, .null) := by decide +kernel
theorem k37_19 : am_cd am_x 37 19 = some (.iand, 1, 0, 0, .null) := by decide +kernel
theorem k37_20 : am_cd am_x 37 20 = some (.invokestatic 29, 3, 39, 0, .null) := by decide +kernel
theorem k37_23 : am_cd am_x 37 23 = some (.iload_n 2, 1, 0, 0, .null) := by decide +kernel
theorem k37_24 : am_cd am_x 37 24 = some (.ishl, 1, 0, 0, .null) := by decide +kernel
theorem k37_25 : am_cd am_x 37 25 = some (.ior, 1, 0, 0, .null) := by decide +kernel
theorem k37_26 : am_cd am_x 37 26 = some (.istore_n 1, 1, 0, 0, .null) := by decide +kernel
theorem k37_27 : am_cd am_x 37 27 = some (.iinc 2 (-1), 3, 0, 0, .null) := by decide +kernel
theorem k37_30 : am_cd am_x 37 30 = some (.goto (-23), 3, 7, 0, .null) := by decide +kernel
theorem k37_33 : am_cd am_x 37 33 = some (.iload_n 1, 1, 0, 0, .null) := by decide +kernel
theorem k37_34 : am_cd am_x 37 34 = some (.sipush (-4097), 3, 0, 0, .null) := by decide +kernel
theorem k37_37 : am_cd am_x 37 37 = some (.iand, 1, 0, 0, .null) := by decide +kernel
theorem k37_38 : am_cd am_x 37 38 = some (.ireturn, 1, 0, 0, .null) := by decide +kernel
theorem k39_0 : am_cd am_x 39 0 = some (.iload_n 0, 1, 0, 0, .null) := by decide +kernel
theorem k39_1 : am_cd am_x 39 1 = some (.invokestatic 26, 3, 212, 0, .null) := by decide +kernel
theorem k39_4 : am_cd am_x 39 4 = some (.iconst 1, 1, 0, 0, .null) := by decide +kernel
theorem k39_5 : am_cd am_x 39 5 = some (.iand, 1, 0, 0, .null) := by decide +kernel
theorem k39_6 : am_cd am_x 39 6 = some (.ireturn, 1, 0, 0, .null) := by decide +kernel
theorem k40_0 : am_cd am_x 40 0 = some (.aload_n 0, 1, 0, 0, .null) := by decide +kernel
theorem k40_1 : am_cd am_x 40 1 = some (.iconst 1, 1, 0, 0, .null) := by decide +kernel
theorem k40_2 : am_cd am_x 40 2 = some (.aload_n 1, 1, 0, 0, .null) := by decide +kernel
theorem k40_3 : am_cd am_x 40 3 = some (.getfield 32, 3, 0, 4, .null) := by decide +kernel
theorem k40_6 : am_cd am_x 40 6 = some (.bipush 12, 2, 0, 0, .null) := by decide +kernel
theorem k40_8 : am_cd am_x 40 8 = some (.invokestatic 35, 3, 903, 0, .null) := by decide +kernel
theorem k40_11 : am_cd am_x 40 11 = some (.invokestatic 41, 3, 902, 0, .null) := by decide +kernel
theorem k40_14 : am_cd am_x 40 14 = some (.putfield 22, 3, 2, 2, .int 0) := by decide +kernel
theorem k40_17 : am_cd am_x 40 17 = some (.aload_n 0, 1, 0, 0, .null) := by decide +kernel
theorem k40_18 : am_cd am_x 40 18 = some (.aload_n 1, 1, 0, 0, .null) := by decide +kernel
theorem k40_19 : am_cd am_x 40 19 = some (.getfield 44, 3, 0, 5, .null) := by decide +kernel
theorem k40_22 : am_cd am_x 40 22 = some (.putfield 47, 3, 2, 3, .int 0) := by decide +kernel
theorem k40_25 : am_cd am_x 40 25 = some (.iconst 0, 1, 0, 0, .null) := by decide +kernel
theorem k40_26 : am_cd am_x 40 26 = some (.istore_n 2, 1, 0, 0, .null) := by decide +kernel
theorem k40_27 : am_cd am_x 40 27 = some (.iload_n 2, 1, 0, 0, .null) := by decide +kernel
theorem k40_28 : am_cd am_x 40 28 = some (.bipush 12, 2, 0, 0, .null) := by decide +kernel
theorem k40_30 : am_cd am_x 40 30 = some (.if_icmp .ge 30, 3, 60, 0, .null) := by decide +kernel
theorem k40_33 : am_cd am_x 40 33 = some (.aload_n 0, 1, 0, 0, .null) := by decide +kernel
theorem k40_34 : am_cd am_x 40 34 = some (.getfield 9, 3, 2, 0, .null) := by decide +kernel
theorem k40_37 : am_cd am_x 40 37 = some (.iload_n 2, 1, 0, 0, .null) := by decide +kernel
theorem k40_38 : am_cd am_x 40 38 = some (.iload_n 2, 1, 0, 0, .null) := by decide +kernel
theorem k40_39 : am_cd am_x 40 39 = some (.aload_n 0, 1, 0, 0, .null) := by decide +kernel
theorem k40_40 : am_cd am_x 40 40 = some (.getfield 22, 3, 2, 2, .null) := by decide +kernel
theorem k40_43 : am_cd am_x 40 43 = some (.if_icmp .ge 9, 3, 52, 0, .null) := by decide +kernel
theorem k40_46 : am_cd am_x 40 46 = some (.iconst 1, 1, 0, 0, .null) := by decide +kernel
theorem k40_47 : am_cd am_x 40 47 = some (.iload_n 2, 1, 0, 0, .null) := by decide +kernel
theorem k40_48 : am_cd am_x 40 48 = some (.ishl, 1, 0, 0, .null) := by decide +kernel
theorem k40_49 : am_cd am_x 40 49 = some (.goto 4, 3, 53, 0, .null) := by decide +kernel
theorem k40_52 : am_cd am_x 40 52 = some (.iconst 0, 1, 0, 0, .null) := by decide +kernel
theorem k40_53 : am_cd am_x 40 53 = some (.iastore, 1, 0, 0, .null) := by decide +kernel
theorem k40_54 : am_cd am_x 40 54 = some (.iinc 2 1, 3, 0, 0, .null) := by decide +kernel
theorem k40_57 : am_cd am_x 40 57 = some (.goto (-30), 3, 27, 0, .null) := by decide +kernel
theorem k40_60 : am_cd am_x 40 60 = some (.return_, 1, 0, 0, .null) := by decide +kernel
theorem k41_0 : am_cd am_x 41 0 = some (.iconst 0, 1, 0, 0, .null) := by decide +kernel
theorem k41_1 : am_cd am_x 41 1 = some (.istore_n 1, 1, 0, 0, .null) := by decide +kernel
theorem k41_2 : am_cd am_x 41 2 = some (.iconst 0, 1, 0, 0, .null) := by decide +kernel
theorem k41_3 : am_cd am_x 41 3 = some (.istore_n 2, 1, 0, 0, .null) := by decide +kernel
theorem k41_4 : am_cd am_x 41 4 = some (.iload_n 2, 1, 0, 0, .null) := by decide +kernel
theorem k41_5 : am_cd am_x 41 5 = some (.aload_n 0, 1, 0, 0, .null) := by decide +kernel
theorem k41_6 : am_cd am_x 41 6 = some (.getfield 22, 3, 2, 2, .null) := by decide +kernel
theorem k41_9 : am_cd am_x 41 9 = some (.if_icmp .ge 30, 3, 39, 0, .null) := by decide +kernel
theorem k41_12 : am_cd am_x 41 12 = some (.aload_n 0, 1, 0, 0, .null) := by decide +kernel
theorem k41_13 : am_cd am_x 41 13 = some (.getfield 47, 3, 2, 3, .null) := by decide +kernel
theorem k41_16 : am_cd am_x 41 16 = some (.iload_n 2, 1, 0, 0, .null) := by decide +kernel
theorem k41_17 : am_cd am_x 41 17 = some (.ishr, 1, 0, 0, .null) := by decide +kernel
theorem k41_18 : am_cd am_x 41 18 = some (.iconst 1, 1, 0, 0, .null) := by decide +kernel
theorem k41_19 : am_cd am_x 41 19 = some (.iand, 1, 0, 0, .null) := by decide +kernel
theorem k41_20 : am_cd am_x 41 20 = some (.iconst 1, 1, 0, 0, .null) := by decide +kernel
theorem k41_21 : am_cd am_x 41 21 = some (.if_icmp .ne 12, 3, 33, 0, .null) := by decide +kernel
theorem k41_24 : am_cd am_x 41 24 = some (.iload_n 1, 1, 0, 0, .null) := by decide +kernel
theorem k41_25 : am_cd am_x 41 25 = some (.aload_n 0, 1, 0, 0, .null) := by decide +kernel
theorem k41_26 : am_cd am_x 41 26 = some (.getfield 9, 3, 2, 0, .null) := by decide +kernel
theorem k41_29 : am_cd am_x 41 29 = some (.iload_n 2, 1, 0, 0, .null) := by decide +kernel
theorem k41_30 : am_cd am_x 41 30 = some (.iaload, 1, 0, 0, .null) := by decide +kernel
theorem k41_31 : am_cd am_x 41 31 = some (.ixor, 1, 0, 0, .null) := by decide +kernel
theorem k41_32 : am_cd am_x 41 32 = some (.istore_n 1, 1, 0, 0, .null) := by decide +kernel
theorem k41_33 : am_cd am_x 41 33 = some (.iinc 2 1, 3, 0, 0, .null) := by decide +kernel
theorem k41_36 : am_cd am_x 41 36 = some (.goto (-32), 3, 4, 0, .null) := by decide +kernel
theorem k41_39 : am_cd am_x 41 39 = some (.iconst 1, 1, 0, 0, .null) := by decide +kernel
theorem k41_40 : am_cd am_x 41 40 = some (.istore_n 2, 1, 0, 0, .null) := by decide +kernel
theorem k41_41 : am_cd am_x 41 41 = some (.iload_n 2, 1, 0, 0, .null) := by decide +kernel
theorem k41_42 : am_cd am_x 41 42 = some (.aload_n 0, 1, 0, 0, .null) := by decide +kernel
theorem k41_43 : am_cd am_x 41 43 = some (.getfield 22, 3, 2, 2, .null) := by decide +kernel
theorem k41_46 : am_cd am_x 41 46 = some (.if_icmp .ge 23, 3, 69, 0, .null) := by decide +kernel
theorem k41_49 : am_cd am_x 41 49 = some (.aload_n 0, 1, 0, 0, .null) := by decide +kernel
theorem k41_50 : am_cd am_x 41 50 = some (.getfield 9, 3, 2, 0, .null) := by decide +kernel
theorem k41_53 : am_cd am_x 41 53 = some (.iload_n 2, 1, 0, 0, .null) := by decide +kernel
theorem k41_54 : am_cd am_x 41 54 = some (.iconst 1, 1, 0, 0, .null) := by decide +kernel
theorem k41_55 : am_cd am_x 41 55 = some (.isub, 1, 0, 0, .null) := by decide +kernel
theorem k41_56 : am_cd am_x 41 56 = some (.aload_n 0, 1, 0, 0, .null) := by decide +kernel
theorem k41_57 : am_cd am_x 41 57 = some (.getfield 9, 3, 2, 0, .null) := by decide +kernel
theorem k41_60 : am_cd am_x 41 60 = some (.iload_n 2, 1, 0, 0, .null) := by decide +kernel
theorem k41_61 : am_cd am_x 41 61 = some (.iaload, 1, 0, 0, .null) := by decide +kernel
theorem k41_62 : am_cd am_x 41 62 = some (.iastore, 1, 0, 0, .null) := by decide +kernel
theorem k41_63 : am_cd am_x 41 63 = some (.iinc 2 1, 3, 0, 0, .null) := by decide +kernel
theorem k41_66 : am_cd am_x 41 66 = some (.goto (-25), 3, 41, 0, .null) := by decide +kernel
theorem k41_69 : am_cd am_x 41 69 = some (.aload_n 0, 1, 0, 0, .null) := by decide +kernel
theorem k41_70 : am_cd am_x 41 70 = some (.getfield 9, 3, 2, 0, .null) := by decide +kernel
theorem k41_73 : am_cd am_x 41 73 = some (.aload_n 0, 1, 0, 0, .null) := by decide +kernel
theorem k41_74 : am_cd am_x 41 74 = some (.getfield 22, 3, 2, 2, .null) := by decide +kernel
theorem k41_77 : am_cd am_x 41 77 = some (.iconst 1, 1, 0, 0, .null) := by decide +kernel
theorem k41_78 : am_cd am_x 41 78 = some (.isub, 1, 0, 0, .null) := by decide +kernel
theorem k41_79 : am_cd am_x 41 79 = some (.iload_n 1, 1, 0, 0, .null) := by decide +kernel
theorem k41_80 : am_cd am_x 41 80 = some (.iastore, 1, 0, 0, .null) := by decide +kernel
theorem k41_81 : am_cd am_x 41 81 = some (.return_, 1, 0, 0, .null) := by decide +kernel
theorem k42_0 : am_cd am_x 42 0 = some (.aload_n 0, 1, 0, 0, .null) := by decide +kernel
theorem k42_1 : am_cd am_x 42 1 = some (.getfield 9, 3, 2, 0, .null) := by decide +kernel
theorem k42_4 : am_cd am_x 42 4 = some (.iconst 3, 1, 0, 0, .null) := by decide +kernel
theorem k42_5 : am_cd am_x 42 5 = some (.iload_n 1, 1, 0, 0, .null) := by decide +kernel
theorem k42_6 : am_cd am_x 42 6 = some (.imul, 1, 0, 0, .null) := by decide +kernel
theorem k42_7 : am_cd am_x 42 7 = some (.aload_n 0, 1, 0, 0, .null) := by decide +kernel
theorem k42_8 : am_cd am_x 42 8 = some (.getfield 22, 3, 2, 2, .null) := by decide +kernel
theorem k42_11 : am_cd am_x 42 11 = some (.irem, 1, 0, 0, .null) := by decide +kernel
theorem k42_12 : am_cd am_x 42 12 = some (.iaload, 1, 0, 0, .null) := by decide +kernel
theorem k42_13 : am_cd am_x 42 13 = some (.ireturn, 1, 0, 0, .null) := by decide +kernel
theorem k43_0 : am_cd am_x 43 0 = some (.aload_n 0, 1, 0, 0, .null) := by decide +kernel
theorem k43_1 : am_cd am_x 43 1 = some (.getfield 18, 3, 2, 1, .null) := by decide +kernel
theorem k43_4 : am_cd am_x 43 4 = some (.invokevirtual 48, 3, 35, 1, .null) := by decide +kernel
theorem k43_7 : am_cd am_x 43 7 = some (.aload_n 0, 1, 0, 0, .null) := by decide +kernel
theorem k43_8 : am_cd am_x 43 8 = some (.aload_n 1, 1, 0, 0, .null) := by decide +kernel
theorem k43_9 : am_cd am_x 43 9 = some (.invokevirtual 51, 3, 40, 2, .null) := by decide +kernel
theorem k43_12 : am_cd am_x 43 12 = some (.iconst 0, 1, 0, 0, .null) := by decide +kernel
theorem k43_13 : am_cd am_x 43 13 = some (.istore_n 2, 1, 0, 0, .null) := by decide +kernel
theorem k43_14 : am_cd am_x 43 14 = some (.iload_n 2, 1, 0, 0, .null) := by decide +kernel
theorem k43_15 : am_cd am_x 43 15 = some (.aload_n 1, 1, 0, 0, .null) := by decide +kernel
theorem k43_16 : am_cd am_x 43 16 = some (.getfield 54, 3, 0, 1, .null) := by decide +kernel
theorem k43_19 : am_cd am_x 43 19 = some (.if_icmp .ge 77, 3, 96, 0, .null) := by decide +kernel
theorem k43_22 : am_cd am_x 43 22 = some (.iconst 0, 1, 0, 0, .null) := by decide +kernel
theorem k43_23 : am_cd am_x 43 23 = some (.istore_n 3, 1, 0, 0, .null) := by decide +kernel
theorem k43_24 : am_cd am_x 43 24 = some (.iload_n 3, 1, 0, 0, .null) := by decide +kernel
theorem k43_25 : am_cd am_x 43 25 = some (.aload_n 1, 1, 0, 0, .null) := by decide +kernel
theorem k43_26 : am_cd am_x 43 26 = some (.getfield 57, 3, 0, 0, .null) := by decide +kernel
theorem k43_29 : am_cd am_x 43 29 = some (.if_icmp .ge 57, 3, 86, 0, .null) := by decide +kernel
theorem k43_32 : am_cd am_x 43 32 = some (.aload_n 1, 1, 0, 0, .null) := by decide +kernel
theorem k43_33 : am_cd am_x 43 33 = some (.getfield 60, 3, 0, 8, .null) := by decide +kernel
theorem k43_36 : am_cd am_x 43 36 = some (.iload_n 3, 1, 0, 0, .null) := by decide +kernel
theorem k43_37 : am_cd am_x 43 37 = some (.iload_n 2, 1, 0, 0, .null) := by decide +kernel
theorem k43_38 : am_cd am_x 43 38 = some (.invokestatic 63, 3, 5, 0, .null) := by decide +kernel
theorem k43_41 : am_cd am_x 43 41 = some (.iaload, 1, 0, 0, .null) := by decide +kernel
theorem k43_42 : am_cd am_x 43 42 = some (.istore 4, 2, 0, 0, .null) := by decide +kernel
theorem k43_44 : am_cd am_x 43 44 = some (.iload 4, 2, 0, 0, .null) := by decide +kernel
theorem k43_46 : am_cd am_x 43 46 = some (.iconst 2, 1, 0, 0, .null) := by decide +kernel
theorem k43_47 : am_cd am_x 43 47 = some (.if_icmp .eq 33, 3, 80, 0, .null) := by decide +kernel
theorem k43_50 : am_cd am_x 43 50 = some (.aload_n 0, 1, 0, 0, .null) := by decide +kernel
theorem k43_51 : am_cd am_x 43 51 = some (.getfield 18, 3, 2, 1, .null) := by decide +kernel
theorem k43_54 : am_cd am_x 43 54 = some (.iload 4, 2, 0, 0, .null) := by decide +kernel
theorem k43_56 : am_cd am_x 43 56 = some (.iconst 1, 1, 0, 0, .null) := by decide +kernel
theorem k43_57 : am_cd am_x 43 57 = some (.if_icmp .ne 15, 3, 72, 0, .null) := by decide +kernel
theorem k43_60 : am_cd am_x 43 60 = some (.aload_n 0, 1, 0, 0, .null) := by decide +kernel
theorem k43_61 : am_cd am_x 43 61 = some (.iload_n 3, 1, 0, 0, .null) := by decide +kernel
theorem k43_62 : am_cd am_x 43 62 = some (.invokevirtual 66, 3, 42, 2, .null) := by decide +kernel
theorem k43_65 : am_cd am_x 43 65 = some (.sipush 4096, 3, 0, 0, .null) := by decide +kernel
theorem k43_68 : am_cd am_x 43 68 = some (.ior, 1, 0, 0, .null) := by decide +kernel
theorem k43_69 : am_cd am_x 43 69 = some (.goto 8, 3, 77, 0, .null) := by decide +kernel
theorem k43_72 : am_cd am_x 43 72 = some (.aload_n 0, 1, 0, 0, .null) := by decide +kernel
theorem k43_73 : am_cd am_x 43 73 = some (.iload_n 3, 1, 0, 0, .null) := by decide +kernel
theorem k43_74 : am_cd am_x 43 74 = some (.invokevirtual 66, 3, 42, 2, .null) := by decide +kernel
theorem k43_77 : am_cd am_x 43 77 = some (.invokevirtual 69, 3, 36, 1, .null) := by decide +kernel
theorem k43_80 : am_cd am_x 43 80 = some (.iinc 3 1, 3, 0, 0, .null) := by decide +kernel
theorem k43_83 : am_cd am_x 43 83 = some (.goto (-59), 3, 24, 0, .null) := by decide +kernel
theorem k43_86 : am_cd am_x 43 86 = some (.aload_n 0, 1, 0, 0, .null) := by decide +kernel
theorem k43_87 : am_cd am_x 43 87 = some (.invokevirtual 73, 3, 41, 2, .null) := by decide +kernel
theorem k43_90 : am_cd am_x 43 90 = some (.iinc 2 1, 3, 0, 0, .null) := by decide +kernel
theorem k43_93 : am_cd am_x 43 93 = some (.goto (-79), 3, 14, 0, .null) := by decide +kernel
theorem k43_96 : am_cd am_x 43 96 = some (.aload_n 0, 1, 0, 0, .null) := by decide +kernel
theorem k43_97 : am_cd am_x 43 97 = some (.getfield 18, 3, 2, 1, .null) := by decide +kernel
theorem k43_100 : am_cd am_x 43 100 = some (.areturn, 1, 0, 0, .null) := by decide +kernel
theorem k45_0 : am_cd am_x 45 0 = some (.aload_n 0, 1, 0, 0, .null) := by decide +kernel
theorem k45_1 : am_cd am_x 45 1 = some (.getfield 11, 3, 3, 0, .null) := by decide +kernel
theorem k45_4 : am_cd am_x 45 4 = some (.iconst (-1), 1, 0, 0, .null) := by decide +kernel
theorem k45_5 : am_cd am_x 45 5 = some (.if_icmp .ne 7, 3, 12, 0, .null) := by decide +kernel
theorem k45_8 : am_cd am_x 45 8 = some (.iconst 1, 1, 0, 0, .null) := by decide +kernel
theorem k45_9 : am_cd am_x 45 9 = some (.goto 4, 3, 13, 0, .null) := by decide +kernel
theorem k45_12 : am_cd am_x 45 12 = some (.iconst 0, 1, 0, 0, .null) := by decide +kernel
theorem k45_13 : am_cd am_x 45 13 = some (.ireturn, 1, 0, 0, .null) := by decide +kernel
theorem k46_0 : am_cd am_x 46 0 = some (.aload_n 0, 1, 0, 0, .null) := by decide +kernel
theorem k46_1 : am_cd am_x 46 1 = some (.iload_n 1, 1, 0, 0, .null) := by decide +kernel
theorem k46_2 : am_cd am_x 46 2 = some (.putfield 11, 3, 3, 0, .int 0) := by decide +kernel
theorem k46_5 : am_cd am_x 46 5 = some (.aload_n 0, 1, 0, 0, .null) := by decide +kernel
theorem k46_6 : am_cd am_x 46 6 = some (.iload_n 2, 1, 0, 0, .null) := by decide +kernel
theorem k46_7 : am_cd am_x 46 7 = some (.putfield 19, 3, 3, 1, .int 0) := by decide +kernel
theorem k46_10 : am_cd am_x 46 10 = some (.aload_n 0, 1, 0, 0, .null) := by decide +kernel
theorem k46_11 : am_cd am_x 46 11 = some (.getfield 15, 3, 3, 2, .null) := by decide +kernel
theorem k46_14 : am_cd am_x 46 14 = some (.iconst 0, 1, 0, 0, .null) := by decide +kernel
theorem k46_15 : am_cd am_x 46 15 = some (.invokestatic 22, 3, 219, 0, .null) := by decide +kernel
theorem k46_18 : am_cd am_x 46 18 = some (.return_, 1, 0, 0, .null) := by decide +kernel
theorem k47_0 : am_cd am_x 47 0 = some (.aload_n 0, 1, 0, 0, .null) := by decide +kernel
theorem k47_1 : am_cd am_x 47 1 = some (.invokevirtual 28, 3, 45, 3, .null) := by decide +kernel
theorem k47_4 : am_cd am_x 47 4 = some (.ifCond .eq 5, 3, 9, 0, .null) := by decide +kernel
theorem k47_7 : am_cd am_x 47 7 = some (.iconst 1, 1, 0, 0, .null) := by decide +kernel
theorem k47_8 : am_cd am_x 47 8 = some (.ireturn, 1, 0, 0, .null) := by decide +kernel
theorem k47_9 : am_cd am_x 47 9 = some (.iload_n 1, 1, 0, 0, .null) := by decide +kernel
theorem k47_10 : am_cd am_x 47 10 = some (.aload_n 0, 1, 0, 0, .null) := by decide +kernel
theorem k47_11 : am_cd am_x 47 11 = some (.getfield 11, 3, 3, 0, .null) := by decide +kernel
theorem k47_14 : am_cd am_x 47 14 = some (.if_icmp .eq 5, 3, 19, 0, .null) := by decide +kernel
theorem k47_17 : am_cd am_x 47 17 = some (.iconst 3, 1, 0, 0, .null) := by decide +kernel
theorem k47_18 : am_cd am_x 47 18 = some (.ireturn, 1, 0, 0, .null) := by decide +kernel
theorem k47_19 : am_cd am_x 47 19 = some (.iload_n 2, 1, 0, 0, .null) := by decide +kernel
theorem k47_20 : am_cd am_x 47 20 = some (.ifCond .lt 13, 3, 33, 0, .null) := by decide +kernel
theorem k47_23 : am_cd am_x 47 23 = some (.iload_n 2, 1, 0, 0, .null) := by decide +kernel
theorem k47_24 : am_cd am_x 47 24 = some (.aload_n 0, 1, 0, 0, .null) := by decide +kernel
theorem k47_25 : am_cd am_x 47 25 = some (.getfield 19, 3, 3, 1, .null) := by decide +kernel
theorem k47_28 : am_cd am_x 47 28 = some (.iload_n 3, 1, 0, 0, .null) := by decide +kernel
theorem k47_29 : am_cd am_x 47 29 = some (.isub, 1, 0, 0, .null) := by decide +kernel
theorem k47_30 : am_cd am_x 47 30 = some (.if_icmp .le 7, 3, 37, 0, .null) := by decide +kernel
theorem k47_33 : am_cd am_x 47 33 = some (.iconst 2, 1, 0, 0, .null) := by decide +kernel
theorem k47_34 : am_cd am_x 47 34 = some (.goto 4, 3, 38, 0, .null) := by decide +kernel
theorem k47_37 : am_cd am_x 47 37 = some (.iconst 0, 1, 0, 0, .null) := by decide +kernel
theorem k47_38 : am_cd am_x 47 38 = some (.ireturn, 1, 0, 0, .null) := by decide +kernel
theorem k48_0 : am_cd am_x 48 0 = some (.aload_n 0, 1, 0, 0, .null) := by decide +kernel
theorem k48_1 : am_cd am_x 48 1 = some (.getfield 11, 3, 3, 0, .null) := by decide +kernel
theorem k48_4 : am_cd am_x 48 4 = some (.lookupswitch 50 #[(0, 28), (1, 39)], 28, 0, 0, .null) := by decide +kernel
theorem k48_32 : am_cd am_x 48 32 = some (.aload_n 0, 1, 0, 0, .null) := by decide +kernel
theorem k48_33 : am_cd am_x 48 33 = some (.getfield 15, 3, 3, 2, .null) := by decide +kernel
theorem k48_36 : am_cd am_x 48 36 = some (.iload_n 1, 1, 0, 0, .null) := by decide +kernel
theorem k48_37 : am_cd am_x 48 37 = some (.iload_n 2, 1, 0, 0, .null) := by decide +kernel
theorem k48_38 : am_cd am_x 48 38 = some (.i2b, 1, 0, 0, .null) := by decide +kernel
theorem k48_39 : am_cd am_x 48 39 = some (.iastore, 1, 0, 0, .null) := by decide +kernel
theorem k48_40 : am_cd am_x 48 40 = some (.goto 21, 3, 61, 0, .null) := by decide +kernel
theorem k48_43 : am_cd am_x 48 43 = some (.aload_n 0, 1, 0, 0, .null) := by decide +kernel
theorem k48_44 : am_cd am_x 48 44 = some (.getfield 15, 3, 3, 2, .null) := by decide +kernel
theorem k48_47 : am_cd am_x 48 47 = some (.iload_n 1, 1, 0, 0, .null) := by decide +kernel
theorem k48_48 : am_cd am_x 48 48 = some (.iload_n 2, 1, 0, 0, .null) := by decide +kernel
theorem k48_49 : am_cd am_x 48 49 = some (.i2s, 1, 0, 0, .null) := by decide +kernel
theorem k48_50 : am_cd am_x 48 50 = some (.iastore, 1, 0, 0, .null) := by decide +kernel
theorem k48_51 : am_cd am_x 48 51 = some (.goto 10, 3, 61, 0, .null) := by decide +kernel
theorem k48_54 : am_cd am_x 48 54 = some (.aload_n 0, 1, 0, 0, .null) := by decide +kernel
theorem k48_55 : am_cd am_x 48 55 = some (.getfield 15, 3, 3, 2, .null) := by decide +kernel
theorem k48_58 : am_cd am_x 48 58 = some (.iload_n 1, 1, 0, 0, .null) := by decide +kernel
theorem k48_59 : am_cd am_x 48 59 = some (.iload_n 2, 1, 0, 0, .null) := by decide +kernel
theorem k48_60 : am_cd am_x 48 60 = some (.iastore, 1, 0, 0, .null) := by decide +kernel
theorem k48_61 : am_cd am_x 48 61 = some (.return_, 1, 0, 0, .null) := by decide +kernel
theorem k50_0 : am_cd am_x 50 0 = some (.iload_n 1, 1, 0, 0, .null) := by decide +kernel
theorem k50_1 : am_cd am_x 50 1 = some (.iconst 1, 1, 0, 0, .null) := by decide +kernel
theorem k50_2 : am_cd am_x 50 2 = some (.ishl, 1, 0, 0, .null) := by decide +kernel
theorem k50_3 : am_cd am_x 50 3 = some (.istore_n 2, 1, 0, 0, .null) := by decide +kernel
theorem k50_4 : am_cd am_x 50 4 = some (.iload_n 2, 1, 0, 0, .null) := by decide +kernel
theorem k50_5 : am_cd am_x 50 5 = some (.aload_n 0, 1, 0, 0, .null) := by decide +kernel
theorem k50_6 : am_cd am_x 50 6 = some (.invokevirtual 22, 3, 11, 0, .null) := by decide +kernel
theorem k50_9 : am_cd am_x 50 9 = some (.iconst (-1), 1, 0, 0, .null) := by decide +kernel
theorem k50_10 : am_cd am_x 50 10 = some (.ixor, 1, 0, 0, .null) := by decide +kernel
theorem k50_11 : am_cd am_x 50 11 = some (.iand, 1, 0, 0, .null) := by decide +kernel
theorem k50_12 : am_cd am_x 50 12 = some (.ifCond .eq 10, 3, 22, 0, .null) := by decide +kernel
theorem k50_15 : am_cd am_x 50 15 = some (.iload_n 2, 1, 0, 0, .null) := by decide +kernel
theorem k50_16 : am_cd am_x 50 16 = some (.aload_n 0, 1, 0, 0, .null) := by decide +kernel
theorem k50_17 : am_cd am_x 50 17 = some (.getfield 28, 3, 0, 6, .null) := by decide +kernel
theorem k50_20 : am_cd am_x 50 20 = some (.ixor, 1, 0, 0, .null) := by decide +kernel
theorem k50_21 : am_cd am_x 50 21 = some (.istore_n 2, 1, 0, 0, .null) := by decide +kernel
theorem k50_22 : am_cd am_x 50 22 = some (.iload_n 2, 1, 0, 0, .null) := by decide +kernel
theorem k50_23 : am_cd am_x 50 23 = some (.aload_n 0, 1, 0, 0, .null) := by decide +kernel
theorem k50_24 : am_cd am_x 50 24 = some (.invokevirtual 22, 3, 11, 0, .null) := by decide +kernel
theorem k50_27 : am_cd am_x 50 27 = some (.iand, 1, 0, 0, .null) := by decide +kernel
theorem k50_28 : am_cd am_x 50 28 = some (.ireturn, 1, 0, 0, .null) := by decide +kernel
theorem k51_0 : am_cd am_x 51 0 = some (.aload_n 0, 1, 0, 0, .null) := by decide +kernel
theorem k51_1 : am_cd am_x 51 1 = some (.iconst 0, 1, 0, 0, .null) := by decide +kernel
theorem k51_2 : am_cd am_x 51 2 = some (.putfield 32, 3, 4, 2, .int 0) := by decide +kernel
theorem k51_5 : am_cd am_x 51 5 = some (.iconst 0, 1, 0, 0, .null) := by decide +kernel
theorem k51_6 : am_cd am_x 51 6 = some (.istore_n 2, 1, 0, 0, .null) := by decide +kernel
theorem k51_7 : am_cd am_x 51 7 = some (.iload_n 2, 1, 0, 0, .null) := by decide +kernel
theorem k51_8 : am_cd am_x 51 8 = some (.aload_n 1, 1, 0, 0, .null) := by decide +kernel
theorem k51_9 : am_cd am_x 51 9 = some (.getfield 35, 3, 0, 0, .null) := by decide +kernel
theorem k51_12 : am_cd am_x 51 12 = some (.if_icmp .ge 26, 3, 38, 0, .null) := by decide +kernel
theorem k51_15 : am_cd am_x 51 15 = some (.iload_n 2, 1, 0, 0, .null) := by decide +kernel
theorem k51_16 : am_cd am_x 51 16 = some (.aload_n 1, 1, 0, 0, .null) := by decide +kernel
theorem k51_17 : am_cd am_x 51 17 = some (.getfield 38, 3, 0, 3, .null) := by decide +kernel
theorem k51_20 : am_cd am_x 51 20 = some (.invokestatic 41, 3, 6, 0, .null) := by decide +kernel
theorem k51_23 : am_cd am_x 51 23 = some (.ifCond .ne 9, 3, 32, 0, .null) := by decide +kernel
theorem k51_26 : am_cd am_x 51 26 = some (.aload_n 0, 1, 0, 0, .null) := by decide +kernel
theorem k51_27 : am_cd am_x 51 27 = some (.aload_n 1, 1, 0, 0, .null) := by decide +kernel
theorem k51_28 : am_cd am_x 51 28 = some (.iload_n 2, 1, 0, 0, .null) := by decide +kernel
theorem k51_29 : am_cd am_x 51 29 = some (.invokevirtual 45, 3, 52, 4, .null) := by decide +kernel
theorem k51_32 : am_cd am_x 51 32 = some (.iinc 2 1, 3, 0, 0, .null) := by decide +kernel
theorem k51_35 : am_cd am_x 51 35 = some (.goto (-28), 3, 7, 0, .null) := by decide +kernel
theorem k51_38 : am_cd am_x 51 38 = some (.return_, 1, 0, 0, .null) := by decide +kernel
theorem k52_0 : am_cd am_x 52 0 = some (.aload_n 1, 1, 0, 0, .null) := by decide +kernel
theorem k52_1 : am_cd am_x 52 1 = some (.getfield 49, 3, 0, 9, .null) := by decide +kernel
theorem k52_4 : am_cd am_x 52 4 = some (.iload_n 2, 1, 0, 0, .null) := by decide +kernel
theorem k52_5 : am_cd am_x 52 5 = some (.iaload, 1, 0, 0, .null) := by decide +kernel
theorem k52_6 : am_cd am_x 52 6 = some (.istore_n 3, 1, 0, 0, .null) := by decide +kernel
theorem k52_7 : am_cd am_x 52 7 = some (.aload_n 1, 1, 0, 0, .null) := by decide +kernel
theorem k52_8 : am_cd am_x 52 8 = some (.getfield 52, 3, 0, 1, .null) := by decide +kernel
theorem k52_11 : am_cd am_x 52 11 = some (.iconst 1, 1, 0, 0, .null) := by decide +kernel
theorem k52_12 : am_cd am_x 52 12 = some (.isub, 1, 0, 0, .null) := by decide +kernel
theorem k52_13 : am_cd am_x 52 13 = some (.istore 4, 2, 0, 0, .null) := by decide +kernel
theorem k52_15 : am_cd am_x 52 15 = some (.iload 4, 2, 0, 0, .null) := by decide +kernel
theorem k52_17 : am_cd am_x 52 17 = some (.ifCond .lt 35, 3, 52, 0, .null) := by decide +kernel
theorem k52_20 : am_cd am_x 52 20 = some (.aload_n 0, 1, 0, 0, .null) := by decide +kernel
theorem k52_21 : am_cd am_x 52 21 = some (.getfield 9, 3, 4, 0, .null) := by decide +kernel
theorem k52_24 : am_cd am_x 52 24 = some (.aload_n 0, 1, 0, 0, .null) := by decide +kernel
theorem k52_25 : am_cd am_x 52 25 = some (.getfield 32, 3, 4, 2, .null) := by decide +kernel
theorem k52_28 : am_cd am_x 52 28 = some (.iload_n 3, 1, 0, 0, .null) := by decide +kernel
theorem k52_29 : am_cd am_x 52 29 = some (.iastore, 1, 0, 0, .null) := by decide +kernel
theorem k52_30 : am_cd am_x 52 30 = some (.aload_n 0, 1, 0, 0, .null) := by decide +kernel
theorem k52_31 : am_cd am_x 52 31 = some (.dup, 1, 0, 0, .null) := by decide +kernel
theorem k52_32 : am_cd am_x 52 32 = some (.getfield 32, 3, 4, 2, .null) := by decide +kernel
theorem k52_35 : am_cd am_x 52 35 = some (.iconst 1, 1, 0, 0, .null) := by decide +kernel
theorem k52_36 : am_cd am_x 52 36 = some (.iadd, 1, 0, 0, .null) := by decide +kernel
theorem k52_37 : am_cd am_x 52 37 = some (.putfield 32, 3, 4, 2, .int 0) := by decide +kernel
theorem k52_40 : am_cd am_x 52 40 = some (.aload_n 1, 1, 0, 0, .null) := by decide +kernel
theorem k52_41 : am_cd am_x 52 41 = some (.iload_n 3, 1, 0, 0, .null) := by decide +kernel
theorem k52_42 : am_cd am_x 52 42 = some (.invokestatic 55, 3, 50, 0, .null) := by decide +kernel
theorem k52_45 : am_cd am_x 52 45 = some (.istore_n 3, 1, 0, 0, .null) := by decide +kernel
theorem k52_46 : am_cd am_x 52 46 = some (.iinc 4 (-1), 3, 0, 0, .null) := by decide +kernel
theorem k52_49 : am_cd am_x 52 49 = some (.goto (-34), 3, 15, 0, .null) := by decide +kernel
theorem k52_52 : am_cd am_x 52 52 = some (.return_, 1, 0, 0, .null) := by decide +kernel
theorem k53_0 : am_cd am_x 53 0 = some (.aload_n 0, 1, 0, 0, .null) := by decide +kernel
theorem k53_1 : am_cd am_x 53 1 = some (.getfield 18, 3, 4, 1, .null) := by decide +kernel
theorem k53_4 : am_cd am_x 53 4 = some (.invokevirtual 59, 3, 35, 1, .null) := by decide +kernel
theorem k53_7 : am_cd am_x 53 7 = some (.iconst 0, 1, 0, 0, .null) := by decide +kernel
theorem k53_8 : am_cd am_x 53 8 = some (.istore_n 1, 1, 0, 0, .null) := by decide +kernel
theorem k53_9 : am_cd am_x 53 9 = some (.iload_n 1, 1, 0, 0, .null) := by decide +kernel
theorem k53_10 : am_cd am_x 53 10 = some (.aload_n 0, 1, 0, 0, .null) := by decide +kernel
theorem k53_11 : am_cd am_x 53 11 = some (.getfield 32, 3, 4, 2, .null) := by decide +kernel
theorem k53_14 : am_cd am_x 53 14 = some (.if_icmp .ge 22, 3, 36, 0, .null) := by decide +kernel
theorem k53_17 : am_cd am_x 53 17 = some (.aload_n 0, 1, 0, 0, .null) := by decide +kernel
theorem k53_18 : am_cd am_x 53 18 = some (.getfield 18, 3, 4, 1, .null) := by decide +kernel
theorem k53_21 : am_cd am_x 53 21 = some (.aload_n 0, 1, 0, 0, .null) := by decide +kernel
theorem k53_22 : am_cd am_x 53 22 = some (.getfield 9, 3, 4, 0, .null) := by decide +kernel
theorem k53_25 : am_cd am_x 53 25 = some (.iload_n 1, 1, 0, 0, .null) := by decide +kernel
theorem k53_26 : am_cd am_x 53 26 = some (.iaload, 1, 0, 0, .null) := by decide +kernel
theorem k53_27 : am_cd am_x 53 27 = some (.invokevirtual 62, 3, 36, 1, .null) := by decide +kernel
theorem k53_30 : am_cd am_x 53 30 = some (.iinc 1 1, 3, 0, 0, .null) := by decide +kernel
theorem k53_33 : am_cd am_x 53 33 = some (.goto (-24), 3, 9, 0, .null) := by decide +kernel
theorem k53_36 : am_cd am_x 53 36 = some (.aload_n 0, 1, 0, 0, .null) := by decide +kernel
theorem k53_37 : am_cd am_x 53 37 = some (.getfield 32, 3, 4, 2, .null) := by decide +kernel
theorem k53_40 : am_cd am_x 53 40 = some (.aload_n 0, 1, 0, 0, .null) := by decide +kernel
theorem k53_41 : am_cd am_x 53 41 = some (.getfield 18, 3, 4, 1, .null) := by decide +kernel
theorem k53_44 : am_cd am_x 53 44 = some (.getfield 66, 3, 1, 1, .null) := by decide +kernel
theorem k53_47 : am_cd am_x 53 47 = some (.isub, 1, 0, 0, .null) := by decide +kernel
theorem k53_48 : am_cd am_x 53 48 = some (.ireturn, 1, 0, 0, .null) := by decide +kernel
theorem k54_0 : am_cd am_x 54 0 = some (.iconst 0, 1, 0, 0, .null) := by decide +kernel
theorem k54_1 : am_cd am_x 54 1 = some (.istore_n 1, 1, 0, 0, .null) := by decide +kernel
theorem k54_2 : am_cd am_x 54 2 = some (.iconst 0, 1, 0, 0, .null) := by decide +kernel
theorem k54_3 : am_cd am_x 54 3 = some (.istore_n 2, 1, 0, 0, .null) := by decide +kernel
theorem k54_4 : am_cd am_x 54 4 = some (.iload_n 2, 1, 0, 0, .null) := by decide +kernel
theorem k54_5 : am_cd am_x 54 5 = some (.aload_n 0, 1, 0, 0, .null) := by decide +kernel
theorem k54_6 : am_cd am_x 54 6 = some (.getfield 32, 3, 4, 2, .null) := by decide +kernel
theorem k54_9 : am_cd am_x 54 9 = some (.if_icmp .ge 21, 3, 30, 0, .null) := by decide +kernel
theorem k54_12 : am_cd am_x 54 12 = some (.aload_n 0, 1, 0, 0, .null) := by decide +kernel
theorem k54_13 : am_cd am_x 54 13 = some (.getfield 9, 3, 4, 0, .null) := by decide +kernel
theorem k54_16 : am_cd am_x 54 16 = some (.iload_n 2, 1, 0, 0, .null) := by decide +kernel
theorem k54_17 : am_cd am_x 54 17 = some (.iaload, 1, 0, 0, .null) := by decide +kernel
theorem k54_18 : am_cd am_x 54 18 = some (.ifCond .ne 6, 3, 24, 0, .null) := by decide +kernel
theorem k54_21 : am_cd am_x 54 21 = some (.iinc 1 1, 3, 0, 0, .null) := by decide +kernel
theorem k54_24 : am_cd am_x 54 24 = some (.iinc 2 1, 3, 0, 0, .null) := by decide +kernel
theorem k54_27 : am_cd am_x 54 27 = some (.goto (-23), 3, 4, 0, .null) := by decide +kernel
theorem k54_30 : am_cd am_x 54 30 = some (.iload_n 1, 1, 0, 0, .null) := by decide +kernel
theorem k54_31 : am_cd am_x 54 31 = some (.ireturn, 1, 0, 0, .null) := by decide +kernel
theorem k55_0 : am_cd am_x 55 0 = some (.iconst 0, 1, 0, 0, .null) := by decide +kernel
theorem k55_1 : am_cd am_x 55 1 = some (.istore_n 1, 1, 0, 0, .null) := by decide +kernel
theorem k55_2 : am_cd am_x 55 2 = some (.iconst 0, 1, 0, 0, .null) := by decide +kernel
theorem k55_3 : am_cd am_x 55 3 = some (.istore_n 2, 1, 0, 0, .null) := by decide +kernel
theorem k55_4 : am_cd am_x 55 4 = some (.iload_n 2, 1, 0, 0, .null) := by decide +kernel
theorem k55_5 : am_cd am_x 55 5 = some (.aload_n 0, 1, 0, 0, .null) := by decide +kernel
theorem k55_6 : am_cd am_x 55 6 = some (.getfield 32, 3, 4, 2, .null) := by decide +kernel
theorem k55_9 : am_cd am_x 55 9 = some (.if_icmp .ge 40, 3, 49, 0, .null) := by decide +kernel
theorem k55_12 : am_cd am_x 55 12 = some (.iconst 0, 1, 0, 0, .null) := by decide +kernel
theorem k55_13 : am_cd am_x 55 13 = some (.istore_n 3, 1, 0, 0, .null) := by decide +kernel
theorem k55_14 : am_cd am_x 55 14 = some (.iload_n 3, 1, 0, 0, .null) := by decide +kernel
theorem k55_15 : am_cd am_x 55 15 = some (.iload_n 2, 1, 0, 0, .null) := by decide +kernel
theorem k55_16 : am_cd am_x 55 16 = some (.if_icmp .ge 27, 3, 43, 0, .null) := by decide +kernel
theorem k55_19 : am_cd am_x 55 19 = some (.aload_n 0, 1, 0, 0, .null) := by decide +kernel
theorem k55_20 : am_cd am_x 55 20 = some (.getfield 9, 3, 4, 0, .null) := by decide +kernel
theorem k55_23 : am_cd am_x 55 23 = some (.iload_n 2, 1, 0, 0, .null) := by decide +kernel
theorem k55_24 : am_cd am_x 55 24 = some (.iaload, 1, 0, 0, .null) := by decide +kernel
theorem k55_25 : am_cd am_x 55 25 = some (.aload_n 0, 1, 0, 0, .null) := by decide +kernel
theorem k55_26 : am_cd am_x 55 26 = some (.getfield 9, 3, 4, 0, .null) := by decide +kernel
theorem k55_29 : am_cd am_x 55 29 = some (.iload_n 3, 1, 0, 0, .null) := by decide +kernel
theorem k55_30 : am_cd am_x 55 30 = some (.iaload, 1, 0, 0, .null) := by decide +kernel
theorem k55_31 : am_cd am_x 55 31 = some (.if_icmp .ne 6, 3, 37, 0, .null) := by decide +kernel
theorem k55_34 : am_cd am_x 55 34 = some (.iinc 1 1, 3, 0, 0, .null) := by decide +kernel
theorem k55_37 : am_cd am_x 55 37 = some (.iinc 3 1, 3, 0, 0, .null) := by decide +kernel
theorem k55_40 : am_cd am_x 55 40 = some (.goto (-26), 3, 14, 0, .null) := by decide +kernel
theorem k55_43 : am_cd am_x 55 43 = some (.iinc 2 1, 3, 0, 0, .null) := by decide +kernel
theorem k55_46 : am_cd am_x 55 46 = some (.goto (-42), 3, 4, 0, .null) := by decide +kernel
theorem k55_49 : am_cd am_x 55 49 = some (.iload_n 1, 1, 0, 0, .null) := by decide +kernel
theorem k55_50 : am_cd am_x 55 50 = some (.ireturn, 1, 0, 0, .null) := by decide +kernel
theorem k57_0 : am_cd am_x 57 0 = some (.aload_n 0, 1, 0, 0, .null) := by decide +kernel
theorem k57_1 : am_cd am_x 57 1 = some (.getfield 15, 3, 5, 1, .null) := by decide +kernel
theorem k57_4 : am_cd am_x 57 4 = some (.sipush 160, 3, 0, 0, .null) := by decide +kernel
theorem k57_7 : am_cd am_x 57 7 = some (.if_icmp .lt 5, 3, 12, 0, .null) := by decide +kernel
theorem k57_10 : am_cd am_x 57 10 = some (.iconst 0, 1, 0, 0, .null) := by decide +kernel
theorem k57_11 : am_cd am_x 57 11 = some (.ireturn, 1, 0, 0, .null) := by decide +kernel
theorem k57_12 : am_cd am_x 57 12 = some (.aload_n 0, 1, 0, 0, .null) := by decide +kernel
theorem k57_13 : am_cd am_x 57 13 = some (.getfield 9, 3, 5, 0, .null) := by decide +kernel
theorem k57_16 : am_cd am_x 57 16 = some (.aload_n 0, 1, 0, 0, .null) := by decide +kernel
theorem k57_17 : am_cd am_x 57 17 = some (.getfield 15, 3, 5, 1, .null) := by decide +kernel
theorem k57_20 : am_cd am_x 57 20 = some (.iload_n 1, 1, 0, 0, .null) := by decide +kernel
theorem k57_21 : am_cd am_x 57 21 = some (.i2b, 1, 0, 0, .null) := by decide +kernel
theorem k57_22 : am_cd am_x 57 22 = some (.bastore, 1, 0, 0, .null) := by decide +kernel
theorem k57_23 : am_cd am_x 57 23 = some (.aload_n 0, 1, 0, 0, .null) := by decide +kernel
theorem k57_24 : am_cd am_x 57 24 = some (.dup, 1, 0, 0, .null) := by decide +kernel
theorem k57_25 : am_cd am_x 57 25 = some (.getfield 15, 3, 5, 1, .null) := by decide +kernel
theorem k57_28 : am_cd am_x 57 28 = some (.iconst 1, 1, 0, 0, .null) := by decide +kernel
theorem k57_29 : am_cd am_x 57 29 = some (.iadd, 1, 0, 0, .null) := by decide +kernel
theorem k57_30 : am_cd am_x 57 30 = some (.putfield 15, 3, 5, 1, .int 0) := by decide +kernel
theorem k57_33 : am_cd am_x 57 33 = some (.iconst 1, 1, 0, 0, .null) := by decide +kernel
theorem k57_34 : am_cd am_x 57 34 = some (.ireturn, 1, 0, 0, .null) := by decide +kernel
theorem k58_0 : am_cd am_x 58 0 = some (.aload_n 0, 1, 0, 0, .null) := by decide +kernel
theorem k58_1 : am_cd am_x 58 1 = some (.iconst 0, 1, 0, 0, .null) := by decide +kernel
theorem k58_2 : am_cd am_x 58 2 = some (.putfield 19, 3, 5, 2, .int 0) := by decide +kernel
theorem k58_5 : am_cd am_x 58 5 = some (.aload_n 0, 1, 0, 0, .null) := by decide +kernel
theorem k58_6 : am_cd am_x 58 6 = some (.invokevirtual 22, 3, 59, 5, .null) := by decide +kernel
theorem k58_9 : am_cd am_x 58 9 = some (.return_, 1, 0, 0, .null) := by decide +kernel
theorem k59_0 : am_cd am_x 59 0 = some (.aload_n 0, 1, 0, 0, .null) := by decide +kernel
theorem k59_1 : am_cd am_x 59 1 = some (.aload_n 0, 1, 0, 0, .null) := by decide +kernel
theorem k59_2 : am_cd am_x 59 2 = some (.getfield 19, 3, 5, 2, .null) := by decide +kernel
theorem k59_5 : am_cd am_x 59 5 = some (.putfield 25, 3, 5, 4, .int 0) := by decide +kernel
theorem k59_8 : am_cd am_x 59 8 = some (.aload_n 0, 1, 0, 0, .null) := by decide +kernel
theorem k59_9 : am_cd am_x 59 9 = some (.getfield 25, 3, 5, 4, .null) := by decide +kernel
theorem k59_12 : am_cd am_x 59 12 = some (.aload_n 0, 1, 0, 0, .null) := by decide +kernel
theorem k59_13 : am_cd am_x 59 13 = some (.getfield 15, 3, 5, 1, .null) := by decide +kernel
theorem k59_16 : am_cd am_x 59 16 = some (.if_icmp .ge 30, 3, 46, 0, .null) := by decide +kernel
theorem k59_19 : am_cd am_x 59 19 = some (.aload_n 0, 1, 0, 0, .null) := by decide +kernel
theorem k59_20 : am_cd am_x 59 20 = some (.getfield 9, 3, 5, 0, .null) := by decide +kernel
theorem k59_23 : am_cd am_x 59 23 = some (.aload_n 0, 1, 0, 0, .null) := by decide +kernel
theorem k59_24 : am_cd am_x 59 24 = some (.getfield 25, 3, 5, 4, .null) := by decide +kernel
theorem k59_27 : am_cd am_x 59 27 = some (.baload, 1, 0, 0, .null) := by decide +kernel
theorem k59_28 : am_cd am_x 59 28 = some (.bipush 32, 2, 0, 0, .null) := by decide +kernel
theorem k59_30 : am_cd am_x 59 30 = some (.if_icmp .ne 16, 3, 46, 0, .null) := by decide +kernel
theorem k59_33 : am_cd am_x 59 33 = some (.aload_n 0, 1, 0, 0, .null) := by decide +kernel
theorem k59_34 : am_cd am_x 59 34 = some (.dup, 1, 0, 0, .null) := by decide +kernel
theorem k59_35 : am_cd am_x 59 35 = some (.getfield 25, 3, 5, 4, .null) := by decide +kernel
theorem k59_38 : am_cd am_x 59 38 = some (.iconst 1, 1, 0, 0, .null) := by decide +kernel
theorem k59_39 : am_cd am_x 59 39 = some (.iadd, 1, 0, 0, .null) := by decide +kernel
theorem k59_40 : am_cd am_x 59 40 = some (.putfield 25, 3, 5, 4, .int 0) := by decide +kernel
theorem k59_43 : am_cd am_x 59 43 = some (.goto (-35), 3, 8, 0, .null) := by decide +kernel
theorem k59_46 : am_cd am_x 59 46 = some (.aload_n 0, 1, 0, 0, .null) := by decide +kernel
theorem k59_47 : am_cd am_x 59 47 = some (.aload_n 0, 1, 0, 0, .null) := by decide +kernel
theorem k59_48 : am_cd am_x 59 48 = some (.getfield 25, 3, 5, 4, .null) := by decide +kernel
theorem k59_51 : am_cd am_x 59 51 = some (.putfield 19, 3, 5, 2, .int 0) := by decide +kernel
theorem k59_54 : am_cd am_x 59 54 = some (.aload_n 0, 1, 0, 0, .null) := by decide +kernel
theorem k59_55 : am_cd am_x 59 55 = some (.getfield 25, 3, 5, 4, .null) := by decide +kernel
theorem k59_58 : am_cd am_x 59 58 = some (.aload_n 0, 1, 0, 0, .null) := by decide +kernel
theorem k59_59 : am_cd am_x 59 59 = some (.getfield 15, 3, 5, 1, .null) := by decide +kernel
theorem k59_62 : am_cd am_x 59 62 = some (.if_icmp .lt 11, 3, 73, 0, .null) := by decide +kernel
theorem k59_65 : am_cd am_x 59 65 = some (.aload_n 0, 1, 0, 0, .null) := by decide +kernel
theorem k59_66 : am_cd am_x 59 66 = some (.iconst 4, 1, 0, 0, .null) := by decide +kernel
theorem k59_67 : am_cd am_x 59 67 = some (.putfield 28, 3, 5, 3, .int 0) := by decide +kernel
theorem k59_70 : am_cd am_x 59 70 = some (.goto 72, 3, 142, 0, .null) := by decide +kernel
theorem k59_73 : am_cd am_x 59 73 = some (.aload_n 0, 1, 0, 0, .null) := by decide +kernel
theorem k59_74 : am_cd am_x 59 74 = some (.aload_n 0, 1, 0, 0, .null) := by decide +kernel
theorem k59_75 : am_cd am_x 59 75 = some (.getfield 25, 3, 5, 4, .null) := by decide +kernel
theorem k59_78 : am_cd am_x 59 78 = some (.invokevirtual 31, 3, 60, 5, .null) := by decide +kernel
theorem k59_81 : am_cd am_x 59 81 = some (.ifCond .eq 10, 3, 91, 0, .null) := by decide +kernel
theorem k59_84 : am_cd am_x 59 84 = some (.aload_n 0, 1, 0, 0, .null) := by decide +kernel
theorem k59_85 : am_cd am_x 59 85 = some (.invokevirtual 35, 3, 62, 5, .null) := by decide +kernel
theorem k59_88 : am_cd am_x 59 88 = some (.goto 54, 3, 142, 0, .null) := by decide +kernel
theorem k59_91 : am_cd am_x 59 91 = some (.aload_n 0, 1, 0, 0, .null) := by decide +kernel
theorem k59_92 : am_cd am_x 59 92 = some (.aload_n 0, 1, 0, 0, .null) := by decide +kernel
theorem k59_93 : am_cd am_x 59 93 = some (.getfield 25, 3, 5, 4, .null) := by decide +kernel
theorem k59_96 : am_cd am_x 59 96 = some (.invokevirtual 38, 3, 61, 5, .null) := by decide +kernel
theorem k59_99 : am_cd am_x 59 99 = some (.ifCond .eq 10, 3, 109, 0, .null) := by decide +kernel
theorem k59_102 : am_cd am_x 59 102 = some (.aload_n 0, 1, 0, 0, .null) := by decide +kernel
theorem k59_103 : am_cd am_x 59 103 = some (.invokevirtual 41, 3, 63, 5, .null) := by decide +kernel
theorem k59_106 : am_cd am_x 59 106 = some (.goto 36, 3, 142, 0, .null) := by decide +kernel
theorem k59_109 : am_cd am_x 59 109 = some (.aload_n 0, 1, 0, 0, .null) := by decide +kernel
theorem k59_110 : am_cd am_x 59 110 = some (.aload_n 0, 1, 0, 0, .null) := by decide +kernel
theorem k59_111 : am_cd am_x 59 111 = some (.getfield 9, 3, 5, 0, .null) := by decide +kernel
theorem k59_114 : am_cd am_x 59 114 = some (.aload_n 0, 1, 0, 0, .null) := by decide +kernel
theorem k59_115 : am_cd am_x 59 115 = some (.getfield 25, 3, 5, 4, .null) := by decide +kernel
theorem k59_118 : am_cd am_x 59 118 = some (.baload, 1, 0, 0, .null) := by decide +kernel
theorem k59_119 : am_cd am_x 59 119 = some (.bipush 59, 2, 0, 0, .null) := by decide +kernel
theorem k59_121 : am_cd am_x 59 121 = some (.if_icmp .ne 7, 3, 128, 0, .null) := by decide +kernel
theorem k59_124 : am_cd am_x 59 124 = some (.iconst 3, 1, 0, 0, .null) := by decide +kernel
theorem k59_125 : am_cd am_x 59 125 = some (.goto 4, 3, 129, 0, .null) := by decide +kernel
theorem k59_128 : am_cd am_x 59 128 = some (.iconst 0, 1, 0, 0, .null) := by decide +kernel
theorem k59_129 : am_cd am_x 59 129 = some (.putfield 28, 3, 5, 3, .int 0) := by decide +kernel
theorem k59_132 : am_cd am_x 59 132 = some (.aload_n 0, 1, 0, 0, .null) := by decide +kernel
theorem k59_133 : am_cd am_x 59 133 = some (.aload_n 0, 1, 0, 0, .null) := by decide +kernel
theorem k59_134 : am_cd am_x 59 134 = some (.getfield 25, 3, 5, 4, .null) := by decide +kernel
theorem k59_137 : am_cd am_x 59 137 = some (.iconst 1, 1, 0, 0, .null) := by decide +kernel
theorem k59_138 : am_cd am_x 59 138 = some (.iadd, 1, 0, 0, .null) := by decide +kernel
theorem k59_139 : am_cd am_x 59 139 = some (.putfield 19, 3, 5, 2, .int 0) := by decide +kernel
theorem k59_142 : am_cd am_x 59 142 = some (.return_, 1, 0, 0, .null) := by decide +kernel
