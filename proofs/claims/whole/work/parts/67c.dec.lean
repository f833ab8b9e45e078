theorem d_law_256 : decode code 256 = .ok (.iconst 1, 1) := by decide +kernel
theorem d_law_257 : decode code 257 = .ok (.iadd, 1) := by decide +kernel
theorem d_law_258 : decode code 258 = .ok (.iaload, 1) := by decide +kernel
theorem d_law_259 : decode code 259 = .ok (.aload_n 3, 1) := by decide +kernel
theorem d_law_260 : decode code 260 = .ok (.invokestatic 73, 3) := by decide +kernel
theorem d_law_263 : decode code 263 = .ok (.istore 5, 2) := by decide +kernel
theorem d_law_265 : decode code 265 = .ok (.aload_n 2, 1) := by decide +kernel
theorem d_law_266 : decode code 266 = .ok (.aload_n 0, 1) := by decide +kernel
theorem d_law_267 : decode code 267 = .ok (.iload 4, 2) := by decide +kernel
theorem d_law_269 : decode code 269 = .ok (.iconst 1, 1) := by decide +kernel
theorem d_law_270 : decode code 270 = .ok (.iadd, 1) := by decide +kernel
theorem d_law_271 : decode code 271 = .ok (.iaload, 1) := by decide +kernel
theorem d_law_272 : decode code 272 = .ok (.invokevirtual 76, 3) := by decide +kernel
theorem d_law_275 : decode code 275 = .ok (.istore 6, 2) := by decide +kernel
theorem d_law_277 : decode code 277 = .ok (.aload_n 2, 1) := by decide +kernel
theorem d_law_278 : decode code 278 = .ok (.invokevirtual 65, 3) := by decide +kernel
theorem d_law_281 : decode code 281 = .ok (.iload 5, 2) := by decide +kernel
theorem d_law_283 : decode code 283 = .ok (.if_icmp .eq 5, 3) := by decide +kernel
theorem d_law_288 : decode code 288 = .ok (.iload 5, 2) := by decide +kernel
theorem d_law_290 : decode code 290 = .ok (.ifCond .ne 15, 3) := by decide +kernel
theorem d_law_293 : decode code 293 = .ok (.aload_n 3, 1) := by decide +kernel
theorem d_law_294 : decode code 294 = .ok (.iconst 0, 1) := by decide +kernel
theorem d_law_295 : decode code 295 = .ok (.laload, 1) := by decide +kernel
theorem d_law_296 : decode code 296 = .ok (.iload 6, 2) := by decide +kernel
theorem d_law_298 : decode code 298 = .ok (.i2l, 1) := by decide +kernel
theorem d_law_299 : decode code 299 = .ok (.lcmp, 1) := by decide +kernel
theorem d_law_300 : decode code 300 = .ok (.ifCond .eq 5, 3) := by decide +kernel
theorem d_law_305 : decode code 305 = .ok (.goto 542, 3) := by decide +kernel
theorem d_law_308 : decode code 308 = .ok (.aload_n 1, 1) := by decide +kernel
theorem d_law_309 : decode code 309 = .ok (.aload_n 0, 1) := by decide +kernel
theorem d_law_310 : decode code 310 = .ok (.iload 4, 2) := by decide +kernel
theorem d_law_312 : decode code 312 = .ok (.iconst 1, 1) := by decide +kernel
theorem d_law_313 : decode code 313 = .ok (.iadd, 1) := by decide +kernel
theorem d_law_314 : decode code 314 = .ok (.iaload, 1) := by decide +kernel
theorem d_law_315 : decode code 315 = .ok (.aload_n 0, 1) := by decide +kernel
theorem d_law_316 : decode code 316 = .ok (.iload 4, 2) := by decide +kernel
theorem d_law_318 : decode code 318 = .ok (.iconst 2, 1) := by decide +kernel
theorem d_law_319 : decode code 319 = .ok (.iadd, 1) := by decide +kernel
theorem d_law_320 : decode code 320 = .ok (.iaload, 1) := by decide +kernel
theorem d_law_321 : decode code 321 = .ok (.aload_n 0, 1) := by decide +kernel
theorem d_law_322 : decode code 322 = .ok (.iload 4, 2) := by decide +kernel
theorem d_law_324 : decode code 324 = .ok (.iconst 3, 1) := by decide +kernel
theorem d_law_325 : decode code 325 = .ok (.iadd, 1) := by decide +kernel
theorem d_law_326 : decode code 326 = .ok (.iaload, 1) := by decide +kernel
theorem d_law_327 : decode code 327 = .ok (.aload_n 0, 1) := by decide +kernel
theorem d_law_328 : decode code 328 = .ok (.iload 4, 2) := by decide +kernel
theorem d_law_330 : decode code 330 = .ok (.iconst 4, 1) := by decide +kernel
theorem d_law_331 : decode code 331 = .ok (.iadd, 1) := by decide +kernel
theorem d_law_332 : decode code 332 = .ok (.iaload, 1) := by decide +kernel
theorem d_law_333 : decode code 333 = .ok (.aload_n 0, 1) := by decide +kernel
theorem d_law_334 : decode code 334 = .ok (.iload 4, 2) := by decide +kernel
theorem d_law_336 : decode code 336 = .ok (.iconst 5, 1) := by decide +kernel
theorem d_law_337 : decode code 337 = .ok (.iadd, 1) := by decide +kernel
theorem d_law_338 : decode code 338 = .ok (.iaload, 1) := by decide +kernel
theorem d_law_339 : decode code 339 = .ok (.aload_n 3, 1) := by decide +kernel
theorem d_law_340 : decode code 340 = .ok (.invokestatic 77, 3) := by decide +kernel
theorem d_law_343 : decode code 343 = .ok (.istore 5, 2) := by decide +kernel
theorem d_law_345 : decode code 345 = .ok (.aload_n 2, 1) := by decide +kernel
theorem d_law_346 : decode code 346 = .ok (.aload_n 0, 1) := by decide +kernel
theorem d_law_347 : decode code 347 = .ok (.iload 4, 2) := by decide +kernel
