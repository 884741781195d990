/-! ===== the law (laid by gen/lawgen.py) ===== -/
theorem dL_law_0 : decode cL_law 0 = .ok (.new 7, 3) := by decide +kernel
theorem dL_law_3 : decode cL_law 3 = .ok (.dup, 1) := by decide +kernel
theorem dL_law_4 : decode cL_law 4 = .ok (.invokespecial 9, 3) := by decide +kernel
theorem dL_law_7 : decode cL_law 7 = .ok (.astore_n 1, 1) := by decide +kernel
theorem dL_law_8 : decode cL_law 8 = .ok (.new 10, 3) := by decide +kernel
theorem dL_law_11 : decode cL_law 11 = .ok (.dup, 1) := by decide +kernel
theorem dL_law_12 : decode cL_law 12 = .ok (.invokespecial 12, 3) := by decide +kernel
theorem dL_law_15 : decode cL_law 15 = .ok (.astore_n 2, 1) := by decide +kernel
theorem dL_law_16 : decode cL_law 16 = .ok (.iconst 0, 1) := by decide +kernel
theorem dL_law_17 : decode cL_law 17 = .ok (.istore_n 3, 1) := by decide +kernel
theorem dL_law_18 : decode cL_law 18 = .ok (.iload_n 3, 1) := by decide +kernel
theorem dL_law_19 : decode cL_law 19 = .ok (.aload_n 0, 1) := by decide +kernel
theorem dL_law_20 : decode cL_law 20 = .ok (.arraylength, 1) := by decide +kernel
theorem dL_law_21 : decode cL_law 21 = .ok (.bipush 8, 2) := by decide +kernel
theorem dL_law_23 : decode cL_law 23 = .ok (.isub, 1) := by decide +kernel
theorem dL_law_24 : decode cL_law 24 = .ok (.if_icmp .gt 1293, 3) := by decide +kernel
theorem dL_law_27 : decode cL_law 27 = .ok (.aload_n 0, 1) := by decide +kernel
theorem dL_law_28 : decode cL_law 28 = .ok (.iload_n 3, 1) := by decide +kernel
theorem dL_law_29 : decode cL_law 29 = .ok (.iaload, 1) := by decide +kernel
theorem dL_law_30 : decode cL_law 30 = .ok (.bipush 63, 2) := by decide +kernel
theorem dL_law_32 : decode cL_law 32 = .ok (.iand, 1) := by decide +kernel
theorem dL_law_33 : decode cL_law 33 = .ok (.tableswitch 1278 0 33 #[151, 204, 247, 290, 333, 366, 419, 462, 549, 592, 625, 648, 691, 724, 737, 760, 783, 806, 829, 852, 875, 888, 921, 954, 977, 1001, 1034, 1077, 1110, 1133, 1156, 1189, 1212, 1245], 151) := by decide +kernel
theorem dL_law_184 : decode cL_law 184 = .ok (.aload_n 1, 1) := by decide +kernel
theorem dL_law_185 : decode cL_law 185 = .ok (.aload_n 0, 1) := by decide +kernel
theorem dL_law_186 : decode cL_law 186 = .ok (.iload_n 3, 1) := by decide +kernel
theorem dL_law_187 : decode cL_law 187 = .ok (.iconst 1, 1) := by decide +kernel
theorem dL_law_188 : decode cL_law 188 = .ok (.iadd, 1) := by decide +kernel
theorem dL_law_189 : decode cL_law 189 = .ok (.iaload, 1) := by decide +kernel
theorem dL_law_190 : decode cL_law 190 = .ok (.aload_n 0, 1) := by decide +kernel
theorem dL_law_191 : decode cL_law 191 = .ok (.iload_n 3, 1) := by decide +kernel
theorem dL_law_192 : decode cL_law 192 = .ok (.iconst 2, 1) := by decide +kernel
theorem dL_law_193 : decode cL_law 193 = .ok (.iadd, 1) := by decide +kernel
theorem dL_law_194 : decode cL_law 194 = .ok (.iaload, 1) := by decide +kernel
theorem dL_law_195 : decode cL_law 195 = .ok (.aload_n 0, 1) := by decide +kernel
theorem dL_law_196 : decode cL_law 196 = .ok (.iload_n 3, 1) := by decide +kernel
theorem dL_law_197 : decode cL_law 197 = .ok (.iconst 3, 1) := by decide +kernel
theorem dL_law_198 : decode cL_law 198 = .ok (.iadd, 1) := by decide +kernel
theorem dL_law_199 : decode cL_law 199 = .ok (.iaload, 1) := by decide +kernel
theorem dL_law_200 : decode cL_law 200 = .ok (.aload_n 0, 1) := by decide +kernel
theorem dL_law_201 : decode cL_law 201 = .ok (.iload_n 3, 1) := by decide +kernel
theorem dL_law_202 : decode cL_law 202 = .ok (.iconst 4, 1) := by decide +kernel
theorem dL_law_203 : decode cL_law 203 = .ok (.iadd, 1) := by decide +kernel
theorem dL_law_204 : decode cL_law 204 = .ok (.iaload, 1) := by decide +kernel
theorem dL_law_205 : decode cL_law 205 = .ok (.invokevirtual 13, 3) := by decide +kernel
theorem dL_law_208 : decode cL_law 208 = .ok (.aload_n 2, 1) := by decide +kernel
theorem dL_law_209 : decode cL_law 209 = .ok (.aload_n 0, 1) := by decide +kernel
theorem dL_law_210 : decode cL_law 210 = .ok (.iload_n 3, 1) := by decide +kernel
theorem dL_law_211 : decode cL_law 211 = .ok (.iconst 1, 1) := by decide +kernel
theorem dL_law_212 : decode cL_law 212 = .ok (.iadd, 1) := by decide +kernel
theorem dL_law_213 : decode cL_law 213 = .ok (.iaload, 1) := by decide +kernel
theorem dL_law_214 : decode cL_law 214 = .ok (.aload_n 0, 1) := by decide +kernel
theorem dL_law_215 : decode cL_law 215 = .ok (.iload_n 3, 1) := by decide +kernel
theorem dL_law_216 : decode cL_law 216 = .ok (.iconst 2, 1) := by decide +kernel
theorem dL_law_217 : decode cL_law 217 = .ok (.iadd, 1) := by decide +kernel
theorem dL_law_218 : decode cL_law 218 = .ok (.iaload, 1) := by decide +kernel
theorem dL_law_219 : decode cL_law 219 = .ok (.aload_n 0, 1) := by decide +kernel
theorem dL_law_220 : decode cL_law 220 = .ok (.iload_n 3, 1) := by decide +kernel
theorem dL_law_221 : decode cL_law 221 = .ok (.iconst 3, 1) := by decide +kernel
theorem dL_law_222 : decode cL_law 222 = .ok (.iadd, 1) := by decide +kernel
theorem dL_law_223 : decode cL_law 223 = .ok (.iaload, 1) := by decide +kernel
theorem dL_law_224 : decode cL_law 224 = .ok (.aload_n 0, 1) := by decide +kernel
theorem dL_law_225 : decode cL_law 225 = .ok (.iload_n 3, 1) := by decide +kernel
theorem dL_law_226 : decode cL_law 226 = .ok (.iconst 4, 1) := by decide +kernel
theorem dL_law_227 : decode cL_law 227 = .ok (.iadd, 1) := by decide +kernel
theorem dL_law_228 : decode cL_law 228 = .ok (.iaload, 1) := by decide +kernel
theorem dL_law_229 : decode cL_law 229 = .ok (.invokevirtual 17, 3) := by decide +kernel
theorem dL_law_232 : decode cL_law 232 = .ok (.if_icmp .eq 1079, 3) := by decide +kernel
theorem dL_law_235 : decode cL_law 235 = .ok (.iconst 0, 1) := by decide +kernel
theorem dL_law_236 : decode cL_law 236 = .ok (.ireturn, 1) := by decide +kernel
theorem dL_law_237 : decode cL_law 237 = .ok (.aload_n 1, 1) := by decide +kernel
theorem dL_law_238 : decode cL_law 238 = .ok (.aload_n 0, 1) := by decide +kernel
theorem dL_law_239 : decode cL_law 239 = .ok (.iload_n 3, 1) := by decide +kernel
theorem dL_law_240 : decode cL_law 240 = .ok (.iconst 1, 1) := by decide +kernel
theorem dL_law_241 : decode cL_law 241 = .ok (.iadd, 1) := by decide +kernel
theorem dL_law_242 : decode cL_law 242 = .ok (.iaload, 1) := by decide +kernel
theorem dL_law_243 : decode cL_law 243 = .ok (.aload_n 0, 1) := by decide +kernel
theorem dL_law_244 : decode cL_law 244 = .ok (.iload_n 3, 1) := by decide +kernel
theorem dL_law_245 : decode cL_law 245 = .ok (.iconst 2, 1) := by decide +kernel
theorem dL_law_246 : decode cL_law 246 = .ok (.iadd, 1) := by decide +kernel
theorem dL_law_247 : decode cL_law 247 = .ok (.iaload, 1) := by decide +kernel
theorem dL_law_248 : decode cL_law 248 = .ok (.aload_n 0, 1) := by decide +kernel
theorem dL_law_249 : decode cL_law 249 = .ok (.iload_n 3, 1) := by decide +kernel
theorem dL_law_250 : decode cL_law 250 = .ok (.iconst 3, 1) := by decide +kernel
theorem dL_law_251 : decode cL_law 251 = .ok (.iadd, 1) := by decide +kernel
theorem dL_law_252 : decode cL_law 252 = .ok (.iaload, 1) := by decide +kernel
theorem dL_law_253 : decode cL_law 253 = .ok (.invokevirtual 18, 3) := by decide +kernel
theorem dL_law_256 : decode cL_law 256 = .ok (.aload_n 2, 1) := by decide +kernel
theorem dL_law_257 : decode cL_law 257 = .ok (.aload_n 0, 1) := by decide +kernel
theorem dL_law_258 : decode cL_law 258 = .ok (.iload_n 3, 1) := by decide +kernel
theorem dL_law_259 : decode cL_law 259 = .ok (.iconst 1, 1) := by decide +kernel
theorem dL_law_260 : decode cL_law 260 = .ok (.iadd, 1) := by decide +kernel
theorem dL_law_261 : decode cL_law 261 = .ok (.iaload, 1) := by decide +kernel
theorem dL_law_262 : decode cL_law 262 = .ok (.aload_n 0, 1) := by decide +kernel
theorem dL_law_263 : decode cL_law 263 = .ok (.iload_n 3, 1) := by decide +kernel
theorem dL_law_264 : decode cL_law 264 = .ok (.iconst 2, 1) := by decide +kernel
theorem dL_law_265 : decode cL_law 265 = .ok (.iadd, 1) := by decide +kernel
theorem dL_law_266 : decode cL_law 266 = .ok (.iaload, 1) := by decide +kernel
theorem dL_law_267 : decode cL_law 267 = .ok (.aload_n 0, 1) := by decide +kernel
theorem dL_law_268 : decode cL_law 268 = .ok (.iload_n 3, 1) := by decide +kernel
theorem dL_law_269 : decode cL_law 269 = .ok (.iconst 3, 1) := by decide +kernel
theorem dL_law_270 : decode cL_law 270 = .ok (.iadd, 1) := by decide +kernel
theorem dL_law_271 : decode cL_law 271 = .ok (.iaload, 1) := by decide +kernel
theorem dL_law_272 : decode cL_law 272 = .ok (.invokevirtual 22, 3) := by decide +kernel
theorem dL_law_275 : decode cL_law 275 = .ok (.if_icmp .eq 1036, 3) := by decide +kernel
theorem dL_law_278 : decode cL_law 278 = .ok (.iconst 0, 1) := by decide +kernel
theorem dL_law_279 : decode cL_law 279 = .ok (.ireturn, 1) := by decide +kernel
theorem dL_law_280 : decode cL_law 280 = .ok (.aload_n 1, 1) := by decide +kernel
theorem dL_law_281 : decode cL_law 281 = .ok (.aload_n 0, 1) := by decide +kernel
theorem dL_law_282 : decode cL_law 282 = .ok (.iload_n 3, 1) := by decide +kernel
theorem dL_law_283 : decode cL_law 283 = .ok (.iconst 1, 1) := by decide +kernel
theorem dL_law_284 : decode cL_law 284 = .ok (.iadd, 1) := by decide +kernel
theorem dL_law_285 : decode cL_law 285 = .ok (.iaload, 1) := by decide +kernel
theorem dL_law_286 : decode cL_law 286 = .ok (.aload_n 0, 1) := by decide +kernel
theorem dL_law_287 : decode cL_law 287 = .ok (.iload_n 3, 1) := by decide +kernel
theorem dL_law_288 : decode cL_law 288 = .ok (.iconst 2, 1) := by decide +kernel
theorem dL_law_289 : decode cL_law 289 = .ok (.iadd, 1) := by decide +kernel
theorem dL_law_290 : decode cL_law 290 = .ok (.iaload, 1) := by decide +kernel
theorem dL_law_291 : decode cL_law 291 = .ok (.aload_n 0, 1) := by decide +kernel
theorem dL_law_292 : decode cL_law 292 = .ok (.iload_n 3, 1) := by decide +kernel
theorem dL_law_293 : decode cL_law 293 = .ok (.iconst 3, 1) := by decide +kernel
theorem dL_law_294 : decode cL_law 294 = .ok (.iadd, 1) := by decide +kernel
theorem dL_law_295 : decode cL_law 295 = .ok (.iaload, 1) := by decide +kernel
theorem dL_law_296 : decode cL_law 296 = .ok (.invokevirtual 23, 3) := by decide +kernel
theorem dL_law_299 : decode cL_law 299 = .ok (.aload_n 2, 1) := by decide +kernel
theorem dL_law_300 : decode cL_law 300 = .ok (.aload_n 0, 1) := by decide +kernel
theorem dL_law_301 : decode cL_law 301 = .ok (.iload_n 3, 1) := by decide +kernel
theorem dL_law_302 : decode cL_law 302 = .ok (.iconst 1, 1) := by decide +kernel
theorem dL_law_303 : decode cL_law 303 = .ok (.iadd, 1) := by decide +kernel
theorem dL_law_304 : decode cL_law 304 = .ok (.iaload, 1) := by decide +kernel
theorem dL_law_305 : decode cL_law 305 = .ok (.aload_n 0, 1) := by decide +kernel
theorem dL_law_306 : decode cL_law 306 = .ok (.iload_n 3, 1) := by decide +kernel
theorem dL_law_307 : decode cL_law 307 = .ok (.iconst 2, 1) := by decide +kernel
theorem dL_law_308 : decode cL_law 308 = .ok (.iadd, 1) := by decide +kernel
theorem dL_law_309 : decode cL_law 309 = .ok (.iaload, 1) := by decide +kernel
theorem dL_law_310 : decode cL_law 310 = .ok (.aload_n 0, 1) := by decide +kernel
theorem dL_law_311 : decode cL_law 311 = .ok (.iload_n 3, 1) := by decide +kernel
theorem dL_law_312 : decode cL_law 312 = .ok (.iconst 3, 1) := by decide +kernel
theorem dL_law_313 : decode cL_law 313 = .ok (.iadd, 1) := by decide +kernel
theorem dL_law_314 : decode cL_law 314 = .ok (.iaload, 1) := by decide +kernel
theorem dL_law_315 : decode cL_law 315 = .ok (.invokevirtual 26, 3) := by decide +kernel
theorem dL_law_318 : decode cL_law 318 = .ok (.if_icmp .eq 993, 3) := by decide +kernel
theorem dL_law_321 : decode cL_law 321 = .ok (.iconst 0, 1) := by decide +kernel
theorem dL_law_322 : decode cL_law 322 = .ok (.ireturn, 1) := by decide +kernel
theorem dL_law_323 : decode cL_law 323 = .ok (.aload_n 1, 1) := by decide +kernel
theorem dL_law_324 : decode cL_law 324 = .ok (.aload_n 0, 1) := by decide +kernel
theorem dL_law_325 : decode cL_law 325 = .ok (.iload_n 3, 1) := by decide +kernel
theorem dL_law_326 : decode cL_law 326 = .ok (.iconst 1, 1) := by decide +kernel
theorem dL_law_327 : decode cL_law 327 = .ok (.iadd, 1) := by decide +kernel
theorem dL_law_328 : decode cL_law 328 = .ok (.iaload, 1) := by decide +kernel
theorem dL_law_329 : decode cL_law 329 = .ok (.aload_n 0, 1) := by decide +kernel
theorem dL_law_330 : decode cL_law 330 = .ok (.iload_n 3, 1) := by decide +kernel
theorem dL_law_331 : decode cL_law 331 = .ok (.iconst 2, 1) := by decide +kernel
theorem dL_law_332 : decode cL_law 332 = .ok (.iadd, 1) := by decide +kernel
theorem dL_law_333 : decode cL_law 333 = .ok (.iaload, 1) := by decide +kernel
theorem dL_law_334 : decode cL_law 334 = .ok (.aload_n 0, 1) := by decide +kernel
theorem dL_law_335 : decode cL_law 335 = .ok (.iload_n 3, 1) := by decide +kernel
theorem dL_law_336 : decode cL_law 336 = .ok (.iconst 3, 1) := by decide +kernel
theorem dL_law_337 : decode cL_law 337 = .ok (.iadd, 1) := by decide +kernel
theorem dL_law_338 : decode cL_law 338 = .ok (.iaload, 1) := by decide +kernel
theorem dL_law_339 : decode cL_law 339 = .ok (.invokevirtual 27, 3) := by decide +kernel
theorem dL_law_342 : decode cL_law 342 = .ok (.aload_n 2, 1) := by decide +kernel
theorem dL_law_343 : decode cL_law 343 = .ok (.aload_n 0, 1) := by decide +kernel
theorem dL_law_344 : decode cL_law 344 = .ok (.iload_n 3, 1) := by decide +kernel
theorem dL_law_345 : decode cL_law 345 = .ok (.iconst 1, 1) := by decide +kernel
theorem dL_law_346 : decode cL_law 346 = .ok (.iadd, 1) := by decide +kernel
theorem dL_law_347 : decode cL_law 347 = .ok (.iaload, 1) := by decide +kernel
theorem dL_law_348 : decode cL_law 348 = .ok (.aload_n 0, 1) := by decide +kernel
theorem dL_law_349 : decode cL_law 349 = .ok (.iload_n 3, 1) := by decide +kernel
theorem dL_law_350 : decode cL_law 350 = .ok (.iconst 2, 1) := by decide +kernel
theorem dL_law_351 : decode cL_law 351 = .ok (.iadd, 1) := by decide +kernel
theorem dL_law_352 : decode cL_law 352 = .ok (.iaload, 1) := by decide +kernel
theorem dL_law_353 : decode cL_law 353 = .ok (.aload_n 0, 1) := by decide +kernel
theorem dL_law_354 : decode cL_law 354 = .ok (.iload_n 3, 1) := by decide +kernel
theorem dL_law_355 : decode cL_law 355 = .ok (.iconst 3, 1) := by decide +kernel
theorem dL_law_356 : decode cL_law 356 = .ok (.iadd, 1) := by decide +kernel
theorem dL_law_357 : decode cL_law 357 = .ok (.iaload, 1) := by decide +kernel
theorem dL_law_358 : decode cL_law 358 = .ok (.invokevirtual 30, 3) := by decide +kernel
theorem dL_law_361 : decode cL_law 361 = .ok (.if_icmp .eq 950, 3) := by decide +kernel
theorem dL_law_364 : decode cL_law 364 = .ok (.iconst 0, 1) := by decide +kernel
theorem dL_law_365 : decode cL_law 365 = .ok (.ireturn, 1) := by decide +kernel
theorem dL_law_366 : decode cL_law 366 = .ok (.aload_n 1, 1) := by decide +kernel
theorem dL_law_367 : decode cL_law 367 = .ok (.aload_n 0, 1) := by decide +kernel
theorem dL_law_368 : decode cL_law 368 = .ok (.iload_n 3, 1) := by decide +kernel
theorem dL_law_369 : decode cL_law 369 = .ok (.iconst 1, 1) := by decide +kernel
theorem dL_law_370 : decode cL_law 370 = .ok (.iadd, 1) := by decide +kernel
theorem dL_law_371 : decode cL_law 371 = .ok (.iaload, 1) := by decide +kernel
theorem dL_law_372 : decode cL_law 372 = .ok (.aload_n 0, 1) := by decide +kernel
theorem dL_law_373 : decode cL_law 373 = .ok (.iload_n 3, 1) := by decide +kernel
theorem dL_law_374 : decode cL_law 374 = .ok (.iconst 2, 1) := by decide +kernel
theorem dL_law_375 : decode cL_law 375 = .ok (.iadd, 1) := by decide +kernel
theorem dL_law_376 : decode cL_law 376 = .ok (.iaload, 1) := by decide +kernel
theorem dL_law_377 : decode cL_law 377 = .ok (.invokevirtual 31, 3) := by decide +kernel
theorem dL_law_380 : decode cL_law 380 = .ok (.aload_n 2, 1) := by decide +kernel
theorem dL_law_381 : decode cL_law 381 = .ok (.aload_n 0, 1) := by decide +kernel
theorem dL_law_382 : decode cL_law 382 = .ok (.iload_n 3, 1) := by decide +kernel
theorem dL_law_383 : decode cL_law 383 = .ok (.iconst 1, 1) := by decide +kernel
theorem dL_law_384 : decode cL_law 384 = .ok (.iadd, 1) := by decide +kernel
theorem dL_law_385 : decode cL_law 385 = .ok (.iaload, 1) := by decide +kernel
theorem dL_law_386 : decode cL_law 386 = .ok (.aload_n 0, 1) := by decide +kernel
theorem dL_law_387 : decode cL_law 387 = .ok (.iload_n 3, 1) := by decide +kernel
theorem dL_law_388 : decode cL_law 388 = .ok (.iconst 2, 1) := by decide +kernel
theorem dL_law_389 : decode cL_law 389 = .ok (.iadd, 1) := by decide +kernel
theorem dL_law_390 : decode cL_law 390 = .ok (.iaload, 1) := by decide +kernel
theorem dL_law_391 : decode cL_law 391 = .ok (.invokevirtual 35, 3) := by decide +kernel
theorem dL_law_394 : decode cL_law 394 = .ok (.if_icmp .eq 917, 3) := by decide +kernel
theorem dL_law_397 : decode cL_law 397 = .ok (.iconst 0, 1) := by decide +kernel
theorem dL_law_398 : decode cL_law 398 = .ok (.ireturn, 1) := by decide +kernel
theorem dL_law_399 : decode cL_law 399 = .ok (.aload_n 1, 1) := by decide +kernel
theorem dL_law_400 : decode cL_law 400 = .ok (.aload_n 0, 1) := by decide +kernel
theorem dL_law_401 : decode cL_law 401 = .ok (.iload_n 3, 1) := by decide +kernel
theorem dL_law_402 : decode cL_law 402 = .ok (.iconst 1, 1) := by decide +kernel
theorem dL_law_403 : decode cL_law 403 = .ok (.iadd, 1) := by decide +kernel
theorem dL_law_404 : decode cL_law 404 = .ok (.iaload, 1) := by decide +kernel
theorem dL_law_405 : decode cL_law 405 = .ok (.aload_n 0, 1) := by decide +kernel
theorem dL_law_406 : decode cL_law 406 = .ok (.iload_n 3, 1) := by decide +kernel
theorem dL_law_407 : decode cL_law 407 = .ok (.iconst 2, 1) := by decide +kernel
theorem dL_law_408 : decode cL_law 408 = .ok (.iadd, 1) := by decide +kernel
theorem dL_law_409 : decode cL_law 409 = .ok (.iaload, 1) := by decide +kernel
theorem dL_law_410 : decode cL_law 410 = .ok (.aload_n 0, 1) := by decide +kernel
theorem dL_law_411 : decode cL_law 411 = .ok (.iload_n 3, 1) := by decide +kernel
theorem dL_law_412 : decode cL_law 412 = .ok (.iconst 3, 1) := by decide +kernel
theorem dL_law_413 : decode cL_law 413 = .ok (.iadd, 1) := by decide +kernel
theorem dL_law_414 : decode cL_law 414 = .ok (.iaload, 1) := by decide +kernel
theorem dL_law_415 : decode cL_law 415 = .ok (.aload_n 0, 1) := by decide +kernel
theorem dL_law_416 : decode cL_law 416 = .ok (.iload_n 3, 1) := by decide +kernel
theorem dL_law_417 : decode cL_law 417 = .ok (.iconst 4, 1) := by decide +kernel
theorem dL_law_418 : decode cL_law 418 = .ok (.iadd, 1) := by decide +kernel
theorem dL_law_419 : decode cL_law 419 = .ok (.iaload, 1) := by decide +kernel
theorem dL_law_420 : decode cL_law 420 = .ok (.invokevirtual 36, 3) := by decide +kernel
theorem dL_law_423 : decode cL_law 423 = .ok (.aload_n 2, 1) := by decide +kernel
theorem dL_law_424 : decode cL_law 424 = .ok (.aload_n 0, 1) := by decide +kernel
theorem dL_law_425 : decode cL_law 425 = .ok (.iload_n 3, 1) := by decide +kernel
theorem dL_law_426 : decode cL_law 426 = .ok (.iconst 1, 1) := by decide +kernel
theorem dL_law_427 : decode cL_law 427 = .ok (.iadd, 1) := by decide +kernel
theorem dL_law_428 : decode cL_law 428 = .ok (.iaload, 1) := by decide +kernel
theorem dL_law_429 : decode cL_law 429 = .ok (.aload_n 0, 1) := by decide +kernel
theorem dL_law_430 : decode cL_law 430 = .ok (.iload_n 3, 1) := by decide +kernel
theorem dL_law_431 : decode cL_law 431 = .ok (.iconst 2, 1) := by decide +kernel
theorem dL_law_432 : decode cL_law 432 = .ok (.iadd, 1) := by decide +kernel
theorem dL_law_433 : decode cL_law 433 = .ok (.iaload, 1) := by decide +kernel
theorem dL_law_434 : decode cL_law 434 = .ok (.aload_n 0, 1) := by decide +kernel
theorem dL_law_435 : decode cL_law 435 = .ok (.iload_n 3, 1) := by decide +kernel
theorem dL_law_436 : decode cL_law 436 = .ok (.iconst 3, 1) := by decide +kernel
theorem dL_law_437 : decode cL_law 437 = .ok (.iadd, 1) := by decide +kernel
theorem dL_law_438 : decode cL_law 438 = .ok (.iaload, 1) := by decide +kernel
theorem dL_law_439 : decode cL_law 439 = .ok (.aload_n 0, 1) := by decide +kernel
theorem dL_law_440 : decode cL_law 440 = .ok (.iload_n 3, 1) := by decide +kernel
theorem dL_law_441 : decode cL_law 441 = .ok (.iconst 4, 1) := by decide +kernel
theorem dL_law_442 : decode cL_law 442 = .ok (.iadd, 1) := by decide +kernel
theorem dL_law_443 : decode cL_law 443 = .ok (.iaload, 1) := by decide +kernel
theorem dL_law_444 : decode cL_law 444 = .ok (.invokevirtual 39, 3) := by decide +kernel
theorem dL_law_447 : decode cL_law 447 = .ok (.if_icmp .eq 864, 3) := by decide +kernel
theorem dL_law_450 : decode cL_law 450 = .ok (.iconst 0, 1) := by decide +kernel
theorem dL_law_451 : decode cL_law 451 = .ok (.ireturn, 1) := by decide +kernel
theorem dL_law_452 : decode cL_law 452 = .ok (.aload_n 1, 1) := by decide +kernel
theorem dL_law_453 : decode cL_law 453 = .ok (.aload_n 0, 1) := by decide +kernel
theorem dL_law_454 : decode cL_law 454 = .ok (.iload_n 3, 1) := by decide +kernel
theorem dL_law_455 : decode cL_law 455 = .ok (.iconst 1, 1) := by decide +kernel
theorem dL_law_456 : decode cL_law 456 = .ok (.iadd, 1) := by decide +kernel
theorem dL_law_457 : decode cL_law 457 = .ok (.iaload, 1) := by decide +kernel
theorem dL_law_458 : decode cL_law 458 = .ok (.aload_n 0, 1) := by decide +kernel
theorem dL_law_459 : decode cL_law 459 = .ok (.iload_n 3, 1) := by decide +kernel
theorem dL_law_460 : decode cL_law 460 = .ok (.iconst 2, 1) := by decide +kernel
theorem dL_law_461 : decode cL_law 461 = .ok (.iadd, 1) := by decide +kernel
theorem dL_law_462 : decode cL_law 462 = .ok (.iaload, 1) := by decide +kernel
theorem dL_law_463 : decode cL_law 463 = .ok (.aload_n 0, 1) := by decide +kernel
theorem dL_law_464 : decode cL_law 464 = .ok (.iload_n 3, 1) := by decide +kernel
theorem dL_law_465 : decode cL_law 465 = .ok (.iconst 3, 1) := by decide +kernel
theorem dL_law_466 : decode cL_law 466 = .ok (.iadd, 1) := by decide +kernel
theorem dL_law_467 : decode cL_law 467 = .ok (.iaload, 1) := by decide +kernel
theorem dL_law_468 : decode cL_law 468 = .ok (.invokevirtual 40, 3) := by decide +kernel
theorem dL_law_471 : decode cL_law 471 = .ok (.aload_n 2, 1) := by decide +kernel
theorem dL_law_472 : decode cL_law 472 = .ok (.aload_n 0, 1) := by decide +kernel
theorem dL_law_473 : decode cL_law 473 = .ok (.iload_n 3, 1) := by decide +kernel
theorem dL_law_474 : decode cL_law 474 = .ok (.iconst 1, 1) := by decide +kernel
theorem dL_law_475 : decode cL_law 475 = .ok (.iadd, 1) := by decide +kernel
theorem dL_law_476 : decode cL_law 476 = .ok (.iaload, 1) := by decide +kernel
theorem dL_law_477 : decode cL_law 477 = .ok (.aload_n 0, 1) := by decide +kernel
theorem dL_law_478 : decode cL_law 478 = .ok (.iload_n 3, 1) := by decide +kernel
theorem dL_law_479 : decode cL_law 479 = .ok (.iconst 2, 1) := by decide +kernel
theorem dL_law_480 : decode cL_law 480 = .ok (.iadd, 1) := by decide +kernel
theorem dL_law_481 : decode cL_law 481 = .ok (.iaload, 1) := by decide +kernel
theorem dL_law_482 : decode cL_law 482 = .ok (.aload_n 0, 1) := by decide +kernel
theorem dL_law_483 : decode cL_law 483 = .ok (.iload_n 3, 1) := by decide +kernel
theorem dL_law_484 : decode cL_law 484 = .ok (.iconst 3, 1) := by decide +kernel
theorem dL_law_485 : decode cL_law 485 = .ok (.iadd, 1) := by decide +kernel
theorem dL_law_486 : decode cL_law 486 = .ok (.iaload, 1) := by decide +kernel
theorem dL_law_487 : decode cL_law 487 = .ok (.invokevirtual 43, 3) := by decide +kernel
theorem dL_law_490 : decode cL_law 490 = .ok (.if_icmp .eq 821, 3) := by decide +kernel
theorem dL_law_493 : decode cL_law 493 = .ok (.iconst 0, 1) := by decide +kernel
theorem dL_law_494 : decode cL_law 494 = .ok (.ireturn, 1) := by decide +kernel
theorem dL_law_495 : decode cL_law 495 = .ok (.aload_n 1, 1) := by decide +kernel
theorem dL_law_496 : decode cL_law 496 = .ok (.aload_n 0, 1) := by decide +kernel
theorem dL_law_497 : decode cL_law 497 = .ok (.iload_n 3, 1) := by decide +kernel
theorem dL_law_498 : decode cL_law 498 = .ok (.iconst 1, 1) := by decide +kernel
theorem dL_law_499 : decode cL_law 499 = .ok (.iadd, 1) := by decide +kernel
theorem dL_law_500 : decode cL_law 500 = .ok (.iaload, 1) := by decide +kernel
theorem dL_law_501 : decode cL_law 501 = .ok (.aload_n 0, 1) := by decide +kernel
theorem dL_law_502 : decode cL_law 502 = .ok (.iload_n 3, 1) := by decide +kernel
theorem dL_law_503 : decode cL_law 503 = .ok (.iconst 2, 1) := by decide +kernel
theorem dL_law_504 : decode cL_law 504 = .ok (.iadd, 1) := by decide +kernel
theorem dL_law_505 : decode cL_law 505 = .ok (.iaload, 1) := by decide +kernel
theorem dL_law_506 : decode cL_law 506 = .ok (.aload_n 0, 1) := by decide +kernel
theorem dL_law_507 : decode cL_law 507 = .ok (.iload_n 3, 1) := by decide +kernel
theorem dL_law_508 : decode cL_law 508 = .ok (.iconst 3, 1) := by decide +kernel
theorem dL_law_509 : decode cL_law 509 = .ok (.iadd, 1) := by decide +kernel
theorem dL_law_510 : decode cL_law 510 = .ok (.iaload, 1) := by decide +kernel
theorem dL_law_511 : decode cL_law 511 = .ok (.aload_n 0, 1) := by decide +kernel
theorem dL_law_512 : decode cL_law 512 = .ok (.iload_n 3, 1) := by decide +kernel
theorem dL_law_513 : decode cL_law 513 = .ok (.iconst 4, 1) := by decide +kernel
theorem dL_law_514 : decode cL_law 514 = .ok (.iadd, 1) := by decide +kernel
theorem dL_law_515 : decode cL_law 515 = .ok (.iaload, 1) := by decide +kernel
theorem dL_law_516 : decode cL_law 516 = .ok (.aload_n 0, 1) := by decide +kernel
theorem dL_law_517 : decode cL_law 517 = .ok (.iload_n 3, 1) := by decide +kernel
theorem dL_law_518 : decode cL_law 518 = .ok (.iconst 5, 1) := by decide +kernel
theorem dL_law_519 : decode cL_law 519 = .ok (.iadd, 1) := by decide +kernel
theorem dL_law_520 : decode cL_law 520 = .ok (.iaload, 1) := by decide +kernel
theorem dL_law_521 : decode cL_law 521 = .ok (.aload_n 0, 1) := by decide +kernel
theorem dL_law_522 : decode cL_law 522 = .ok (.iload_n 3, 1) := by decide +kernel
theorem dL_law_523 : decode cL_law 523 = .ok (.bipush 6, 2) := by decide +kernel
theorem dL_law_525 : decode cL_law 525 = .ok (.iadd, 1) := by decide +kernel
theorem dL_law_526 : decode cL_law 526 = .ok (.iaload, 1) := by decide +kernel
theorem dL_law_527 : decode cL_law 527 = .ok (.aload_n 0, 1) := by decide +kernel
theorem dL_law_528 : decode cL_law 528 = .ok (.iload_n 3, 1) := by decide +kernel
theorem dL_law_529 : decode cL_law 529 = .ok (.bipush 7, 2) := by decide +kernel
theorem dL_law_531 : decode cL_law 531 = .ok (.iadd, 1) := by decide +kernel
theorem dL_law_532 : decode cL_law 532 = .ok (.iaload, 1) := by decide +kernel
theorem dL_law_533 : decode cL_law 533 = .ok (.invokevirtual 44, 3) := by decide +kernel
theorem dL_law_536 : decode cL_law 536 = .ok (.aload_n 2, 1) := by decide +kernel
theorem dL_law_537 : decode cL_law 537 = .ok (.aload_n 0, 1) := by decide +kernel
theorem dL_law_538 : decode cL_law 538 = .ok (.iload_n 3, 1) := by decide +kernel
theorem dL_law_539 : decode cL_law 539 = .ok (.iconst 1, 1) := by decide +kernel
theorem dL_law_540 : decode cL_law 540 = .ok (.iadd, 1) := by decide +kernel
theorem dL_law_541 : decode cL_law 541 = .ok (.iaload, 1) := by decide +kernel
theorem dL_law_542 : decode cL_law 542 = .ok (.aload_n 0, 1) := by decide +kernel
theorem dL_law_543 : decode cL_law 543 = .ok (.iload_n 3, 1) := by decide +kernel
theorem dL_law_544 : decode cL_law 544 = .ok (.iconst 2, 1) := by decide +kernel
theorem dL_law_545 : decode cL_law 545 = .ok (.iadd, 1) := by decide +kernel
theorem dL_law_546 : decode cL_law 546 = .ok (.iaload, 1) := by decide +kernel
theorem dL_law_547 : decode cL_law 547 = .ok (.aload_n 0, 1) := by decide +kernel
theorem dL_law_548 : decode cL_law 548 = .ok (.iload_n 3, 1) := by decide +kernel
theorem dL_law_549 : decode cL_law 549 = .ok (.iconst 3, 1) := by decide +kernel
theorem dL_law_550 : decode cL_law 550 = .ok (.iadd, 1) := by decide +kernel
theorem dL_law_551 : decode cL_law 551 = .ok (.iaload, 1) := by decide +kernel
theorem dL_law_552 : decode cL_law 552 = .ok (.aload_n 0, 1) := by decide +kernel
theorem dL_law_553 : decode cL_law 553 = .ok (.iload_n 3, 1) := by decide +kernel
theorem dL_law_554 : decode cL_law 554 = .ok (.iconst 4, 1) := by decide +kernel
theorem dL_law_555 : decode cL_law 555 = .ok (.iadd, 1) := by decide +kernel
theorem dL_law_556 : decode cL_law 556 = .ok (.iaload, 1) := by decide +kernel
theorem dL_law_557 : decode cL_law 557 = .ok (.aload_n 0, 1) := by decide +kernel
theorem dL_law_558 : decode cL_law 558 = .ok (.iload_n 3, 1) := by decide +kernel
theorem dL_law_559 : decode cL_law 559 = .ok (.iconst 5, 1) := by decide +kernel
theorem dL_law_560 : decode cL_law 560 = .ok (.iadd, 1) := by decide +kernel
theorem dL_law_561 : decode cL_law 561 = .ok (.iaload, 1) := by decide +kernel
theorem dL_law_562 : decode cL_law 562 = .ok (.aload_n 0, 1) := by decide +kernel
theorem dL_law_563 : decode cL_law 563 = .ok (.iload_n 3, 1) := by decide +kernel
theorem dL_law_564 : decode cL_law 564 = .ok (.bipush 6, 2) := by decide +kernel
theorem dL_law_566 : decode cL_law 566 = .ok (.iadd, 1) := by decide +kernel
theorem dL_law_567 : decode cL_law 567 = .ok (.iaload, 1) := by decide +kernel
theorem dL_law_568 : decode cL_law 568 = .ok (.aload_n 0, 1) := by decide +kernel
theorem dL_law_569 : decode cL_law 569 = .ok (.iload_n 3, 1) := by decide +kernel
theorem dL_law_570 : decode cL_law 570 = .ok (.bipush 7, 2) := by decide +kernel
theorem dL_law_572 : decode cL_law 572 = .ok (.iadd, 1) := by decide +kernel
theorem dL_law_573 : decode cL_law 573 = .ok (.iaload, 1) := by decide +kernel
theorem dL_law_574 : decode cL_law 574 = .ok (.invokevirtual 48, 3) := by decide +kernel
theorem dL_law_577 : decode cL_law 577 = .ok (.if_icmp .eq 734, 3) := by decide +kernel
theorem dL_law_580 : decode cL_law 580 = .ok (.iconst 0, 1) := by decide +kernel
theorem dL_law_581 : decode cL_law 581 = .ok (.ireturn, 1) := by decide +kernel
theorem dL_law_582 : decode cL_law 582 = .ok (.aload_n 1, 1) := by decide +kernel
theorem dL_law_583 : decode cL_law 583 = .ok (.aload_n 0, 1) := by decide +kernel
theorem dL_law_584 : decode cL_law 584 = .ok (.iload_n 3, 1) := by decide +kernel
theorem dL_law_585 : decode cL_law 585 = .ok (.iconst 1, 1) := by decide +kernel
theorem dL_law_586 : decode cL_law 586 = .ok (.iadd, 1) := by decide +kernel
theorem dL_law_587 : decode cL_law 587 = .ok (.iaload, 1) := by decide +kernel
theorem dL_law_588 : decode cL_law 588 = .ok (.aload_n 0, 1) := by decide +kernel
theorem dL_law_589 : decode cL_law 589 = .ok (.iload_n 3, 1) := by decide +kernel
theorem dL_law_590 : decode cL_law 590 = .ok (.iconst 2, 1) := by decide +kernel
theorem dL_law_591 : decode cL_law 591 = .ok (.iadd, 1) := by decide +kernel
theorem dL_law_592 : decode cL_law 592 = .ok (.iaload, 1) := by decide +kernel
theorem dL_law_593 : decode cL_law 593 = .ok (.aload_n 0, 1) := by decide +kernel
theorem dL_law_594 : decode cL_law 594 = .ok (.iload_n 3, 1) := by decide +kernel
theorem dL_law_595 : decode cL_law 595 = .ok (.iconst 3, 1) := by decide +kernel
theorem dL_law_596 : decode cL_law 596 = .ok (.iadd, 1) := by decide +kernel
theorem dL_law_597 : decode cL_law 597 = .ok (.iaload, 1) := by decide +kernel
theorem dL_law_598 : decode cL_law 598 = .ok (.invokevirtual 49, 3) := by decide +kernel
theorem dL_law_601 : decode cL_law 601 = .ok (.aload_n 2, 1) := by decide +kernel
theorem dL_law_602 : decode cL_law 602 = .ok (.aload_n 0, 1) := by decide +kernel
theorem dL_law_603 : decode cL_law 603 = .ok (.iload_n 3, 1) := by decide +kernel
theorem dL_law_604 : decode cL_law 604 = .ok (.iconst 1, 1) := by decide +kernel
theorem dL_law_605 : decode cL_law 605 = .ok (.iadd, 1) := by decide +kernel
theorem dL_law_606 : decode cL_law 606 = .ok (.iaload, 1) := by decide +kernel
theorem dL_law_607 : decode cL_law 607 = .ok (.aload_n 0, 1) := by decide +kernel
theorem dL_law_608 : decode cL_law 608 = .ok (.iload_n 3, 1) := by decide +kernel
theorem dL_law_609 : decode cL_law 609 = .ok (.iconst 2, 1) := by decide +kernel
theorem dL_law_610 : decode cL_law 610 = .ok (.iadd, 1) := by decide +kernel
theorem dL_law_611 : decode cL_law 611 = .ok (.iaload, 1) := by decide +kernel
theorem dL_law_612 : decode cL_law 612 = .ok (.aload_n 0, 1) := by decide +kernel
theorem dL_law_613 : decode cL_law 613 = .ok (.iload_n 3, 1) := by decide +kernel
theorem dL_law_614 : decode cL_law 614 = .ok (.iconst 3, 1) := by decide +kernel
theorem dL_law_615 : decode cL_law 615 = .ok (.iadd, 1) := by decide +kernel
theorem dL_law_616 : decode cL_law 616 = .ok (.iaload, 1) := by decide +kernel
theorem dL_law_617 : decode cL_law 617 = .ok (.invokevirtual 52, 3) := by decide +kernel
theorem dL_law_620 : decode cL_law 620 = .ok (.if_icmp .eq 691, 3) := by decide +kernel
theorem dL_law_623 : decode cL_law 623 = .ok (.iconst 0, 1) := by decide +kernel
theorem dL_law_624 : decode cL_law 624 = .ok (.ireturn, 1) := by decide +kernel
theorem dL_law_625 : decode cL_law 625 = .ok (.aload_n 1, 1) := by decide +kernel
theorem dL_law_626 : decode cL_law 626 = .ok (.aload_n 0, 1) := by decide +kernel
theorem dL_law_627 : decode cL_law 627 = .ok (.iload_n 3, 1) := by decide +kernel
theorem dL_law_628 : decode cL_law 628 = .ok (.iconst 1, 1) := by decide +kernel
theorem dL_law_629 : decode cL_law 629 = .ok (.iadd, 1) := by decide +kernel
theorem dL_law_630 : decode cL_law 630 = .ok (.iaload, 1) := by decide +kernel
theorem dL_law_631 : decode cL_law 631 = .ok (.aload_n 0, 1) := by decide +kernel
theorem dL_law_632 : decode cL_law 632 = .ok (.iload_n 3, 1) := by decide +kernel
theorem dL_law_633 : decode cL_law 633 = .ok (.iconst 2, 1) := by decide +kernel
theorem dL_law_634 : decode cL_law 634 = .ok (.iadd, 1) := by decide +kernel
theorem dL_law_635 : decode cL_law 635 = .ok (.iaload, 1) := by decide +kernel
theorem dL_law_636 : decode cL_law 636 = .ok (.invokevirtual 53, 3) := by decide +kernel
theorem dL_law_639 : decode cL_law 639 = .ok (.aload_n 2, 1) := by decide +kernel
theorem dL_law_640 : decode cL_law 640 = .ok (.aload_n 0, 1) := by decide +kernel
theorem dL_law_641 : decode cL_law 641 = .ok (.iload_n 3, 1) := by decide +kernel
theorem dL_law_642 : decode cL_law 642 = .ok (.iconst 1, 1) := by decide +kernel
theorem dL_law_643 : decode cL_law 643 = .ok (.iadd, 1) := by decide +kernel
theorem dL_law_644 : decode cL_law 644 = .ok (.iaload, 1) := by decide +kernel
theorem dL_law_645 : decode cL_law 645 = .ok (.aload_n 0, 1) := by decide +kernel
theorem dL_law_646 : decode cL_law 646 = .ok (.iload_n 3, 1) := by decide +kernel
theorem dL_law_647 : decode cL_law 647 = .ok (.iconst 2, 1) := by decide +kernel
theorem dL_law_648 : decode cL_law 648 = .ok (.iadd, 1) := by decide +kernel
theorem dL_law_649 : decode cL_law 649 = .ok (.iaload, 1) := by decide +kernel
theorem dL_law_650 : decode cL_law 650 = .ok (.invokevirtual 56, 3) := by decide +kernel
theorem dL_law_653 : decode cL_law 653 = .ok (.if_icmp .eq 658, 3) := by decide +kernel
theorem dL_law_656 : decode cL_law 656 = .ok (.iconst 0, 1) := by decide +kernel
theorem dL_law_657 : decode cL_law 657 = .ok (.ireturn, 1) := by decide +kernel
theorem dL_law_658 : decode cL_law 658 = .ok (.aload_n 1, 1) := by decide +kernel
theorem dL_law_659 : decode cL_law 659 = .ok (.aload_n 0, 1) := by decide +kernel
theorem dL_law_660 : decode cL_law 660 = .ok (.iload_n 3, 1) := by decide +kernel
theorem dL_law_661 : decode cL_law 661 = .ok (.iconst 1, 1) := by decide +kernel
theorem dL_law_662 : decode cL_law 662 = .ok (.iadd, 1) := by decide +kernel
theorem dL_law_663 : decode cL_law 663 = .ok (.iaload, 1) := by decide +kernel
theorem dL_law_664 : decode cL_law 664 = .ok (.invokevirtual 57, 3) := by decide +kernel
theorem dL_law_667 : decode cL_law 667 = .ok (.aload_n 2, 1) := by decide +kernel
theorem dL_law_668 : decode cL_law 668 = .ok (.aload_n 0, 1) := by decide +kernel
theorem dL_law_669 : decode cL_law 669 = .ok (.iload_n 3, 1) := by decide +kernel
theorem dL_law_670 : decode cL_law 670 = .ok (.iconst 1, 1) := by decide +kernel
theorem dL_law_671 : decode cL_law 671 = .ok (.iadd, 1) := by decide +kernel
theorem dL_law_672 : decode cL_law 672 = .ok (.iaload, 1) := by decide +kernel
theorem dL_law_673 : decode cL_law 673 = .ok (.invokevirtual 61, 3) := by decide +kernel
theorem dL_law_676 : decode cL_law 676 = .ok (.if_icmp .eq 635, 3) := by decide +kernel
theorem dL_law_679 : decode cL_law 679 = .ok (.iconst 0, 1) := by decide +kernel
theorem dL_law_680 : decode cL_law 680 = .ok (.ireturn, 1) := by decide +kernel
theorem dL_law_681 : decode cL_law 681 = .ok (.aload_n 1, 1) := by decide +kernel
theorem dL_law_682 : decode cL_law 682 = .ok (.aload_n 0, 1) := by decide +kernel
theorem dL_law_683 : decode cL_law 683 = .ok (.iload_n 3, 1) := by decide +kernel
theorem dL_law_684 : decode cL_law 684 = .ok (.iconst 1, 1) := by decide +kernel
theorem dL_law_685 : decode cL_law 685 = .ok (.iadd, 1) := by decide +kernel
theorem dL_law_686 : decode cL_law 686 = .ok (.iaload, 1) := by decide +kernel
theorem dL_law_687 : decode cL_law 687 = .ok (.aload_n 0, 1) := by decide +kernel
theorem dL_law_688 : decode cL_law 688 = .ok (.iload_n 3, 1) := by decide +kernel
theorem dL_law_689 : decode cL_law 689 = .ok (.iconst 2, 1) := by decide +kernel
theorem dL_law_690 : decode cL_law 690 = .ok (.iadd, 1) := by decide +kernel
theorem dL_law_691 : decode cL_law 691 = .ok (.iaload, 1) := by decide +kernel
theorem dL_law_692 : decode cL_law 692 = .ok (.aload_n 0, 1) := by decide +kernel
theorem dL_law_693 : decode cL_law 693 = .ok (.iload_n 3, 1) := by decide +kernel
theorem dL_law_694 : decode cL_law 694 = .ok (.iconst 3, 1) := by decide +kernel
theorem dL_law_695 : decode cL_law 695 = .ok (.iadd, 1) := by decide +kernel
theorem dL_law_696 : decode cL_law 696 = .ok (.iaload, 1) := by decide +kernel
theorem dL_law_697 : decode cL_law 697 = .ok (.invokevirtual 62, 3) := by decide +kernel
theorem dL_law_700 : decode cL_law 700 = .ok (.aload_n 2, 1) := by decide +kernel
theorem dL_law_701 : decode cL_law 701 = .ok (.aload_n 0, 1) := by decide +kernel
theorem dL_law_702 : decode cL_law 702 = .ok (.iload_n 3, 1) := by decide +kernel
theorem dL_law_703 : decode cL_law 703 = .ok (.iconst 1, 1) := by decide +kernel
theorem dL_law_704 : decode cL_law 704 = .ok (.iadd, 1) := by decide +kernel
theorem dL_law_705 : decode cL_law 705 = .ok (.iaload, 1) := by decide +kernel
theorem dL_law_706 : decode cL_law 706 = .ok (.aload_n 0, 1) := by decide +kernel
theorem dL_law_707 : decode cL_law 707 = .ok (.iload_n 3, 1) := by decide +kernel
theorem dL_law_708 : decode cL_law 708 = .ok (.iconst 2, 1) := by decide +kernel
theorem dL_law_709 : decode cL_law 709 = .ok (.iadd, 1) := by decide +kernel
theorem dL_law_710 : decode cL_law 710 = .ok (.iaload, 1) := by decide +kernel
theorem dL_law_711 : decode cL_law 711 = .ok (.aload_n 0, 1) := by decide +kernel
theorem dL_law_712 : decode cL_law 712 = .ok (.iload_n 3, 1) := by decide +kernel
theorem dL_law_713 : decode cL_law 713 = .ok (.iconst 3, 1) := by decide +kernel
theorem dL_law_714 : decode cL_law 714 = .ok (.iadd, 1) := by decide +kernel
theorem dL_law_715 : decode cL_law 715 = .ok (.iaload, 1) := by decide +kernel
theorem dL_law_716 : decode cL_law 716 = .ok (.invokevirtual 65, 3) := by decide +kernel
theorem dL_law_719 : decode cL_law 719 = .ok (.if_icmp .eq 592, 3) := by decide +kernel
theorem dL_law_722 : decode cL_law 722 = .ok (.iconst 0, 1) := by decide +kernel
theorem dL_law_723 : decode cL_law 723 = .ok (.ireturn, 1) := by decide +kernel
theorem dL_law_724 : decode cL_law 724 = .ok (.aload_n 1, 1) := by decide +kernel
theorem dL_law_725 : decode cL_law 725 = .ok (.aload_n 0, 1) := by decide +kernel
theorem dL_law_726 : decode cL_law 726 = .ok (.iload_n 3, 1) := by decide +kernel
theorem dL_law_727 : decode cL_law 727 = .ok (.iconst 1, 1) := by decide +kernel
theorem dL_law_728 : decode cL_law 728 = .ok (.iadd, 1) := by decide +kernel
theorem dL_law_729 : decode cL_law 729 = .ok (.iaload, 1) := by decide +kernel
theorem dL_law_730 : decode cL_law 730 = .ok (.aload_n 0, 1) := by decide +kernel
theorem dL_law_731 : decode cL_law 731 = .ok (.iload_n 3, 1) := by decide +kernel
theorem dL_law_732 : decode cL_law 732 = .ok (.iconst 2, 1) := by decide +kernel
theorem dL_law_733 : decode cL_law 733 = .ok (.iadd, 1) := by decide +kernel
theorem dL_law_734 : decode cL_law 734 = .ok (.iaload, 1) := by decide +kernel
theorem dL_law_735 : decode cL_law 735 = .ok (.invokevirtual 66, 3) := by decide +kernel
theorem dL_law_738 : decode cL_law 738 = .ok (.aload_n 2, 1) := by decide +kernel
theorem dL_law_739 : decode cL_law 739 = .ok (.aload_n 0, 1) := by decide +kernel
theorem dL_law_740 : decode cL_law 740 = .ok (.iload_n 3, 1) := by decide +kernel
theorem dL_law_741 : decode cL_law 741 = .ok (.iconst 1, 1) := by decide +kernel
theorem dL_law_742 : decode cL_law 742 = .ok (.iadd, 1) := by decide +kernel
theorem dL_law_743 : decode cL_law 743 = .ok (.iaload, 1) := by decide +kernel
theorem dL_law_744 : decode cL_law 744 = .ok (.aload_n 0, 1) := by decide +kernel
theorem dL_law_745 : decode cL_law 745 = .ok (.iload_n 3, 1) := by decide +kernel
theorem dL_law_746 : decode cL_law 746 = .ok (.iconst 2, 1) := by decide +kernel
theorem dL_law_747 : decode cL_law 747 = .ok (.iadd, 1) := by decide +kernel
theorem dL_law_748 : decode cL_law 748 = .ok (.iaload, 1) := by decide +kernel
theorem dL_law_749 : decode cL_law 749 = .ok (.invokevirtual 69, 3) := by decide +kernel
theorem dL_law_752 : decode cL_law 752 = .ok (.if_icmp .eq 559, 3) := by decide +kernel
theorem dL_law_755 : decode cL_law 755 = .ok (.iconst 0, 1) := by decide +kernel
theorem dL_law_756 : decode cL_law 756 = .ok (.ireturn, 1) := by decide +kernel
theorem dL_law_757 : decode cL_law 757 = .ok (.aload_n 1, 1) := by decide +kernel
theorem dL_law_758 : decode cL_law 758 = .ok (.invokevirtual 70, 3) := by decide +kernel
theorem dL_law_761 : decode cL_law 761 = .ok (.aload_n 2, 1) := by decide +kernel
theorem dL_law_762 : decode cL_law 762 = .ok (.invokevirtual 74, 3) := by decide +kernel
theorem dL_law_765 : decode cL_law 765 = .ok (.if_icmp .eq 546, 3) := by decide +kernel
theorem dL_law_768 : decode cL_law 768 = .ok (.iconst 0, 1) := by decide +kernel
theorem dL_law_769 : decode cL_law 769 = .ok (.ireturn, 1) := by decide +kernel
theorem dL_law_770 : decode cL_law 770 = .ok (.aload_n 1, 1) := by decide +kernel
theorem dL_law_771 : decode cL_law 771 = .ok (.aload_n 0, 1) := by decide +kernel
theorem dL_law_772 : decode cL_law 772 = .ok (.iload_n 3, 1) := by decide +kernel
theorem dL_law_773 : decode cL_law 773 = .ok (.iconst 1, 1) := by decide +kernel
theorem dL_law_774 : decode cL_law 774 = .ok (.iadd, 1) := by decide +kernel
theorem dL_law_775 : decode cL_law 775 = .ok (.iaload, 1) := by decide +kernel
theorem dL_law_776 : decode cL_law 776 = .ok (.invokevirtual 75, 3) := by decide +kernel
theorem dL_law_779 : decode cL_law 779 = .ok (.aload_n 2, 1) := by decide +kernel
theorem dL_law_780 : decode cL_law 780 = .ok (.aload_n 0, 1) := by decide +kernel
theorem dL_law_781 : decode cL_law 781 = .ok (.iload_n 3, 1) := by decide +kernel
theorem dL_law_782 : decode cL_law 782 = .ok (.iconst 1, 1) := by decide +kernel
theorem dL_law_783 : decode cL_law 783 = .ok (.iadd, 1) := by decide +kernel
theorem dL_law_784 : decode cL_law 784 = .ok (.iaload, 1) := by decide +kernel
theorem dL_law_785 : decode cL_law 785 = .ok (.invokevirtual 78, 3) := by decide +kernel
theorem dL_law_788 : decode cL_law 788 = .ok (.if_icmp .eq 523, 3) := by decide +kernel
theorem dL_law_791 : decode cL_law 791 = .ok (.iconst 0, 1) := by decide +kernel
theorem dL_law_792 : decode cL_law 792 = .ok (.ireturn, 1) := by decide +kernel
theorem dL_law_793 : decode cL_law 793 = .ok (.aload_n 1, 1) := by decide +kernel
theorem dL_law_794 : decode cL_law 794 = .ok (.aload_n 0, 1) := by decide +kernel
theorem dL_law_795 : decode cL_law 795 = .ok (.iload_n 3, 1) := by decide +kernel
theorem dL_law_796 : decode cL_law 796 = .ok (.iconst 1, 1) := by decide +kernel
theorem dL_law_797 : decode cL_law 797 = .ok (.iadd, 1) := by decide +kernel
theorem dL_law_798 : decode cL_law 798 = .ok (.iaload, 1) := by decide +kernel
theorem dL_law_799 : decode cL_law 799 = .ok (.invokevirtual 79, 3) := by decide +kernel
theorem dL_law_802 : decode cL_law 802 = .ok (.aload_n 2, 1) := by decide +kernel
theorem dL_law_803 : decode cL_law 803 = .ok (.aload_n 0, 1) := by decide +kernel
theorem dL_law_804 : decode cL_law 804 = .ok (.iload_n 3, 1) := by decide +kernel
theorem dL_law_805 : decode cL_law 805 = .ok (.iconst 1, 1) := by decide +kernel
theorem dL_law_806 : decode cL_law 806 = .ok (.iadd, 1) := by decide +kernel
theorem dL_law_807 : decode cL_law 807 = .ok (.iaload, 1) := by decide +kernel
theorem dL_law_808 : decode cL_law 808 = .ok (.invokevirtual 82, 3) := by decide +kernel
theorem dL_law_811 : decode cL_law 811 = .ok (.if_icmp .eq 500, 3) := by decide +kernel
theorem dL_law_814 : decode cL_law 814 = .ok (.iconst 0, 1) := by decide +kernel
theorem dL_law_815 : decode cL_law 815 = .ok (.ireturn, 1) := by decide +kernel
theorem dL_law_816 : decode cL_law 816 = .ok (.aload_n 1, 1) := by decide +kernel
theorem dL_law_817 : decode cL_law 817 = .ok (.aload_n 0, 1) := by decide +kernel
theorem dL_law_818 : decode cL_law 818 = .ok (.iload_n 3, 1) := by decide +kernel
theorem dL_law_819 : decode cL_law 819 = .ok (.iconst 1, 1) := by decide +kernel
theorem dL_law_820 : decode cL_law 820 = .ok (.iadd, 1) := by decide +kernel
theorem dL_law_821 : decode cL_law 821 = .ok (.iaload, 1) := by decide +kernel
theorem dL_law_822 : decode cL_law 822 = .ok (.invokevirtual 83, 3) := by decide +kernel
theorem dL_law_825 : decode cL_law 825 = .ok (.aload_n 2, 1) := by decide +kernel
theorem dL_law_826 : decode cL_law 826 = .ok (.aload_n 0, 1) := by decide +kernel
theorem dL_law_827 : decode cL_law 827 = .ok (.iload_n 3, 1) := by decide +kernel
theorem dL_law_828 : decode cL_law 828 = .ok (.iconst 1, 1) := by decide +kernel
theorem dL_law_829 : decode cL_law 829 = .ok (.iadd, 1) := by decide +kernel
theorem dL_law_830 : decode cL_law 830 = .ok (.iaload, 1) := by decide +kernel
theorem dL_law_831 : decode cL_law 831 = .ok (.invokevirtual 86, 3) := by decide +kernel
theorem dL_law_834 : decode cL_law 834 = .ok (.if_icmp .eq 477, 3) := by decide +kernel
theorem dL_law_837 : decode cL_law 837 = .ok (.iconst 0, 1) := by decide +kernel
theorem dL_law_838 : decode cL_law 838 = .ok (.ireturn, 1) := by decide +kernel
theorem dL_law_839 : decode cL_law 839 = .ok (.aload_n 1, 1) := by decide +kernel
theorem dL_law_840 : decode cL_law 840 = .ok (.aload_n 0, 1) := by decide +kernel
theorem dL_law_841 : decode cL_law 841 = .ok (.iload_n 3, 1) := by decide +kernel
theorem dL_law_842 : decode cL_law 842 = .ok (.iconst 1, 1) := by decide +kernel
theorem dL_law_843 : decode cL_law 843 = .ok (.iadd, 1) := by decide +kernel
theorem dL_law_844 : decode cL_law 844 = .ok (.iaload, 1) := by decide +kernel
theorem dL_law_845 : decode cL_law 845 = .ok (.invokevirtual 87, 3) := by decide +kernel
theorem dL_law_848 : decode cL_law 848 = .ok (.aload_n 2, 1) := by decide +kernel
theorem dL_law_849 : decode cL_law 849 = .ok (.aload_n 0, 1) := by decide +kernel
theorem dL_law_850 : decode cL_law 850 = .ok (.iload_n 3, 1) := by decide +kernel
theorem dL_law_851 : decode cL_law 851 = .ok (.iconst 1, 1) := by decide +kernel
theorem dL_law_852 : decode cL_law 852 = .ok (.iadd, 1) := by decide +kernel
theorem dL_law_853 : decode cL_law 853 = .ok (.iaload, 1) := by decide +kernel
theorem dL_law_854 : decode cL_law 854 = .ok (.invokevirtual 90, 3) := by decide +kernel
theorem dL_law_857 : decode cL_law 857 = .ok (.if_icmp .eq 454, 3) := by decide +kernel
theorem dL_law_860 : decode cL_law 860 = .ok (.iconst 0, 1) := by decide +kernel
theorem dL_law_861 : decode cL_law 861 = .ok (.ireturn, 1) := by decide +kernel
theorem dL_law_862 : decode cL_law 862 = .ok (.aload_n 1, 1) := by decide +kernel
theorem dL_law_863 : decode cL_law 863 = .ok (.aload_n 0, 1) := by decide +kernel
theorem dL_law_864 : decode cL_law 864 = .ok (.iload_n 3, 1) := by decide +kernel
theorem dL_law_865 : decode cL_law 865 = .ok (.iconst 1, 1) := by decide +kernel
theorem dL_law_866 : decode cL_law 866 = .ok (.iadd, 1) := by decide +kernel
theorem dL_law_867 : decode cL_law 867 = .ok (.iaload, 1) := by decide +kernel
theorem dL_law_868 : decode cL_law 868 = .ok (.invokevirtual 91, 3) := by decide +kernel
theorem dL_law_871 : decode cL_law 871 = .ok (.aload_n 2, 1) := by decide +kernel
theorem dL_law_872 : decode cL_law 872 = .ok (.aload_n 0, 1) := by decide +kernel
theorem dL_law_873 : decode cL_law 873 = .ok (.iload_n 3, 1) := by decide +kernel
theorem dL_law_874 : decode cL_law 874 = .ok (.iconst 1, 1) := by decide +kernel
theorem dL_law_875 : decode cL_law 875 = .ok (.iadd, 1) := by decide +kernel
theorem dL_law_876 : decode cL_law 876 = .ok (.iaload, 1) := by decide +kernel
theorem dL_law_877 : decode cL_law 877 = .ok (.invokevirtual 94, 3) := by decide +kernel
theorem dL_law_880 : decode cL_law 880 = .ok (.if_icmp .eq 431, 3) := by decide +kernel
theorem dL_law_883 : decode cL_law 883 = .ok (.iconst 0, 1) := by decide +kernel
theorem dL_law_884 : decode cL_law 884 = .ok (.ireturn, 1) := by decide +kernel
theorem dL_law_885 : decode cL_law 885 = .ok (.aload_n 1, 1) := by decide +kernel
theorem dL_law_886 : decode cL_law 886 = .ok (.aload_n 0, 1) := by decide +kernel
theorem dL_law_887 : decode cL_law 887 = .ok (.iload_n 3, 1) := by decide +kernel
theorem dL_law_888 : decode cL_law 888 = .ok (.iconst 1, 1) := by decide +kernel
theorem dL_law_889 : decode cL_law 889 = .ok (.iadd, 1) := by decide +kernel
theorem dL_law_890 : decode cL_law 890 = .ok (.iaload, 1) := by decide +kernel
theorem dL_law_891 : decode cL_law 891 = .ok (.invokevirtual 95, 3) := by decide +kernel
theorem dL_law_894 : decode cL_law 894 = .ok (.aload_n 2, 1) := by decide +kernel
theorem dL_law_895 : decode cL_law 895 = .ok (.aload_n 0, 1) := by decide +kernel
theorem dL_law_896 : decode cL_law 896 = .ok (.iload_n 3, 1) := by decide +kernel
theorem dL_law_897 : decode cL_law 897 = .ok (.iconst 1, 1) := by decide +kernel
theorem dL_law_898 : decode cL_law 898 = .ok (.iadd, 1) := by decide +kernel
theorem dL_law_899 : decode cL_law 899 = .ok (.iaload, 1) := by decide +kernel
theorem dL_law_900 : decode cL_law 900 = .ok (.invokevirtual 98, 3) := by decide +kernel
theorem dL_law_903 : decode cL_law 903 = .ok (.if_icmp .eq 408, 3) := by decide +kernel
theorem dL_law_906 : decode cL_law 906 = .ok (.iconst 0, 1) := by decide +kernel
theorem dL_law_907 : decode cL_law 907 = .ok (.ireturn, 1) := by decide +kernel
theorem dL_law_908 : decode cL_law 908 = .ok (.aload_n 1, 1) := by decide +kernel
theorem dL_law_909 : decode cL_law 909 = .ok (.invokevirtual 99, 3) := by decide +kernel
theorem dL_law_912 : decode cL_law 912 = .ok (.aload_n 2, 1) := by decide +kernel
theorem dL_law_913 : decode cL_law 913 = .ok (.invokevirtual 102, 3) := by decide +kernel
theorem dL_law_916 : decode cL_law 916 = .ok (.if_icmp .eq 395, 3) := by decide +kernel
theorem dL_law_919 : decode cL_law 919 = .ok (.iconst 0, 1) := by decide +kernel
theorem dL_law_920 : decode cL_law 920 = .ok (.ireturn, 1) := by decide +kernel
theorem dL_law_921 : decode cL_law 921 = .ok (.aload_n 1, 1) := by decide +kernel
theorem dL_law_922 : decode cL_law 922 = .ok (.aload_n 0, 1) := by decide +kernel
theorem dL_law_923 : decode cL_law 923 = .ok (.iload_n 3, 1) := by decide +kernel
theorem dL_law_924 : decode cL_law 924 = .ok (.iconst 1, 1) := by decide +kernel
theorem dL_law_925 : decode cL_law 925 = .ok (.iadd, 1) := by decide +kernel
theorem dL_law_926 : decode cL_law 926 = .ok (.iaload, 1) := by decide +kernel
theorem dL_law_927 : decode cL_law 927 = .ok (.aload_n 0, 1) := by decide +kernel
theorem dL_law_928 : decode cL_law 928 = .ok (.iload_n 3, 1) := by decide +kernel
theorem dL_law_929 : decode cL_law 929 = .ok (.iconst 2, 1) := by decide +kernel
theorem dL_law_930 : decode cL_law 930 = .ok (.iadd, 1) := by decide +kernel
theorem dL_law_931 : decode cL_law 931 = .ok (.iaload, 1) := by decide +kernel
theorem dL_law_932 : decode cL_law 932 = .ok (.invokevirtual 103, 3) := by decide +kernel
theorem dL_law_935 : decode cL_law 935 = .ok (.aload_n 2, 1) := by decide +kernel
theorem dL_law_936 : decode cL_law 936 = .ok (.aload_n 0, 1) := by decide +kernel
theorem dL_law_937 : decode cL_law 937 = .ok (.iload_n 3, 1) := by decide +kernel
theorem dL_law_938 : decode cL_law 938 = .ok (.iconst 1, 1) := by decide +kernel
theorem dL_law_939 : decode cL_law 939 = .ok (.iadd, 1) := by decide +kernel
theorem dL_law_940 : decode cL_law 940 = .ok (.iaload, 1) := by decide +kernel
theorem dL_law_941 : decode cL_law 941 = .ok (.aload_n 0, 1) := by decide +kernel
theorem dL_law_942 : decode cL_law 942 = .ok (.iload_n 3, 1) := by decide +kernel
theorem dL_law_943 : decode cL_law 943 = .ok (.iconst 2, 1) := by decide +kernel
theorem dL_law_944 : decode cL_law 944 = .ok (.iadd, 1) := by decide +kernel
theorem dL_law_945 : decode cL_law 945 = .ok (.iaload, 1) := by decide +kernel
theorem dL_law_946 : decode cL_law 946 = .ok (.invokevirtual 106, 3) := by decide +kernel
theorem dL_law_949 : decode cL_law 949 = .ok (.if_icmp .eq 362, 3) := by decide +kernel
theorem dL_law_952 : decode cL_law 952 = .ok (.iconst 0, 1) := by decide +kernel
theorem dL_law_953 : decode cL_law 953 = .ok (.ireturn, 1) := by decide +kernel
theorem dL_law_954 : decode cL_law 954 = .ok (.aload_n 1, 1) := by decide +kernel
theorem dL_law_955 : decode cL_law 955 = .ok (.aload_n 0, 1) := by decide +kernel
theorem dL_law_956 : decode cL_law 956 = .ok (.iload_n 3, 1) := by decide +kernel
theorem dL_law_957 : decode cL_law 957 = .ok (.iconst 1, 1) := by decide +kernel
theorem dL_law_958 : decode cL_law 958 = .ok (.iadd, 1) := by decide +kernel
theorem dL_law_959 : decode cL_law 959 = .ok (.iaload, 1) := by decide +kernel
theorem dL_law_960 : decode cL_law 960 = .ok (.aload_n 0, 1) := by decide +kernel
theorem dL_law_961 : decode cL_law 961 = .ok (.iload_n 3, 1) := by decide +kernel
theorem dL_law_962 : decode cL_law 962 = .ok (.iconst 2, 1) := by decide +kernel
theorem dL_law_963 : decode cL_law 963 = .ok (.iadd, 1) := by decide +kernel
theorem dL_law_964 : decode cL_law 964 = .ok (.iaload, 1) := by decide +kernel
theorem dL_law_965 : decode cL_law 965 = .ok (.invokevirtual 107, 3) := by decide +kernel
theorem dL_law_968 : decode cL_law 968 = .ok (.aload_n 2, 1) := by decide +kernel
theorem dL_law_969 : decode cL_law 969 = .ok (.aload_n 0, 1) := by decide +kernel
theorem dL_law_970 : decode cL_law 970 = .ok (.iload_n 3, 1) := by decide +kernel
theorem dL_law_971 : decode cL_law 971 = .ok (.iconst 1, 1) := by decide +kernel
theorem dL_law_972 : decode cL_law 972 = .ok (.iadd, 1) := by decide +kernel
theorem dL_law_973 : decode cL_law 973 = .ok (.iaload, 1) := by decide +kernel
theorem dL_law_974 : decode cL_law 974 = .ok (.aload_n 0, 1) := by decide +kernel
theorem dL_law_975 : decode cL_law 975 = .ok (.iload_n 3, 1) := by decide +kernel
theorem dL_law_976 : decode cL_law 976 = .ok (.iconst 2, 1) := by decide +kernel
theorem dL_law_977 : decode cL_law 977 = .ok (.iadd, 1) := by decide +kernel
theorem dL_law_978 : decode cL_law 978 = .ok (.iaload, 1) := by decide +kernel
theorem dL_law_979 : decode cL_law 979 = .ok (.invokevirtual 110, 3) := by decide +kernel
theorem dL_law_982 : decode cL_law 982 = .ok (.if_icmp .eq 329, 3) := by decide +kernel
theorem dL_law_985 : decode cL_law 985 = .ok (.iconst 0, 1) := by decide +kernel
theorem dL_law_986 : decode cL_law 986 = .ok (.ireturn, 1) := by decide +kernel
theorem dL_law_987 : decode cL_law 987 = .ok (.aload_n 1, 1) := by decide +kernel
theorem dL_law_988 : decode cL_law 988 = .ok (.aload_n 0, 1) := by decide +kernel
theorem dL_law_989 : decode cL_law 989 = .ok (.iload_n 3, 1) := by decide +kernel
theorem dL_law_990 : decode cL_law 990 = .ok (.iconst 1, 1) := by decide +kernel
theorem dL_law_991 : decode cL_law 991 = .ok (.iadd, 1) := by decide +kernel
theorem dL_law_992 : decode cL_law 992 = .ok (.iaload, 1) := by decide +kernel
theorem dL_law_993 : decode cL_law 993 = .ok (.invokevirtual 111, 3) := by decide +kernel
theorem dL_law_996 : decode cL_law 996 = .ok (.aload_n 2, 1) := by decide +kernel
theorem dL_law_997 : decode cL_law 997 = .ok (.aload_n 0, 1) := by decide +kernel
theorem dL_law_998 : decode cL_law 998 = .ok (.iload_n 3, 1) := by decide +kernel
theorem dL_law_999 : decode cL_law 999 = .ok (.iconst 1, 1) := by decide +kernel
theorem dL_law_1000 : decode cL_law 1000 = .ok (.iadd, 1) := by decide +kernel
theorem dL_law_1001 : decode cL_law 1001 = .ok (.iaload, 1) := by decide +kernel
theorem dL_law_1002 : decode cL_law 1002 = .ok (.invokevirtual 114, 3) := by decide +kernel
theorem dL_law_1005 : decode cL_law 1005 = .ok (.if_icmp .eq 306, 3) := by decide +kernel
theorem dL_law_1008 : decode cL_law 1008 = .ok (.iconst 0, 1) := by decide +kernel
theorem dL_law_1009 : decode cL_law 1009 = .ok (.ireturn, 1) := by decide +kernel
theorem dL_law_1010 : decode cL_law 1010 = .ok (.aload_n 1, 1) := by decide +kernel
theorem dL_law_1011 : decode cL_law 1011 = .ok (.aload_n 0, 1) := by decide +kernel
theorem dL_law_1012 : decode cL_law 1012 = .ok (.iload_n 3, 1) := by decide +kernel
theorem dL_law_1013 : decode cL_law 1013 = .ok (.iconst 1, 1) := by decide +kernel
theorem dL_law_1014 : decode cL_law 1014 = .ok (.iadd, 1) := by decide +kernel
theorem dL_law_1015 : decode cL_law 1015 = .ok (.iaload, 1) := by decide +kernel
theorem dL_law_1016 : decode cL_law 1016 = .ok (.invokevirtual 115, 3) := by decide +kernel
theorem dL_law_1019 : decode cL_law 1019 = .ok (.aload_n 2, 1) := by decide +kernel
theorem dL_law_1020 : decode cL_law 1020 = .ok (.aload_n 0, 1) := by decide +kernel
theorem dL_law_1021 : decode cL_law 1021 = .ok (.iload_n 3, 1) := by decide +kernel
theorem dL_law_1022 : decode cL_law 1022 = .ok (.iconst 1, 1) := by decide +kernel
theorem dL_law_1023 : decode cL_law 1023 = .ok (.iadd, 1) := by decide +kernel
theorem dL_law_1024 : decode cL_law 1024 = .ok (.iaload, 1) := by decide +kernel
theorem dL_law_1025 : decode cL_law 1025 = .ok (.invokevirtual 119, 3) := by decide +kernel
theorem dL_law_1028 : decode cL_law 1028 = .ok (.lcmp, 1) := by decide +kernel
theorem dL_law_1029 : decode cL_law 1029 = .ok (.ifCond .eq 282, 3) := by decide +kernel
theorem dL_law_1032 : decode cL_law 1032 = .ok (.iconst 0, 1) := by decide +kernel
theorem dL_law_1033 : decode cL_law 1033 = .ok (.ireturn, 1) := by decide +kernel
theorem dL_law_1034 : decode cL_law 1034 = .ok (.aload_n 1, 1) := by decide +kernel
theorem dL_law_1035 : decode cL_law 1035 = .ok (.aload_n 0, 1) := by decide +kernel
theorem dL_law_1036 : decode cL_law 1036 = .ok (.iload_n 3, 1) := by decide +kernel
theorem dL_law_1037 : decode cL_law 1037 = .ok (.iconst 1, 1) := by decide +kernel
theorem dL_law_1038 : decode cL_law 1038 = .ok (.iadd, 1) := by decide +kernel
theorem dL_law_1039 : decode cL_law 1039 = .ok (.iaload, 1) := by decide +kernel
theorem dL_law_1040 : decode cL_law 1040 = .ok (.aload_n 0, 1) := by decide +kernel
theorem dL_law_1041 : decode cL_law 1041 = .ok (.iload_n 3, 1) := by decide +kernel
theorem dL_law_1042 : decode cL_law 1042 = .ok (.iconst 2, 1) := by decide +kernel
theorem dL_law_1043 : decode cL_law 1043 = .ok (.iadd, 1) := by decide +kernel
theorem dL_law_1044 : decode cL_law 1044 = .ok (.iaload, 1) := by decide +kernel
theorem dL_law_1045 : decode cL_law 1045 = .ok (.invokevirtual 120, 3) := by decide +kernel
theorem dL_law_1048 : decode cL_law 1048 = .ok (.aload_n 2, 1) := by decide +kernel
theorem dL_law_1049 : decode cL_law 1049 = .ok (.aload_n 0, 1) := by decide +kernel
theorem dL_law_1050 : decode cL_law 1050 = .ok (.iload_n 3, 1) := by decide +kernel
theorem dL_law_1051 : decode cL_law 1051 = .ok (.iconst 1, 1) := by decide +kernel
theorem dL_law_1052 : decode cL_law 1052 = .ok (.iadd, 1) := by decide +kernel
theorem dL_law_1053 : decode cL_law 1053 = .ok (.iaload, 1) := by decide +kernel
theorem dL_law_1054 : decode cL_law 1054 = .ok (.aload_n 0, 1) := by decide +kernel
theorem dL_law_1055 : decode cL_law 1055 = .ok (.iload_n 3, 1) := by decide +kernel
theorem dL_law_1056 : decode cL_law 1056 = .ok (.iconst 2, 1) := by decide +kernel
theorem dL_law_1057 : decode cL_law 1057 = .ok (.iadd, 1) := by decide +kernel
theorem dL_law_1058 : decode cL_law 1058 = .ok (.iaload, 1) := by decide +kernel
theorem dL_law_1059 : decode cL_law 1059 = .ok (.invokevirtual 123, 3) := by decide +kernel
theorem dL_law_1062 : decode cL_law 1062 = .ok (.if_icmp .eq 249, 3) := by decide +kernel
theorem dL_law_1065 : decode cL_law 1065 = .ok (.iconst 0, 1) := by decide +kernel
theorem dL_law_1066 : decode cL_law 1066 = .ok (.ireturn, 1) := by decide +kernel
theorem dL_law_1067 : decode cL_law 1067 = .ok (.aload_n 1, 1) := by decide +kernel
theorem dL_law_1068 : decode cL_law 1068 = .ok (.aload_n 0, 1) := by decide +kernel
theorem dL_law_1069 : decode cL_law 1069 = .ok (.iload_n 3, 1) := by decide +kernel
theorem dL_law_1070 : decode cL_law 1070 = .ok (.iconst 1, 1) := by decide +kernel
theorem dL_law_1071 : decode cL_law 1071 = .ok (.iadd, 1) := by decide +kernel
theorem dL_law_1072 : decode cL_law 1072 = .ok (.iaload, 1) := by decide +kernel
theorem dL_law_1073 : decode cL_law 1073 = .ok (.aload_n 0, 1) := by decide +kernel
theorem dL_law_1074 : decode cL_law 1074 = .ok (.iload_n 3, 1) := by decide +kernel
theorem dL_law_1075 : decode cL_law 1075 = .ok (.iconst 2, 1) := by decide +kernel
theorem dL_law_1076 : decode cL_law 1076 = .ok (.iadd, 1) := by decide +kernel
theorem dL_law_1077 : decode cL_law 1077 = .ok (.iaload, 1) := by decide +kernel
theorem dL_law_1078 : decode cL_law 1078 = .ok (.aload_n 0, 1) := by decide +kernel
theorem dL_law_1079 : decode cL_law 1079 = .ok (.iload_n 3, 1) := by decide +kernel
theorem dL_law_1080 : decode cL_law 1080 = .ok (.iconst 3, 1) := by decide +kernel
theorem dL_law_1081 : decode cL_law 1081 = .ok (.iadd, 1) := by decide +kernel
theorem dL_law_1082 : decode cL_law 1082 = .ok (.iaload, 1) := by decide +kernel
theorem dL_law_1083 : decode cL_law 1083 = .ok (.invokevirtual 124, 3) := by decide +kernel
theorem dL_law_1086 : decode cL_law 1086 = .ok (.aload_n 2, 1) := by decide +kernel
theorem dL_law_1087 : decode cL_law 1087 = .ok (.aload_n 0, 1) := by decide +kernel
theorem dL_law_1088 : decode cL_law 1088 = .ok (.iload_n 3, 1) := by decide +kernel
theorem dL_law_1089 : decode cL_law 1089 = .ok (.iconst 1, 1) := by decide +kernel
theorem dL_law_1090 : decode cL_law 1090 = .ok (.iadd, 1) := by decide +kernel
theorem dL_law_1091 : decode cL_law 1091 = .ok (.iaload, 1) := by decide +kernel
theorem dL_law_1092 : decode cL_law 1092 = .ok (.aload_n 0, 1) := by decide +kernel
theorem dL_law_1093 : decode cL_law 1093 = .ok (.iload_n 3, 1) := by decide +kernel
theorem dL_law_1094 : decode cL_law 1094 = .ok (.iconst 2, 1) := by decide +kernel
theorem dL_law_1095 : decode cL_law 1095 = .ok (.iadd, 1) := by decide +kernel
theorem dL_law_1096 : decode cL_law 1096 = .ok (.iaload, 1) := by decide +kernel
theorem dL_law_1097 : decode cL_law 1097 = .ok (.aload_n 0, 1) := by decide +kernel
theorem dL_law_1098 : decode cL_law 1098 = .ok (.iload_n 3, 1) := by decide +kernel
theorem dL_law_1099 : decode cL_law 1099 = .ok (.iconst 3, 1) := by decide +kernel
theorem dL_law_1100 : decode cL_law 1100 = .ok (.iadd, 1) := by decide +kernel
theorem dL_law_1101 : decode cL_law 1101 = .ok (.iaload, 1) := by decide +kernel
theorem dL_law_1102 : decode cL_law 1102 = .ok (.invokevirtual 127, 3) := by decide +kernel
theorem dL_law_1105 : decode cL_law 1105 = .ok (.if_icmp .eq 206, 3) := by decide +kernel
theorem dL_law_1108 : decode cL_law 1108 = .ok (.iconst 0, 1) := by decide +kernel
theorem dL_law_1109 : decode cL_law 1109 = .ok (.ireturn, 1) := by decide +kernel
theorem dL_law_1110 : decode cL_law 1110 = .ok (.aload_n 1, 1) := by decide +kernel
theorem dL_law_1111 : decode cL_law 1111 = .ok (.aload_n 0, 1) := by decide +kernel
theorem dL_law_1112 : decode cL_law 1112 = .ok (.iload_n 3, 1) := by decide +kernel
theorem dL_law_1113 : decode cL_law 1113 = .ok (.iconst 1, 1) := by decide +kernel
theorem dL_law_1114 : decode cL_law 1114 = .ok (.iadd, 1) := by decide +kernel
theorem dL_law_1115 : decode cL_law 1115 = .ok (.iaload, 1) := by decide +kernel
theorem dL_law_1116 : decode cL_law 1116 = .ok (.aload_n 0, 1) := by decide +kernel
theorem dL_law_1117 : decode cL_law 1117 = .ok (.iload_n 3, 1) := by decide +kernel
theorem dL_law_1118 : decode cL_law 1118 = .ok (.iconst 2, 1) := by decide +kernel
theorem dL_law_1119 : decode cL_law 1119 = .ok (.iadd, 1) := by decide +kernel
theorem dL_law_1120 : decode cL_law 1120 = .ok (.iaload, 1) := by decide +kernel
theorem dL_law_1121 : decode cL_law 1121 = .ok (.invokevirtual 128, 3) := by decide +kernel
theorem dL_law_1124 : decode cL_law 1124 = .ok (.aload_n 2, 1) := by decide +kernel
theorem dL_law_1125 : decode cL_law 1125 = .ok (.aload_n 0, 1) := by decide +kernel
theorem dL_law_1126 : decode cL_law 1126 = .ok (.iload_n 3, 1) := by decide +kernel
theorem dL_law_1127 : decode cL_law 1127 = .ok (.iconst 1, 1) := by decide +kernel
theorem dL_law_1128 : decode cL_law 1128 = .ok (.iadd, 1) := by decide +kernel
theorem dL_law_1129 : decode cL_law 1129 = .ok (.iaload, 1) := by decide +kernel
theorem dL_law_1130 : decode cL_law 1130 = .ok (.aload_n 0, 1) := by decide +kernel
theorem dL_law_1131 : decode cL_law 1131 = .ok (.iload_n 3, 1) := by decide +kernel
theorem dL_law_1132 : decode cL_law 1132 = .ok (.iconst 2, 1) := by decide +kernel
theorem dL_law_1133 : decode cL_law 1133 = .ok (.iadd, 1) := by decide +kernel
theorem dL_law_1134 : decode cL_law 1134 = .ok (.iaload, 1) := by decide +kernel
theorem dL_law_1135 : decode cL_law 1135 = .ok (.invokevirtual 131, 3) := by decide +kernel
theorem dL_law_1138 : decode cL_law 1138 = .ok (.if_icmp .eq 173, 3) := by decide +kernel
theorem dL_law_1141 : decode cL_law 1141 = .ok (.iconst 0, 1) := by decide +kernel
theorem dL_law_1142 : decode cL_law 1142 = .ok (.ireturn, 1) := by decide +kernel
theorem dL_law_1143 : decode cL_law 1143 = .ok (.aload_n 1, 1) := by decide +kernel
theorem dL_law_1144 : decode cL_law 1144 = .ok (.aload_n 0, 1) := by decide +kernel
theorem dL_law_1145 : decode cL_law 1145 = .ok (.iload_n 3, 1) := by decide +kernel
theorem dL_law_1146 : decode cL_law 1146 = .ok (.iconst 1, 1) := by decide +kernel
theorem dL_law_1147 : decode cL_law 1147 = .ok (.iadd, 1) := by decide +kernel
theorem dL_law_1148 : decode cL_law 1148 = .ok (.iaload, 1) := by decide +kernel
theorem dL_law_1149 : decode cL_law 1149 = .ok (.invokevirtual 132, 3) := by decide +kernel
theorem dL_law_1152 : decode cL_law 1152 = .ok (.aload_n 2, 1) := by decide +kernel
theorem dL_law_1153 : decode cL_law 1153 = .ok (.aload_n 0, 1) := by decide +kernel
theorem dL_law_1154 : decode cL_law 1154 = .ok (.iload_n 3, 1) := by decide +kernel
theorem dL_law_1155 : decode cL_law 1155 = .ok (.iconst 1, 1) := by decide +kernel
theorem dL_law_1156 : decode cL_law 1156 = .ok (.iadd, 1) := by decide +kernel
theorem dL_law_1157 : decode cL_law 1157 = .ok (.iaload, 1) := by decide +kernel
theorem dL_law_1158 : decode cL_law 1158 = .ok (.invokevirtual 135, 3) := by decide +kernel
theorem dL_law_1161 : decode cL_law 1161 = .ok (.if_icmp .eq 150, 3) := by decide +kernel
theorem dL_law_1164 : decode cL_law 1164 = .ok (.iconst 0, 1) := by decide +kernel
theorem dL_law_1165 : decode cL_law 1165 = .ok (.ireturn, 1) := by decide +kernel
theorem dL_law_1166 : decode cL_law 1166 = .ok (.aload_n 1, 1) := by decide +kernel
theorem dL_law_1167 : decode cL_law 1167 = .ok (.aload_n 0, 1) := by decide +kernel
theorem dL_law_1168 : decode cL_law 1168 = .ok (.iload_n 3, 1) := by decide +kernel
theorem dL_law_1169 : decode cL_law 1169 = .ok (.iconst 1, 1) := by decide +kernel
theorem dL_law_1170 : decode cL_law 1170 = .ok (.iadd, 1) := by decide +kernel
theorem dL_law_1171 : decode cL_law 1171 = .ok (.iaload, 1) := by decide +kernel
theorem dL_law_1172 : decode cL_law 1172 = .ok (.invokevirtual 136, 3) := by decide +kernel
theorem dL_law_1175 : decode cL_law 1175 = .ok (.aload_n 2, 1) := by decide +kernel
theorem dL_law_1176 : decode cL_law 1176 = .ok (.aload_n 0, 1) := by decide +kernel
theorem dL_law_1177 : decode cL_law 1177 = .ok (.iload_n 3, 1) := by decide +kernel
theorem dL_law_1178 : decode cL_law 1178 = .ok (.iconst 1, 1) := by decide +kernel
theorem dL_law_1179 : decode cL_law 1179 = .ok (.iadd, 1) := by decide +kernel
theorem dL_law_1180 : decode cL_law 1180 = .ok (.iaload, 1) := by decide +kernel
theorem dL_law_1181 : decode cL_law 1181 = .ok (.invokevirtual 139, 3) := by decide +kernel
theorem dL_law_1184 : decode cL_law 1184 = .ok (.if_icmp .eq 127, 3) := by decide +kernel
theorem dL_law_1187 : decode cL_law 1187 = .ok (.iconst 0, 1) := by decide +kernel
theorem dL_law_1188 : decode cL_law 1188 = .ok (.ireturn, 1) := by decide +kernel
theorem dL_law_1189 : decode cL_law 1189 = .ok (.aload_n 1, 1) := by decide +kernel
theorem dL_law_1190 : decode cL_law 1190 = .ok (.aload_n 0, 1) := by decide +kernel
theorem dL_law_1191 : decode cL_law 1191 = .ok (.iload_n 3, 1) := by decide +kernel
theorem dL_law_1192 : decode cL_law 1192 = .ok (.iconst 1, 1) := by decide +kernel
theorem dL_law_1193 : decode cL_law 1193 = .ok (.iadd, 1) := by decide +kernel
theorem dL_law_1194 : decode cL_law 1194 = .ok (.iaload, 1) := by decide +kernel
theorem dL_law_1195 : decode cL_law 1195 = .ok (.aload_n 0, 1) := by decide +kernel
theorem dL_law_1196 : decode cL_law 1196 = .ok (.iload_n 3, 1) := by decide +kernel
theorem dL_law_1197 : decode cL_law 1197 = .ok (.iconst 2, 1) := by decide +kernel
theorem dL_law_1198 : decode cL_law 1198 = .ok (.iadd, 1) := by decide +kernel
theorem dL_law_1199 : decode cL_law 1199 = .ok (.iaload, 1) := by decide +kernel
theorem dL_law_1200 : decode cL_law 1200 = .ok (.invokevirtual 140, 3) := by decide +kernel
theorem dL_law_1203 : decode cL_law 1203 = .ok (.aload_n 2, 1) := by decide +kernel
theorem dL_law_1204 : decode cL_law 1204 = .ok (.aload_n 0, 1) := by decide +kernel
theorem dL_law_1205 : decode cL_law 1205 = .ok (.iload_n 3, 1) := by decide +kernel
theorem dL_law_1206 : decode cL_law 1206 = .ok (.iconst 1, 1) := by decide +kernel
theorem dL_law_1207 : decode cL_law 1207 = .ok (.iadd, 1) := by decide +kernel
theorem dL_law_1208 : decode cL_law 1208 = .ok (.iaload, 1) := by decide +kernel
theorem dL_law_1209 : decode cL_law 1209 = .ok (.aload_n 0, 1) := by decide +kernel
theorem dL_law_1210 : decode cL_law 1210 = .ok (.iload_n 3, 1) := by decide +kernel
theorem dL_law_1211 : decode cL_law 1211 = .ok (.iconst 2, 1) := by decide +kernel
theorem dL_law_1212 : decode cL_law 1212 = .ok (.iadd, 1) := by decide +kernel
theorem dL_law_1213 : decode cL_law 1213 = .ok (.iaload, 1) := by decide +kernel
theorem dL_law_1214 : decode cL_law 1214 = .ok (.invokevirtual 143, 3) := by decide +kernel
theorem dL_law_1217 : decode cL_law 1217 = .ok (.if_icmp .eq 94, 3) := by decide +kernel
theorem dL_law_1220 : decode cL_law 1220 = .ok (.iconst 0, 1) := by decide +kernel
theorem dL_law_1221 : decode cL_law 1221 = .ok (.ireturn, 1) := by decide +kernel
theorem dL_law_1222 : decode cL_law 1222 = .ok (.aload_n 1, 1) := by decide +kernel
theorem dL_law_1223 : decode cL_law 1223 = .ok (.aload_n 0, 1) := by decide +kernel
theorem dL_law_1224 : decode cL_law 1224 = .ok (.iload_n 3, 1) := by decide +kernel
theorem dL_law_1225 : decode cL_law 1225 = .ok (.iconst 1, 1) := by decide +kernel
theorem dL_law_1226 : decode cL_law 1226 = .ok (.iadd, 1) := by decide +kernel
theorem dL_law_1227 : decode cL_law 1227 = .ok (.iaload, 1) := by decide +kernel
theorem dL_law_1228 : decode cL_law 1228 = .ok (.invokevirtual 144, 3) := by decide +kernel
theorem dL_law_1231 : decode cL_law 1231 = .ok (.aload_n 2, 1) := by decide +kernel
theorem dL_law_1232 : decode cL_law 1232 = .ok (.aload_n 0, 1) := by decide +kernel
theorem dL_law_1233 : decode cL_law 1233 = .ok (.iload_n 3, 1) := by decide +kernel
theorem dL_law_1234 : decode cL_law 1234 = .ok (.iconst 1, 1) := by decide +kernel
theorem dL_law_1235 : decode cL_law 1235 = .ok (.iadd, 1) := by decide +kernel
theorem dL_law_1236 : decode cL_law 1236 = .ok (.iaload, 1) := by decide +kernel
theorem dL_law_1237 : decode cL_law 1237 = .ok (.invokevirtual 147, 3) := by decide +kernel
theorem dL_law_1240 : decode cL_law 1240 = .ok (.if_icmp .eq 71, 3) := by decide +kernel
theorem dL_law_1243 : decode cL_law 1243 = .ok (.iconst 0, 1) := by decide +kernel
theorem dL_law_1244 : decode cL_law 1244 = .ok (.ireturn, 1) := by decide +kernel
theorem dL_law_1245 : decode cL_law 1245 = .ok (.aload_n 1, 1) := by decide +kernel
theorem dL_law_1246 : decode cL_law 1246 = .ok (.aload_n 0, 1) := by decide +kernel
theorem dL_law_1247 : decode cL_law 1247 = .ok (.iload_n 3, 1) := by decide +kernel
theorem dL_law_1248 : decode cL_law 1248 = .ok (.iconst 1, 1) := by decide +kernel
theorem dL_law_1249 : decode cL_law 1249 = .ok (.iadd, 1) := by decide +kernel
theorem dL_law_1250 : decode cL_law 1250 = .ok (.iaload, 1) := by decide +kernel
theorem dL_law_1251 : decode cL_law 1251 = .ok (.aload_n 0, 1) := by decide +kernel
theorem dL_law_1252 : decode cL_law 1252 = .ok (.iload_n 3, 1) := by decide +kernel
theorem dL_law_1253 : decode cL_law 1253 = .ok (.iconst 2, 1) := by decide +kernel
theorem dL_law_1254 : decode cL_law 1254 = .ok (.iadd, 1) := by decide +kernel
theorem dL_law_1255 : decode cL_law 1255 = .ok (.iaload, 1) := by decide +kernel
theorem dL_law_1256 : decode cL_law 1256 = .ok (.invokevirtual 148, 3) := by decide +kernel
theorem dL_law_1259 : decode cL_law 1259 = .ok (.aload_n 2, 1) := by decide +kernel
theorem dL_law_1260 : decode cL_law 1260 = .ok (.aload_n 0, 1) := by decide +kernel
theorem dL_law_1261 : decode cL_law 1261 = .ok (.iload_n 3, 1) := by decide +kernel
theorem dL_law_1262 : decode cL_law 1262 = .ok (.iconst 1, 1) := by decide +kernel
theorem dL_law_1263 : decode cL_law 1263 = .ok (.iadd, 1) := by decide +kernel
theorem dL_law_1264 : decode cL_law 1264 = .ok (.iaload, 1) := by decide +kernel
theorem dL_law_1265 : decode cL_law 1265 = .ok (.aload_n 0, 1) := by decide +kernel
theorem dL_law_1266 : decode cL_law 1266 = .ok (.iload_n 3, 1) := by decide +kernel
theorem dL_law_1267 : decode cL_law 1267 = .ok (.iconst 2, 1) := by decide +kernel
theorem dL_law_1268 : decode cL_law 1268 = .ok (.iadd, 1) := by decide +kernel
theorem dL_law_1269 : decode cL_law 1269 = .ok (.iaload, 1) := by decide +kernel
theorem dL_law_1270 : decode cL_law 1270 = .ok (.invokevirtual 151, 3) := by decide +kernel
theorem dL_law_1273 : decode cL_law 1273 = .ok (.if_icmp .eq 38, 3) := by decide +kernel
theorem dL_law_1276 : decode cL_law 1276 = .ok (.iconst 0, 1) := by decide +kernel
theorem dL_law_1277 : decode cL_law 1277 = .ok (.ireturn, 1) := by decide +kernel
theorem dL_law_1278 : decode cL_law 1278 = .ok (.aload_n 1, 1) := by decide +kernel
theorem dL_law_1279 : decode cL_law 1279 = .ok (.aload_n 0, 1) := by decide +kernel
theorem dL_law_1280 : decode cL_law 1280 = .ok (.iload_n 3, 1) := by decide +kernel
theorem dL_law_1281 : decode cL_law 1281 = .ok (.iconst 1, 1) := by decide +kernel
theorem dL_law_1282 : decode cL_law 1282 = .ok (.iadd, 1) := by decide +kernel
theorem dL_law_1283 : decode cL_law 1283 = .ok (.iaload, 1) := by decide +kernel
theorem dL_law_1284 : decode cL_law 1284 = .ok (.aload_n 0, 1) := by decide +kernel
theorem dL_law_1285 : decode cL_law 1285 = .ok (.iload_n 3, 1) := by decide +kernel
theorem dL_law_1286 : decode cL_law 1286 = .ok (.iconst 2, 1) := by decide +kernel
theorem dL_law_1287 : decode cL_law 1287 = .ok (.iadd, 1) := by decide +kernel
theorem dL_law_1288 : decode cL_law 1288 = .ok (.iaload, 1) := by decide +kernel
theorem dL_law_1289 : decode cL_law 1289 = .ok (.invokevirtual 152, 3) := by decide +kernel
theorem dL_law_1292 : decode cL_law 1292 = .ok (.aload_n 2, 1) := by decide +kernel
theorem dL_law_1293 : decode cL_law 1293 = .ok (.aload_n 0, 1) := by decide +kernel
theorem dL_law_1294 : decode cL_law 1294 = .ok (.iload_n 3, 1) := by decide +kernel
theorem dL_law_1295 : decode cL_law 1295 = .ok (.iconst 1, 1) := by decide +kernel
theorem dL_law_1296 : decode cL_law 1296 = .ok (.iadd, 1) := by decide +kernel
theorem dL_law_1297 : decode cL_law 1297 = .ok (.iaload, 1) := by decide +kernel
theorem dL_law_1298 : decode cL_law 1298 = .ok (.aload_n 0, 1) := by decide +kernel
theorem dL_law_1299 : decode cL_law 1299 = .ok (.iload_n 3, 1) := by decide +kernel
theorem dL_law_1300 : decode cL_law 1300 = .ok (.iconst 2, 1) := by decide +kernel
theorem dL_law_1301 : decode cL_law 1301 = .ok (.iadd, 1) := by decide +kernel
theorem dL_law_1302 : decode cL_law 1302 = .ok (.iaload, 1) := by decide +kernel
theorem dL_law_1303 : decode cL_law 1303 = .ok (.invokevirtual 155, 3) := by decide +kernel
theorem dL_law_1306 : decode cL_law 1306 = .ok (.if_icmp .eq 5, 3) := by decide +kernel
theorem dL_law_1309 : decode cL_law 1309 = .ok (.iconst 0, 1) := by decide +kernel
theorem dL_law_1310 : decode cL_law 1310 = .ok (.ireturn, 1) := by decide +kernel
theorem dL_law_1311 : decode cL_law 1311 = .ok (.iinc 3 8, 3) := by decide +kernel
theorem dL_law_1314 : decode cL_law 1314 = .ok (.goto (-1296), 3) := by decide +kernel
theorem dL_law_1317 : decode cL_law 1317 = .ok (.iconst 1, 1) := by decide +kernel
theorem dL_law_1318 : decode cL_law 1318 = .ok (.ireturn, 1) := by decide +kernel
def PL_L_law_18 (d : Nat) (E : zb_E) (x1 : Int) (x2 : Int) (Ln : Nat) (xs : Nat → Int32) (Q : Int → zb_M → Prop)  (v3_18 : Int) (m18l : zb_M) : Prop :=
  ∀ X18 : Int → zb_M → Prop, (∀ (v3_18 : Int) (m18l : zb_M), ((zb_inI ((Ln : Int) - 8)) ∧ ((((Ln : Int) - 8) < v3_18 → Q 1 m18l) ∧ (¬ ((Ln : Int) - 8) < v3_18 → (0 ≤ v3_18 ∧ v3_18 < (Ln : Int)) ∧ (((zb_and (xs (v3_18).toNat).toInt 63) = 0 → (zb_inI (v3_18 + 1)) ∧ ((0 ≤ (v3_18 + 1) ∧ (v3_18 + 1) < (Ln : Int)) ∧ ((zb_inI (v3_18 + 2)) ∧ ((0 ≤ (v3_18 + 2) ∧ (v3_18 + 2) < (Ln : Int)) ∧ ((zb_inI (v3_18 + 3)) ∧ ((0 ≤ (v3_18 + 3) ∧ (v3_18 + 3) < (Ln : Int)) ∧ ((zb_inI (v3_18 + 4)) ∧ ((0 ≤ (v3_18 + 4) ∧ (v3_18 + 4) < (Ln : Int)) ∧ (zb_T K_X11_thing d [(2, x1), (0, (xs ((v3_18 + 1)).toNat).toInt), (0, (xs ((v3_18 + 2)).toNat).toInt), (0, (xs ((v3_18 + 3)).toNat).toInt), (0, (xs ((v3_18 + 4)).toNat).toInt)] E m18l (fun r205 m205 => zb_T K_X12_thing d [(2, x2), (0, (xs ((v3_18 + 1)).toNat).toInt), (0, (xs ((v3_18 + 2)).toNat).toInt), (0, (xs ((v3_18 + 3)).toNat).toInt), (0, (xs ((v3_18 + 4)).toNat).toInt)] E m205 (fun r229 m229 => (r205 = r229 → (zb_inI (v3_18 + 8)) ∧ (X18 (v3_18 + 8) m229)) ∧ (¬ r205 = r229 → Q 0 m229)))))))))))) ∧ ((zb_and (xs (v3_18).toNat).toInt 63) = 1 → (zb_inI (v3_18 + 1)) ∧ ((0 ≤ (v3_18 + 1) ∧ (v3_18 + 1) < (Ln : Int)) ∧ ((zb_inI (v3_18 + 2)) ∧ ((0 ≤ (v3_18 + 2) ∧ (v3_18 + 2) < (Ln : Int)) ∧ ((zb_inI (v3_18 + 3)) ∧ ((0 ≤ (v3_18 + 3) ∧ (v3_18 + 3) < (Ln : Int)) ∧ (zb_T K_X11_colour d [(2, x1), (0, (xs ((v3_18 + 1)).toNat).toInt), (0, (xs ((v3_18 + 2)).toNat).toInt), (0, (xs ((v3_18 + 3)).toNat).toInt)] E m18l (fun r253 m253 => zb_T K_X12_colour d [(2, x2), (0, (xs ((v3_18 + 1)).toNat).toInt), (0, (xs ((v3_18 + 2)).toNat).toInt), (0, (xs ((v3_18 + 3)).toNat).toInt)] E m253 (fun r272 m272 => (r253 = r272 → (zb_inI (v3_18 + 8)) ∧ (X18 (v3_18 + 8) m272)) ∧ (¬ r253 = r272 → Q 0 m272)))))))))) ∧ ((zb_and (xs (v3_18).toNat).toInt 63) = 2 → (zb_inI (v3_18 + 1)) ∧ ((0 ≤ (v3_18 + 1) ∧ (v3_18 + 1) < (Ln : Int)) ∧ ((zb_inI (v3_18 + 2)) ∧ ((0 ≤ (v3_18 + 2) ∧ (v3_18 + 2) < (Ln : Int)) ∧ ((zb_inI (v3_18 + 3)) ∧ ((0 ≤ (v3_18 + 3) ∧ (v3_18 + 3) < (Ln : Int)) ∧ (zb_T K_X11_word d [(2, x1), (0, (xs ((v3_18 + 1)).toNat).toInt), (0, (xs ((v3_18 + 2)).toNat).toInt), (0, (xs ((v3_18 + 3)).toNat).toInt)] E m18l (fun r296 m296 => zb_T K_X12_word d [(2, x2), (0, (xs ((v3_18 + 1)).toNat).toInt), (0, (xs ((v3_18 + 2)).toNat).toInt), (0, (xs ((v3_18 + 3)).toNat).toInt)] E m296 (fun r315 m315 => (r296 = r315 → (zb_inI (v3_18 + 8)) ∧ (X18 (v3_18 + 8) m315)) ∧ (¬ r296 = r315 → Q 0 m315)))))))))) ∧ ((zb_and (xs (v3_18).toNat).toInt 63) = 3 → (zb_inI (v3_18 + 1)) ∧ ((0 ≤ (v3_18 + 1) ∧ (v3_18 + 1) < (Ln : Int)) ∧ ((zb_inI (v3_18 + 2)) ∧ ((0 ≤ (v3_18 + 2) ∧ (v3_18 + 2) < (Ln : Int)) ∧ ((zb_inI (v3_18 + 3)) ∧ ((0 ≤ (v3_18 + 3) ∧ (v3_18 + 3) < (Ln : Int)) ∧ (zb_T K_X11_row d [(2, x1), (0, (xs ((v3_18 + 1)).toNat).toInt), (0, (xs ((v3_18 + 2)).toNat).toInt), (0, (xs ((v3_18 + 3)).toNat).toInt)] E m18l (fun r339 m339 => zb_T K_X12_row d [(2, x2), (0, (xs ((v3_18 + 1)).toNat).toInt), (0, (xs ((v3_18 + 2)).toNat).toInt), (0, (xs ((v3_18 + 3)).toNat).toInt)] E m339 (fun r358 m358 => (r339 = r358 → (zb_inI (v3_18 + 8)) ∧ (X18 (v3_18 + 8) m358)) ∧ (¬ r339 = r358 → Q 0 m358)))))))))) ∧ ((zb_and (xs (v3_18).toNat).toInt 63) = 4 → (zb_inI (v3_18 + 1)) ∧ ((0 ≤ (v3_18 + 1) ∧ (v3_18 + 1) < (Ln : Int)) ∧ ((zb_inI (v3_18 + 2)) ∧ ((0 ≤ (v3_18 + 2) ∧ (v3_18 + 2) < (Ln : Int)) ∧ (zb_T K_X11_unrow d [(2, x1), (0, (xs ((v3_18 + 1)).toNat).toInt), (0, (xs ((v3_18 + 2)).toNat).toInt)] E m18l (fun r377 m377 => zb_T K_X12_unrow d [(2, x2), (0, (xs ((v3_18 + 1)).toNat).toInt), (0, (xs ((v3_18 + 2)).toNat).toInt)] E m377 (fun r391 m391 => (r377 = r391 → (zb_inI (v3_18 + 8)) ∧ (X18 (v3_18 + 8) m391)) ∧ (¬ r377 = r391 → Q 0 m391)))))))) ∧ ((zb_and (xs (v3_18).toNat).toInt 63) = 5 → (zb_inI (v3_18 + 1)) ∧ ((0 ≤ (v3_18 + 1) ∧ (v3_18 + 1) < (Ln : Int)) ∧ ((zb_inI (v3_18 + 2)) ∧ ((0 ≤ (v3_18 + 2) ∧ (v3_18 + 2) < (Ln : Int)) ∧ ((zb_inI (v3_18 + 3)) ∧ ((0 ≤ (v3_18 + 3) ∧ (v3_18 + 3) < (Ln : Int)) ∧ ((zb_inI (v3_18 + 4)) ∧ ((0 ≤ (v3_18 + 4) ∧ (v3_18 + 4) < (Ln : Int)) ∧ (zb_T K_X11_place d [(2, x1), (0, (xs ((v3_18 + 1)).toNat).toInt), (0, (xs ((v3_18 + 2)).toNat).toInt), (0, (xs ((v3_18 + 3)).toNat).toInt), (0, (xs ((v3_18 + 4)).toNat).toInt)] E m18l (fun r420 m420 => zb_T K_X12_place d [(2, x2), (0, (xs ((v3_18 + 1)).toNat).toInt), (0, (xs ((v3_18 + 2)).toNat).toInt), (0, (xs ((v3_18 + 3)).toNat).toInt), (0, (xs ((v3_18 + 4)).toNat).toInt)] E m420 (fun r444 m444 => (r420 = r444 → (zb_inI (v3_18 + 8)) ∧ (X18 (v3_18 + 8) m444)) ∧ (¬ r420 = r444 → Q 0 m444)))))))))))) ∧ ((zb_and (xs (v3_18).toNat).toInt 63) = 6 → (zb_inI (v3_18 + 1)) ∧ ((0 ≤ (v3_18 + 1) ∧ (v3_18 + 1) < (Ln : Int)) ∧ ((zb_inI (v3_18 + 2)) ∧ ((0 ≤ (v3_18 + 2) ∧ (v3_18 + 2) < (Ln : Int)) ∧ ((zb_inI (v3_18 + 3)) ∧ ((0 ≤ (v3_18 + 3) ∧ (v3_18 + 3) < (Ln : Int)) ∧ (zb_Tp K_X11_line d [(2, x1), (0, (xs ((v3_18 + 1)).toNat).toInt), (0, (xs ((v3_18 + 2)).toNat).toInt), (0, (xs ((v3_18 + 3)).toNat).toInt)] E m18l (fun r468 => zb_Tp K_X12_line d [(2, x2), (0, (xs ((v3_18 + 1)).toNat).toInt), (0, (xs ((v3_18 + 2)).toNat).toInt), (0, (xs ((v3_18 + 3)).toNat).toInt)] E m18l (fun r487 => (r468 = r487 → (zb_inI (v3_18 + 8)) ∧ (X18 (v3_18 + 8) m18l)) ∧ (¬ r468 = r487 → Q 0 m18l)))))))))) ∧ ((zb_and (xs (v3_18).toNat).toInt 63) = 7 → (zb_inI (v3_18 + 1)) ∧ ((0 ≤ (v3_18 + 1) ∧ (v3_18 + 1) < (Ln : Int)) ∧ ((zb_inI (v3_18 + 2)) ∧ ((0 ≤ (v3_18 + 2) ∧ (v3_18 + 2) < (Ln : Int)) ∧ ((zb_inI (v3_18 + 3)) ∧ ((0 ≤ (v3_18 + 3) ∧ (v3_18 + 3) < (Ln : Int)) ∧ ((zb_inI (v3_18 + 4)) ∧ ((0 ≤ (v3_18 + 4) ∧ (v3_18 + 4) < (Ln : Int)) ∧ ((zb_inI (v3_18 + 5)) ∧ ((0 ≤ (v3_18 + 5) ∧ (v3_18 + 5) < (Ln : Int)) ∧ ((zb_inI (v3_18 + 6)) ∧ ((0 ≤ (v3_18 + 6) ∧ (v3_18 + 6) < (Ln : Int)) ∧ ((zb_inI (v3_18 + 7)) ∧ ((0 ≤ (v3_18 + 7) ∧ (v3_18 + 7) < (Ln : Int)) ∧ (zb_T K_X11_copy d [(2, x1), (0, (xs ((v3_18 + 1)).toNat).toInt), (0, (xs ((v3_18 + 2)).toNat).toInt), (0, (xs ((v3_18 + 3)).toNat).toInt), (0, (xs ((v3_18 + 4)).toNat).toInt), (0, (xs ((v3_18 + 5)).toNat).toInt), (0, (xs ((v3_18 + 6)).toNat).toInt), (0, (xs ((v3_18 + 7)).toNat).toInt)] E m18l (fun r533 m533 => zb_T K_X12_copy d [(2, x2), (0, (xs ((v3_18 + 1)).toNat).toInt), (0, (xs ((v3_18 + 2)).toNat).toInt), (0, (xs ((v3_18 + 3)).toNat).toInt), (0, (xs ((v3_18 + 4)).toNat).toInt), (0, (xs ((v3_18 + 5)).toNat).toInt), (0, (xs ((v3_18 + 6)).toNat).toInt), (0, (xs ((v3_18 + 7)).toNat).toInt)] E m533 (fun r574 m574 => (r533 = r574 → (zb_inI (v3_18 + 8)) ∧ (X18 (v3_18 + 8) m574)) ∧ (¬ r533 = r574 → Q 0 m574)))))))))))))))))) ∧ ((zb_and (xs (v3_18).toNat).toInt 63) = 8 → (zb_inI (v3_18 + 1)) ∧ ((0 ≤ (v3_18 + 1) ∧ (v3_18 + 1) < (Ln : Int)) ∧ ((zb_inI (v3_18 + 2)) ∧ ((0 ≤ (v3_18 + 2) ∧ (v3_18 + 2) < (Ln : Int)) ∧ ((zb_inI (v3_18 + 3)) ∧ ((0 ≤ (v3_18 + 3) ∧ (v3_18 + 3) < (Ln : Int)) ∧ (zb_T K_X11_swap d [(2, x1), (0, (xs ((v3_18 + 1)).toNat).toInt), (0, (xs ((v3_18 + 2)).toNat).toInt), (0, (xs ((v3_18 + 3)).toNat).toInt)] E m18l (fun r598 m598 => zb_T K_X12_swap d [(2, x2), (0, (xs ((v3_18 + 1)).toNat).toInt), (0, (xs ((v3_18 + 2)).toNat).toInt), (0, (xs ((v3_18 + 3)).toNat).toInt)] E m598 (fun r617 m617 => (r598 = r617 → (zb_inI (v3_18 + 8)) ∧ (X18 (v3_18 + 8) m617)) ∧ (¬ r598 = r617 → Q 0 m617)))))))))) ∧ ((zb_and (xs (v3_18).toNat).toInt 63) = 9 → (zb_inI (v3_18 + 1)) ∧ ((0 ≤ (v3_18 + 1) ∧ (v3_18 + 1) < (Ln : Int)) ∧ ((zb_inI (v3_18 + 2)) ∧ ((0 ≤ (v3_18 + 2) ∧ (v3_18 + 2) < (Ln : Int)) ∧ (zb_T K_X11_twin d [(2, x1), (0, (xs ((v3_18 + 1)).toNat).toInt), (0, (xs ((v3_18 + 2)).toNat).toInt)] E m18l (fun r636 m636 => zb_T K_X12_twin d [(2, x2), (0, (xs ((v3_18 + 1)).toNat).toInt), (0, (xs ((v3_18 + 2)).toNat).toInt)] E m636 (fun r650 m650 => (r636 = r650 → (zb_inI (v3_18 + 8)) ∧ (X18 (v3_18 + 8) m650)) ∧ (¬ r636 = r650 → Q 0 m650)))))))) ∧ ((zb_and (xs (v3_18).toNat).toInt 63) = 10 → (zb_inI (v3_18 + 1)) ∧ ((0 ≤ (v3_18 + 1) ∧ (v3_18 + 1) < (Ln : Int)) ∧ (zb_T K_X11_drop d [(2, x1), (0, (xs ((v3_18 + 1)).toNat).toInt)] E m18l (fun r664 m664 => zb_T K_X12_drop d [(2, x2), (0, (xs ((v3_18 + 1)).toNat).toInt)] E m664 (fun r673 m673 => (r664 = r673 → (zb_inI (v3_18 + 8)) ∧ (X18 (v3_18 + 8) m673)) ∧ (¬ r664 = r673 → Q 0 m673)))))) ∧ ((zb_and (xs (v3_18).toNat).toInt 63) = 11 → (zb_inI (v3_18 + 1)) ∧ ((0 ≤ (v3_18 + 1) ∧ (v3_18 + 1) < (Ln : Int)) ∧ ((zb_inI (v3_18 + 2)) ∧ ((0 ≤ (v3_18 + 2) ∧ (v3_18 + 2) < (Ln : Int)) ∧ ((zb_inI (v3_18 + 3)) ∧ ((0 ≤ (v3_18 + 3) ∧ (v3_18 + 3) < (Ln : Int)) ∧ (zb_Tp K_X11_told d [(2, x1), (0, (xs ((v3_18 + 1)).toNat).toInt), (0, (xs ((v3_18 + 2)).toNat).toInt), (0, (xs ((v3_18 + 3)).toNat).toInt)] E m18l (fun r697 => zb_Tp K_X12_told d [(2, x2), (0, (xs ((v3_18 + 1)).toNat).toInt), (0, (xs ((v3_18 + 2)).toNat).toInt), (0, (xs ((v3_18 + 3)).toNat).toInt)] E m18l (fun r716 => (r697 = r716 → (zb_inI (v3_18 + 8)) ∧ (X18 (v3_18 + 8) m18l)) ∧ (¬ r697 = r716 → Q 0 m18l)))))))))) ∧ ((zb_and (xs (v3_18).toNat).toInt 63) = 12 → (zb_inI (v3_18 + 1)) ∧ ((0 ≤ (v3_18 + 1) ∧ (v3_18 + 1) < (Ln : Int)) ∧ ((zb_inI (v3_18 + 2)) ∧ ((0 ≤ (v3_18 + 2) ∧ (v3_18 + 2) < (Ln : Int)) ∧ (zb_Tp K_X11_count d [(2, x1), (0, (xs ((v3_18 + 1)).toNat).toInt), (0, (xs ((v3_18 + 2)).toNat).toInt)] E m18l (fun r735 => zb_Tp K_X12_count d [(2, x2), (0, (xs ((v3_18 + 1)).toNat).toInt), (0, (xs ((v3_18 + 2)).toNat).toInt)] E m18l (fun r749 => (r735 = r749 → (zb_inI (v3_18 + 8)) ∧ (X18 (v3_18 + 8) m18l)) ∧ (¬ r735 = r749 → Q 0 m18l)))))))) ∧ ((zb_and (xs (v3_18).toNat).toInt 63) = 13 → zb_T K_X11_undo d [(2, x1)] E m18l (fun r758 m758 => zb_T K_X12_undo d [(2, x2)] E m758 (fun r762 m762 => (r758 = r762 → (zb_inI (v3_18 + 8)) ∧ (X18 (v3_18 + 8) m762)) ∧ (¬ r758 = r762 → Q 0 m762)))) ∧ ((zb_and (xs (v3_18).toNat).toInt 63) = 14 → (zb_inI (v3_18 + 1)) ∧ ((0 ≤ (v3_18 + 1) ∧ (v3_18 + 1) < (Ln : Int)) ∧ (zb_T K_X11_split d [(2, x1), (0, (xs ((v3_18 + 1)).toNat).toInt)] E m18l (fun r776 m776 => zb_T K_X12_split d [(2, x2), (0, (xs ((v3_18 + 1)).toNat).toInt)] E m776 (fun r785 m785 => (r776 = r785 → (zb_inI (v3_18 + 8)) ∧ (X18 (v3_18 + 8) m785)) ∧ (¬ r776 = r785 → Q 0 m785)))))) ∧ ((zb_and (xs (v3_18).toNat).toInt 63) = 15 → (zb_inI (v3_18 + 1)) ∧ ((0 ≤ (v3_18 + 1) ∧ (v3_18 + 1) < (Ln : Int)) ∧ (zb_T K_X11_mark d [(2, x1), (0, (xs ((v3_18 + 1)).toNat).toInt)] E m18l (fun r799 m799 => zb_T K_X12_mark d [(2, x2), (0, (xs ((v3_18 + 1)).toNat).toInt)] E m799 (fun r808 m808 => (r799 = r808 → (zb_inI (v3_18 + 8)) ∧ (X18 (v3_18 + 8) m808)) ∧ (¬ r799 = r808 → Q 0 m808)))))) ∧ ((zb_and (xs (v3_18).toNat).toInt 63) = 16 → (zb_inI (v3_18 + 1)) ∧ ((0 ≤ (v3_18 + 1) ∧ (v3_18 + 1) < (Ln : Int)) ∧ (zb_Tp K_X11_heapOf d [(2, x1), (0, (xs ((v3_18 + 1)).toNat).toInt)] E m18l (fun r822 => zb_Tp K_X12_heapOf d [(2, x2), (0, (xs ((v3_18 + 1)).toNat).toInt)] E m18l (fun r831 => (r822 = r831 → (zb_inI (v3_18 + 8)) ∧ (X18 (v3_18 + 8) m18l)) ∧ (¬ r822 = r831 → Q 0 m18l)))))) ∧ ((zb_and (xs (v3_18).toNat).toInt 63) = 17 → (zb_inI (v3_18 + 1)) ∧ ((0 ≤ (v3_18 + 1) ∧ (v3_18 + 1) < (Ln : Int)) ∧ (zb_T K_X11_name d [(2, x1), (0, (xs ((v3_18 + 1)).toNat).toInt)] E m18l (fun r845 m845 => zb_T K_X12_name d [(2, x2), (0, (xs ((v3_18 + 1)).toNat).toInt)] E m845 (fun r854 m854 => (r845 = r854 → (zb_inI (v3_18 + 8)) ∧ (X18 (v3_18 + 8) m854)) ∧ (¬ r845 = r854 → Q 0 m854)))))) ∧ ((zb_and (xs (v3_18).toNat).toInt 63) = 18 → (zb_inI (v3_18 + 1)) ∧ ((0 ≤ (v3_18 + 1) ∧ (v3_18 + 1) < (Ln : Int)) ∧ (zb_Tp K_X11_nameAt d [(2, x1), (0, (xs ((v3_18 + 1)).toNat).toInt)] E m18l (fun r868 => zb_Tp K_X12_nameAt d [(2, x2), (0, (xs ((v3_18 + 1)).toNat).toInt)] E m18l (fun r877 => (r868 = r877 → (zb_inI (v3_18 + 8)) ∧ (X18 (v3_18 + 8) m18l)) ∧ (¬ r868 = r877 → Q 0 m18l)))))) ∧ ((zb_and (xs (v3_18).toNat).toInt 63) = 19 → (zb_inI (v3_18 + 1)) ∧ ((0 ≤ (v3_18 + 1) ∧ (v3_18 + 1) < (Ln : Int)) ∧ (zb_Tp K_X11_order d [(2, x1), (0, (xs ((v3_18 + 1)).toNat).toInt)] E m18l (fun r891 => zb_Tp K_X12_order d [(2, x2), (0, (xs ((v3_18 + 1)).toNat).toInt)] E m18l (fun r900 => (r891 = r900 → (zb_inI (v3_18 + 8)) ∧ (X18 (v3_18 + 8) m18l)) ∧ (¬ r891 = r900 → Q 0 m18l)))))) ∧ ((zb_and (xs (v3_18).toNat).toInt 63) = 20 → zb_Tp K_X11_nodes d [(2, x1)] E m18l (fun r909 => zb_Tp K_X12_nodes d [(2, x2)] E m18l (fun r913 => (r909 = r913 → (zb_inI (v3_18 + 8)) ∧ (X18 (v3_18 + 8) m18l)) ∧ (¬ r909 = r913 → Q 0 m18l)))) ∧ ((zb_and (xs (v3_18).toNat).toInt 63) = 21 → (zb_inI (v3_18 + 1)) ∧ ((0 ≤ (v3_18 + 1) ∧ (v3_18 + 1) < (Ln : Int)) ∧ ((zb_inI (v3_18 + 2)) ∧ ((0 ≤ (v3_18 + 2) ∧ (v3_18 + 2) < (Ln : Int)) ∧ (zb_T K_X11_same d [(2, x1), (0, (xs ((v3_18 + 1)).toNat).toInt), (0, (xs ((v3_18 + 2)).toNat).toInt)] E m18l (fun r932 m932 => zb_T K_X12_same d [(2, x2), (0, (xs ((v3_18 + 1)).toNat).toInt), (0, (xs ((v3_18 + 2)).toNat).toInt)] E m932 (fun r946 m946 => (r932 = r946 → (zb_inI (v3_18 + 8)) ∧ (X18 (v3_18 + 8) m946)) ∧ (¬ r932 = r946 → Q 0 m946)))))))) ∧ ((zb_and (xs (v3_18).toNat).toInt 63) = 22 → (zb_inI (v3_18 + 1)) ∧ ((0 ≤ (v3_18 + 1) ∧ (v3_18 + 1) < (Ln : Int)) ∧ ((zb_inI (v3_18 + 2)) ∧ ((0 ≤ (v3_18 + 2) ∧ (v3_18 + 2) < (Ln : Int)) ∧ (zb_T K_X11_unlike d [(2, x1), (0, (xs ((v3_18 + 1)).toNat).toInt), (0, (xs ((v3_18 + 2)).toNat).toInt)] E m18l (fun r965 m965 => zb_T K_X12_unlike d [(2, x2), (0, (xs ((v3_18 + 1)).toNat).toInt), (0, (xs ((v3_18 + 2)).toNat).toInt)] E m965 (fun r979 m979 => (r965 = r979 → (zb_inI (v3_18 + 8)) ∧ (X18 (v3_18 + 8) m979)) ∧ (¬ r965 = r979 → Q 0 m979)))))))) ∧ ((zb_and (xs (v3_18).toNat).toInt 63) = 23 → (zb_inI (v3_18 + 1)) ∧ ((0 ≤ (v3_18 + 1) ∧ (v3_18 + 1) < (Ln : Int)) ∧ (zb_Tp K_X11_why d [(2, x1), (0, (xs ((v3_18 + 1)).toNat).toInt)] E m18l (fun r993 => zb_Tp K_X12_why d [(2, x2), (0, (xs ((v3_18 + 1)).toNat).toInt)] E m18l (fun r1002 => (r993 = r1002 → (zb_inI (v3_18 + 8)) ∧ (X18 (v3_18 + 8) m18l)) ∧ (¬ r993 = r1002 → Q 0 m18l)))))) ∧ ((zb_and (xs (v3_18).toNat).toInt 63) = 24 → (zb_inI (v3_18 + 1)) ∧ ((0 ≤ (v3_18 + 1) ∧ (v3_18 + 1) < (Ln : Int)) ∧ (zb_T K_X11_turnings d [(2, x1), (0, (xs ((v3_18 + 1)).toNat).toInt)] E m18l (fun r1016 m1016 => zb_T K_X12_turnings d [(2, x2), (0, (xs ((v3_18 + 1)).toNat).toInt)] E m1016 (fun r1025 m1025 => ((zb_cmp r1016 r1025) = 0 → (zb_inI (v3_18 + 8)) ∧ (X18 (v3_18 + 8) m1025)) ∧ (¬ (zb_cmp r1016 r1025) = 0 → Q 0 m1025)))))) ∧ ((zb_and (xs (v3_18).toNat).toInt 63) = 25 → (zb_inI (v3_18 + 1)) ∧ ((0 ≤ (v3_18 + 1) ∧ (v3_18 + 1) < (Ln : Int)) ∧ ((zb_inI (v3_18 + 2)) ∧ ((0 ≤ (v3_18 + 2) ∧ (v3_18 + 2) < (Ln : Int)) ∧ (zb_T K_X11_chain d [(2, x1), (0, (xs ((v3_18 + 1)).toNat).toInt), (0, (xs ((v3_18 + 2)).toNat).toInt)] E m18l (fun r1045 m1045 => zb_T K_X12_chain d [(2, x2), (0, (xs ((v3_18 + 1)).toNat).toInt), (0, (xs ((v3_18 + 2)).toNat).toInt)] E m1045 (fun r1059 m1059 => (r1045 = r1059 → (zb_inI (v3_18 + 8)) ∧ (X18 (v3_18 + 8) m1059)) ∧ (¬ r1045 = r1059 → Q 0 m1059)))))))) ∧ ((zb_and (xs (v3_18).toNat).toInt 63) = 26 → (zb_inI (v3_18 + 1)) ∧ ((0 ≤ (v3_18 + 1) ∧ (v3_18 + 1) < (Ln : Int)) ∧ ((zb_inI (v3_18 + 2)) ∧ ((0 ≤ (v3_18 + 2) ∧ (v3_18 + 2) < (Ln : Int)) ∧ ((zb_inI (v3_18 + 3)) ∧ ((0 ≤ (v3_18 + 3) ∧ (v3_18 + 3) < (Ln : Int)) ∧ (zb_T K_X11_where d [(2, x1), (0, (xs ((v3_18 + 1)).toNat).toInt), (0, (xs ((v3_18 + 2)).toNat).toInt), (0, (xs ((v3_18 + 3)).toNat).toInt)] E m18l (fun r1083 m1083 => zb_T K_X12_where d [(2, x2), (0, (xs ((v3_18 + 1)).toNat).toInt), (0, (xs ((v3_18 + 2)).toNat).toInt), (0, (xs ((v3_18 + 3)).toNat).toInt)] E m1083 (fun r1102 m1102 => (r1083 = r1102 → (zb_inI (v3_18 + 8)) ∧ (X18 (v3_18 + 8) m1102)) ∧ (¬ r1083 = r1102 → Q 0 m1102)))))))))) ∧ ((zb_and (xs (v3_18).toNat).toInt 63) = 27 → (zb_inI (v3_18 + 1)) ∧ ((0 ≤ (v3_18 + 1) ∧ (v3_18 + 1) < (Ln : Int)) ∧ ((zb_inI (v3_18 + 2)) ∧ ((0 ≤ (v3_18 + 2) ∧ (v3_18 + 2) < (Ln : Int)) ∧ (zb_T K_X11_orbit d [(2, x1), (0, (xs ((v3_18 + 1)).toNat).toInt), (0, (xs ((v3_18 + 2)).toNat).toInt)] E m18l (fun r1121 m1121 => zb_T K_X12_orbit d [(2, x2), (0, (xs ((v3_18 + 1)).toNat).toInt), (0, (xs ((v3_18 + 2)).toNat).toInt)] E m1121 (fun r1135 m1135 => (r1121 = r1135 → (zb_inI (v3_18 + 8)) ∧ (X18 (v3_18 + 8) m1135)) ∧ (¬ r1121 = r1135 → Q 0 m1135)))))))) ∧ ((zb_and (xs (v3_18).toNat).toInt 63) = 28 → (zb_inI (v3_18 + 1)) ∧ ((0 ≤ (v3_18 + 1) ∧ (v3_18 + 1) < (Ln : Int)) ∧ (zb_Tp K_X11_by d [(2, x1), (0, (xs ((v3_18 + 1)).toNat).toInt)] E m18l (fun r1149 => zb_Tp K_X12_by d [(2, x2), (0, (xs ((v3_18 + 1)).toNat).toInt)] E m18l (fun r1158 => (r1149 = r1158 → (zb_inI (v3_18 + 8)) ∧ (X18 (v3_18 + 8) m18l)) ∧ (¬ r1149 = r1158 → Q 0 m18l)))))) ∧ ((zb_and (xs (v3_18).toNat).toInt 63) = 29 → (zb_inI (v3_18 + 1)) ∧ ((0 ≤ (v3_18 + 1) ∧ (v3_18 + 1) < (Ln : Int)) ∧ (zb_T K_X11_makers d [(2, x1), (0, (xs ((v3_18 + 1)).toNat).toInt)] E m18l (fun r1172 m1172 => zb_T K_X12_makers d [(2, x2), (0, (xs ((v3_18 + 1)).toNat).toInt)] E m1172 (fun r1181 m1181 => (r1172 = r1181 → (zb_inI (v3_18 + 8)) ∧ (X18 (v3_18 + 8) m1181)) ∧ (¬ r1172 = r1181 → Q 0 m1181)))))) ∧ ((zb_and (xs (v3_18).toNat).toInt 63) = 30 → (zb_inI (v3_18 + 1)) ∧ ((0 ≤ (v3_18 + 1) ∧ (v3_18 + 1) < (Ln : Int)) ∧ ((zb_inI (v3_18 + 2)) ∧ ((0 ≤ (v3_18 + 2) ∧ (v3_18 + 2) < (Ln : Int)) ∧ (zb_Tp K_X11_maker d [(2, x1), (0, (xs ((v3_18 + 1)).toNat).toInt), (0, (xs ((v3_18 + 2)).toNat).toInt)] E m18l (fun r1200 => zb_Tp K_X12_maker d [(2, x2), (0, (xs ((v3_18 + 1)).toNat).toInt), (0, (xs ((v3_18 + 2)).toNat).toInt)] E m18l (fun r1214 => (r1200 = r1214 → (zb_inI (v3_18 + 8)) ∧ (X18 (v3_18 + 8) m18l)) ∧ (¬ r1200 = r1214 → Q 0 m18l)))))))) ∧ ((zb_and (xs (v3_18).toNat).toInt 63) = 31 → (zb_inI (v3_18 + 1)) ∧ ((0 ≤ (v3_18 + 1) ∧ (v3_18 + 1) < (Ln : Int)) ∧ (zb_T K_X11_then d [(2, x1), (0, (xs ((v3_18 + 1)).toNat).toInt)] E m18l (fun r1228 m1228 => zb_T K_X12_then d [(2, x2), (0, (xs ((v3_18 + 1)).toNat).toInt)] E m1228 (fun r1237 m1237 => (r1228 = r1237 → (zb_inI (v3_18 + 8)) ∧ (X18 (v3_18 + 8) m1237)) ∧ (¬ r1228 = r1237 → Q 0 m1237)))))) ∧ ((zb_and (xs (v3_18).toNat).toInt 63) = 32 → (zb_inI (v3_18 + 1)) ∧ ((0 ≤ (v3_18 + 1) ∧ (v3_18 + 1) < (Ln : Int)) ∧ ((zb_inI (v3_18 + 2)) ∧ ((0 ≤ (v3_18 + 2) ∧ (v3_18 + 2) < (Ln : Int)) ∧ (zb_T K_X11_list d [(2, x1), (0, (xs ((v3_18 + 1)).toNat).toInt), (0, (xs ((v3_18 + 2)).toNat).toInt)] E m18l (fun r1256 m1256 => zb_T K_X12_list d [(2, x2), (0, (xs ((v3_18 + 1)).toNat).toInt), (0, (xs ((v3_18 + 2)).toNat).toInt)] E m1256 (fun r1270 m1270 => (r1256 = r1270 → (zb_inI (v3_18 + 8)) ∧ (X18 (v3_18 + 8) m1270)) ∧ (¬ r1256 = r1270 → Q 0 m1270)))))))) ∧ ((zb_and (xs (v3_18).toNat).toInt 63) = 33 → (zb_inI (v3_18 + 1)) ∧ ((0 ≤ (v3_18 + 1) ∧ (v3_18 + 1) < (Ln : Int)) ∧ ((zb_inI (v3_18 + 2)) ∧ ((0 ≤ (v3_18 + 2) ∧ (v3_18 + 2) < (Ln : Int)) ∧ (zb_T K_X11_listed d [(2, x1), (0, (xs ((v3_18 + 1)).toNat).toInt), (0, (xs ((v3_18 + 2)).toNat).toInt)] E m18l (fun r1289 m1289 => zb_T K_X12_listed d [(2, x2), (0, (xs ((v3_18 + 1)).toNat).toInt), (0, (xs ((v3_18 + 2)).toNat).toInt)] E m1289 (fun r1303 m1303 => (r1289 = r1303 → (zb_inI (v3_18 + 8)) ∧ (X18 (v3_18 + 8) m1303)) ∧ (¬ r1289 = r1303 → Q 0 m1303)))))))) ∧ (((zb_and (xs (v3_18).toNat).toInt 63) < 0 ∨ 33 < (zb_and (xs (v3_18).toNat).toInt 63)) → (zb_inI (v3_18 + 8)) ∧ (X18 (v3_18 + 8) m18l)))))) → X18 v3_18 m18l) → X18 v3_18 m18l
set_option maxRecDepth 100000 in
set_option maxHeartbeats 40000000 in
theorem w_law {d K N k n : Nat} {G : zb_G} {C : zb_C} {E : zb_E} {x1 x2 : Int} {Ln : Nat} {xs : Nat → Int32} {m : zb_M} {Q : Int → zb_M → Prop} (hW : zb_WT E) (hF : zb_FIN E m) (i_1 : zb_is E.1 x1 11) (i_2 : zb_is E.1 x2 12) (hs : zb_scr G C Ln xs) (hLn : Ln ≤ 4096) (hk : k ≤ K) (hn : n ≤ N) (h : PL_L_law_18 d E x1 x2 Ln xs Q 0 m) : zb_WP (G, C, d + 1, K, N, zb_q E Q) F_L_law 18 [(0, (3, 0)), (1, (2, x1)), (2, (2, x2)), (3, (0, 0))] [] E.1 m k n := by
  unfold PL_L_law_18 at h
  obtain ⟨X18, hX18⟩ : ∃ X : Int → zb_M → Prop, ∀ (v3_18 : Int) (m18l : zb_M), (X v3_18 m18l ↔ (zb_FIN E m18l → zb_WP (G, C, d + 1, K, N, zb_q E Q) F_L_law 18 [(0, (3, 0)), (1, (2, x1)), (2, (2, x2)), (3, (0, v3_18))] [] E.1 m18l k n)) := ⟨fun v3_18 m18l => zb_FIN E m18l → zb_WP (G, C, d + 1, K, N, zb_q E Q) F_L_law 18 [(0, (3, 0)), (1, (2, x1)), (2, (2, x2)), (3, (0, v3_18))] [] E.1 m18l k n, fun _ _ => Iff.rfl⟩
  refine (hX18 _ _).mp (h X18 (fun v3_18 m18l h => (hX18 _ _).mpr (fun hF => ?_))) hF
  refine zb_iload_n (j := 3) dL_law_18 rfl rfl ?_
  refine zb_aload_s (j := 0) dL_law_19 rfl rfl ?_
  refine zb_slen hs dL_law_20 hLn ?_
  refine zb_bipush dL_law_21 (by decide) (zb_inIc rfl) ?_
  obtain ⟨o1, h⟩ := h
  refine zb_isub dL_law_23 o1 ?_
  refine zb_icmp_gt (tgt := 1317) dL_law_24 (by decide) (fun c2 => ?_) (fun c2 => ?_)
  · have h := h.1 c2
    refine zb_iconst dL_law_1317 (zb_inIc rfl) ?_
    exact zb_rZL dL_law_1318 rfl hF (by decide) hk hn h
  · have h := h.2 c2
    refine zb_aload_s (j := 0) dL_law_27 rfl rfl ?_
    refine zb_iload_n (j := 3) dL_law_28 rfl rfl ?_
    obtain ⟨o3, h⟩ := h
    refine zb_sload hs dL_law_29 o3.1 o3.2 ?_
    refine zb_bipush dL_law_30 (by decide) (zb_inIc rfl) ?_
    refine zb_iand dL_law_32 ?_
    by_cases c14 : (zb_and (xs (v3_18).toNat).toInt 63) = 0
    · refine zb_tableIn (off := 151) (tgt := 184) dL_law_33 (by omega) (by omega) (by rw [c14]; decide) (by decide) ?_
      have h := h.1 c14
      refine zb_aload_n (j := 1) dL_law_184 rfl rfl ?_
      refine zb_aload_s (j := 0) dL_law_185 rfl rfl ?_
      refine zb_iload_n (j := 3) dL_law_186 rfl rfl ?_
      refine zb_iconst dL_law_187 (zb_inIc rfl) ?_
      obtain ⟨o4, h⟩ := h
      refine zb_iadd dL_law_188 o4 ?_
      obtain ⟨o5, h⟩ := h
      refine zb_sload hs dL_law_189 o5.1 o5.2 ?_
      refine zb_aload_s (j := 0) dL_law_190 rfl rfl ?_
      refine zb_iload_n (j := 3) dL_law_191 rfl rfl ?_
      refine zb_iconst dL_law_192 (zb_inIc rfl) ?_
      obtain ⟨o6, h⟩ := h
      refine zb_iadd dL_law_193 o6 ?_
      obtain ⟨o7, h⟩ := h
      refine zb_sload hs dL_law_194 o7.1 o7.2 ?_
      refine zb_aload_s (j := 0) dL_law_195 rfl rfl ?_
      refine zb_iload_n (j := 3) dL_law_196 rfl rfl ?_
      refine zb_iconst dL_law_197 (zb_inIc rfl) ?_
      obtain ⟨o8, h⟩ := h
      refine zb_iadd dL_law_198 o8 ?_
      obtain ⟨o9, h⟩ := h
      refine zb_sload hs dL_law_199 o9.1 o9.2 ?_
      refine zb_aload_s (j := 0) dL_law_200 rfl rfl ?_
      refine zb_iload_n (j := 3) dL_law_201 rfl rfl ?_
      refine zb_iconst dL_law_202 (zb_inIc rfl) ?_
      obtain ⟨o10, h⟩ := h
      refine zb_iadd dL_law_203 o10 ?_
      obtain ⟨o11, h⟩ := h
      refine zb_sload hs dL_law_204 o11.1 o11.2 ?_
      refine zb_cVL (As := [(0, (xs ((v3_18 + 1)).toNat).toInt), (0, (xs ((v3_18 + 2)).toNat).toInt), (0, (xs ((v3_18 + 3)).toNat).toInt), (0, (xs ((v3_18 + 4)).toNat).toInt)]) (As' := [(0, (xs ((v3_18 + 4)).toNat).toInt), (0, (xs ((v3_18 + 3)).toNat).toInt), (0, (xs ((v3_18 + 2)).toNat).toInt), (0, (xs ((v3_18 + 1)).toNat).toInt)]) (st := []) dL_law_205 lk_L_13 gd_X11_thing rfl rfl i_1 ⟨_, rfl, rfl⟩ h hW hF (zb_aR i_1 (zb_aI (zb_aI (zb_aI (zb_aI zb_a0))))) (Nat.le_refl _) (Nat.le_of_ble_eq_true rfl) hk hn (fun r205 m205 hF h => ?_)
      show zb_WP _ _ _ _ [(0, r205)] _ _ _ _
      refine zb_aload_n (j := 2) dL_law_208 rfl rfl ?_
      refine zb_aload_s (j := 0) dL_law_209 rfl rfl ?_
      refine zb_iload_n (j := 3) dL_law_210 rfl rfl ?_
      refine zb_iconst dL_law_211 (zb_inIc rfl) ?_
      refine zb_iadd dL_law_212 o4 ?_
      refine zb_sload hs dL_law_213 o5.1 o5.2 ?_
      refine zb_aload_s (j := 0) dL_law_214 rfl rfl ?_
      refine zb_iload_n (j := 3) dL_law_215 rfl rfl ?_
      refine zb_iconst dL_law_216 (zb_inIc rfl) ?_
      refine zb_iadd dL_law_217 o6 ?_
      refine zb_sload hs dL_law_218 o7.1 o7.2 ?_
      refine zb_aload_s (j := 0) dL_law_219 rfl rfl ?_
      refine zb_iload_n (j := 3) dL_law_220 rfl rfl ?_
      refine zb_iconst dL_law_221 (zb_inIc rfl) ?_
      refine zb_iadd dL_law_222 o8 ?_
      refine zb_sload hs dL_law_223 o9.1 o9.2 ?_
      refine zb_aload_s (j := 0) dL_law_224 rfl rfl ?_
      refine zb_iload_n (j := 3) dL_law_225 rfl rfl ?_
      refine zb_iconst dL_law_226 (zb_inIc rfl) ?_
      refine zb_iadd dL_law_227 o10 ?_
      refine zb_sload hs dL_law_228 o11.1 o11.2 ?_
      refine zb_cVL (As := [(0, (xs ((v3_18 + 1)).toNat).toInt), (0, (xs ((v3_18 + 2)).toNat).toInt), (0, (xs ((v3_18 + 3)).toNat).toInt), (0, (xs ((v3_18 + 4)).toNat).toInt)]) (As' := [(0, (xs ((v3_18 + 4)).toNat).toInt), (0, (xs ((v3_18 + 3)).toNat).toInt), (0, (xs ((v3_18 + 2)).toNat).toInt), (0, (xs ((v3_18 + 1)).toNat).toInt)]) (st := [(0, r205)]) dL_law_229 lk_L_17 gd_X12_thing rfl rfl i_2 ⟨_, rfl, rfl⟩ h hW hF (zb_aR i_2 (zb_aI (zb_aI (zb_aI (zb_aI zb_a0))))) (Nat.le_refl _) (Nat.le_of_ble_eq_true rfl) hk hn (fun r229 m229 hF h => ?_)
      show zb_WP _ _ _ _ [(0, r229), (0, r205)] _ _ _ _
      refine zb_icmp_eq (tgt := 1311) dL_law_232 (by decide) (fun c12 => ?_) (fun c12 => ?_)
      · have h := h.1 c12
        obtain ⟨o13, h⟩ := h
        refine zb_iinc (j := 3) (L' := [(3, (0, (v3_18 + 8))), (0, (3, 0)), (1, (2, x1)), (2, (2, x2))]) dL_law_1311 rfl o13 (by decide) rfl ?_
        refine zb_goto (tgt := 18) dL_law_1314 (by decide) ?_
        refine zb_sub (L' := [(0, (3, 0)), (1, (2, x1)), (2, (2, x2)), (3, (0, (v3_18 + 8)))]) [1, 2, 3, 0] rfl ?_
        exact (hX18 _ _).mp h hF
      · have h := h.2 c12
        refine zb_iconst dL_law_235 (zb_inIc rfl) ?_
        exact zb_rZL dL_law_236 rfl hF (by decide) hk hn h
    ·
      by_cases c23 : (zb_and (xs (v3_18).toNat).toInt 63) = 1
      · refine zb_tableIn (off := 204) (tgt := 237) dL_law_33 (by omega) (by omega) (by rw [c23]; decide) (by decide) ?_
        have h := h.2.1 c23
        refine zb_aload_n (j := 1) dL_law_237 rfl rfl ?_
        refine zb_aload_s (j := 0) dL_law_238 rfl rfl ?_
        refine zb_iload_n (j := 3) dL_law_239 rfl rfl ?_
        refine zb_iconst dL_law_240 (zb_inIc rfl) ?_
        obtain ⟨o15, h⟩ := h
        refine zb_iadd dL_law_241 o15 ?_
        obtain ⟨o16, h⟩ := h
        refine zb_sload hs dL_law_242 o16.1 o16.2 ?_
        refine zb_aload_s (j := 0) dL_law_243 rfl rfl ?_
        refine zb_iload_n (j := 3) dL_law_244 rfl rfl ?_
        refine zb_iconst dL_law_245 (zb_inIc rfl) ?_
        obtain ⟨o17, h⟩ := h
        refine zb_iadd dL_law_246 o17 ?_
        obtain ⟨o18, h⟩ := h
        refine zb_sload hs dL_law_247 o18.1 o18.2 ?_
        refine zb_aload_s (j := 0) dL_law_248 rfl rfl ?_
        refine zb_iload_n (j := 3) dL_law_249 rfl rfl ?_
        refine zb_iconst dL_law_250 (zb_inIc rfl) ?_
        obtain ⟨o19, h⟩ := h
        refine zb_iadd dL_law_251 o19 ?_
        obtain ⟨o20, h⟩ := h
        refine zb_sload hs dL_law_252 o20.1 o20.2 ?_
        refine zb_cVL (As := [(0, (xs ((v3_18 + 1)).toNat).toInt), (0, (xs ((v3_18 + 2)).toNat).toInt), (0, (xs ((v3_18 + 3)).toNat).toInt)]) (As' := [(0, (xs ((v3_18 + 3)).toNat).toInt), (0, (xs ((v3_18 + 2)).toNat).toInt), (0, (xs ((v3_18 + 1)).toNat).toInt)]) (st := []) dL_law_253 lk_L_18 gd_X11_colour rfl rfl i_1 ⟨_, rfl, rfl⟩ h hW hF (zb_aR i_1 (zb_aI (zb_aI (zb_aI zb_a0)))) (Nat.le_refl _) (Nat.le_of_ble_eq_true rfl) hk hn (fun r253 m253 hF h => ?_)
        show zb_WP _ _ _ _ [(0, r253)] _ _ _ _
        refine zb_aload_n (j := 2) dL_law_256 rfl rfl ?_
        refine zb_aload_s (j := 0) dL_law_257 rfl rfl ?_
        refine zb_iload_n (j := 3) dL_law_258 rfl rfl ?_
        refine zb_iconst dL_law_259 (zb_inIc rfl) ?_
        refine zb_iadd dL_law_260 o15 ?_
        refine zb_sload hs dL_law_261 o16.1 o16.2 ?_
        refine zb_aload_s (j := 0) dL_law_262 rfl rfl ?_
        refine zb_iload_n (j := 3) dL_law_263 rfl rfl ?_
        refine zb_iconst dL_law_264 (zb_inIc rfl) ?_
        refine zb_iadd dL_law_265 o17 ?_
        refine zb_sload hs dL_law_266 o18.1 o18.2 ?_
        refine zb_aload_s (j := 0) dL_law_267 rfl rfl ?_
        refine zb_iload_n (j := 3) dL_law_268 rfl rfl ?_
        refine zb_iconst dL_law_269 (zb_inIc rfl) ?_
        refine zb_iadd dL_law_270 o19 ?_
        refine zb_sload hs dL_law_271 o20.1 o20.2 ?_
        refine zb_cVL (As := [(0, (xs ((v3_18 + 1)).toNat).toInt), (0, (xs ((v3_18 + 2)).toNat).toInt), (0, (xs ((v3_18 + 3)).toNat).toInt)]) (As' := [(0, (xs ((v3_18 + 3)).toNat).toInt), (0, (xs ((v3_18 + 2)).toNat).toInt), (0, (xs ((v3_18 + 1)).toNat).toInt)]) (st := [(0, r253)]) dL_law_272 lk_L_22 gd_X12_colour rfl rfl i_2 ⟨_, rfl, rfl⟩ h hW hF (zb_aR i_2 (zb_aI (zb_aI (zb_aI zb_a0)))) (Nat.le_refl _) (Nat.le_of_ble_eq_true rfl) hk hn (fun r272 m272 hF h => ?_)
        show zb_WP _ _ _ _ [(0, r272), (0, r253)] _ _ _ _
        refine zb_icmp_eq (tgt := 1311) dL_law_275 (by decide) (fun c21 => ?_) (fun c21 => ?_)
        · have h := h.1 c21
          obtain ⟨o22, h⟩ := h
          refine zb_iinc (j := 3) (L' := [(3, (0, (v3_18 + 8))), (0, (3, 0)), (1, (2, x1)), (2, (2, x2))]) dL_law_1311 rfl o22 (by decide) rfl ?_
          refine zb_goto (tgt := 18) dL_law_1314 (by decide) ?_
          refine zb_sub (L' := [(0, (3, 0)), (1, (2, x1)), (2, (2, x2)), (3, (0, (v3_18 + 8)))]) [1, 2, 3, 0] rfl ?_
          exact (hX18 _ _).mp h hF
        · have h := h.2 c21
          refine zb_iconst dL_law_278 (zb_inIc rfl) ?_
          exact zb_rZL dL_law_279 rfl hF (by decide) hk hn h
      ·
        by_cases c32 : (zb_and (xs (v3_18).toNat).toInt 63) = 2
        · refine zb_tableIn (off := 247) (tgt := 280) dL_law_33 (by omega) (by omega) (by rw [c32]; decide) (by decide) ?_
          have h := h.2.2.1 c32
          refine zb_aload_n (j := 1) dL_law_280 rfl rfl ?_
          refine zb_aload_s (j := 0) dL_law_281 rfl rfl ?_
          refine zb_iload_n (j := 3) dL_law_282 rfl rfl ?_
          refine zb_iconst dL_law_283 (zb_inIc rfl) ?_
          obtain ⟨o24, h⟩ := h
          refine zb_iadd dL_law_284 o24 ?_
          obtain ⟨o25, h⟩ := h
          refine zb_sload hs dL_law_285 o25.1 o25.2 ?_
          refine zb_aload_s (j := 0) dL_law_286 rfl rfl ?_
          refine zb_iload_n (j := 3) dL_law_287 rfl rfl ?_
          refine zb_iconst dL_law_288 (zb_inIc rfl) ?_
          obtain ⟨o26, h⟩ := h
          refine zb_iadd dL_law_289 o26 ?_
          obtain ⟨o27, h⟩ := h
          refine zb_sload hs dL_law_290 o27.1 o27.2 ?_
          refine zb_aload_s (j := 0) dL_law_291 rfl rfl ?_
          refine zb_iload_n (j := 3) dL_law_292 rfl rfl ?_
          refine zb_iconst dL_law_293 (zb_inIc rfl) ?_
          obtain ⟨o28, h⟩ := h
          refine zb_iadd dL_law_294 o28 ?_
          obtain ⟨o29, h⟩ := h
          refine zb_sload hs dL_law_295 o29.1 o29.2 ?_
          refine zb_cVL (As := [(0, (xs ((v3_18 + 1)).toNat).toInt), (0, (xs ((v3_18 + 2)).toNat).toInt), (0, (xs ((v3_18 + 3)).toNat).toInt)]) (As' := [(0, (xs ((v3_18 + 3)).toNat).toInt), (0, (xs ((v3_18 + 2)).toNat).toInt), (0, (xs ((v3_18 + 1)).toNat).toInt)]) (st := []) dL_law_296 lk_L_23 gd_X11_word rfl rfl i_1 ⟨_, rfl, rfl⟩ h hW hF (zb_aR i_1 (zb_aI (zb_aI (zb_aI zb_a0)))) (Nat.le_refl _) (Nat.le_of_ble_eq_true rfl) hk hn (fun r296 m296 hF h => ?_)
          show zb_WP _ _ _ _ [(0, r296)] _ _ _ _
          refine zb_aload_n (j := 2) dL_law_299 rfl rfl ?_
          refine zb_aload_s (j := 0) dL_law_300 rfl rfl ?_
          refine zb_iload_n (j := 3) dL_law_301 rfl rfl ?_
          refine zb_iconst dL_law_302 (zb_inIc rfl) ?_
          refine zb_iadd dL_law_303 o24 ?_
          refine zb_sload hs dL_law_304 o25.1 o25.2 ?_
          refine zb_aload_s (j := 0) dL_law_305 rfl rfl ?_
          refine zb_iload_n (j := 3) dL_law_306 rfl rfl ?_
          refine zb_iconst dL_law_307 (zb_inIc rfl) ?_
          refine zb_iadd dL_law_308 o26 ?_
          refine zb_sload hs dL_law_309 o27.1 o27.2 ?_
          refine zb_aload_s (j := 0) dL_law_310 rfl rfl ?_
          refine zb_iload_n (j := 3) dL_law_311 rfl rfl ?_
          refine zb_iconst dL_law_312 (zb_inIc rfl) ?_
          refine zb_iadd dL_law_313 o28 ?_
          refine zb_sload hs dL_law_314 o29.1 o29.2 ?_
          refine zb_cVL (As := [(0, (xs ((v3_18 + 1)).toNat).toInt), (0, (xs ((v3_18 + 2)).toNat).toInt), (0, (xs ((v3_18 + 3)).toNat).toInt)]) (As' := [(0, (xs ((v3_18 + 3)).toNat).toInt), (0, (xs ((v3_18 + 2)).toNat).toInt), (0, (xs ((v3_18 + 1)).toNat).toInt)]) (st := [(0, r296)]) dL_law_315 lk_L_26 gd_X12_word rfl rfl i_2 ⟨_, rfl, rfl⟩ h hW hF (zb_aR i_2 (zb_aI (zb_aI (zb_aI zb_a0)))) (Nat.le_refl _) (Nat.le_of_ble_eq_true rfl) hk hn (fun r315 m315 hF h => ?_)
          show zb_WP _ _ _ _ [(0, r315), (0, r296)] _ _ _ _
          refine zb_icmp_eq (tgt := 1311) dL_law_318 (by decide) (fun c30 => ?_) (fun c30 => ?_)
          · have h := h.1 c30
            obtain ⟨o31, h⟩ := h
            refine zb_iinc (j := 3) (L' := [(3, (0, (v3_18 + 8))), (0, (3, 0)), (1, (2, x1)), (2, (2, x2))]) dL_law_1311 rfl o31 (by decide) rfl ?_
            refine zb_goto (tgt := 18) dL_law_1314 (by decide) ?_
            refine zb_sub (L' := [(0, (3, 0)), (1, (2, x1)), (2, (2, x2)), (3, (0, (v3_18 + 8)))]) [1, 2, 3, 0] rfl ?_
            exact (hX18 _ _).mp h hF
          · have h := h.2 c30
            refine zb_iconst dL_law_321 (zb_inIc rfl) ?_
            exact zb_rZL dL_law_322 rfl hF (by decide) hk hn h
        ·
          by_cases c41 : (zb_and (xs (v3_18).toNat).toInt 63) = 3
          · refine zb_tableIn (off := 290) (tgt := 323) dL_law_33 (by omega) (by omega) (by rw [c41]; decide) (by decide) ?_
            have h := h.2.2.2.1 c41
            refine zb_aload_n (j := 1) dL_law_323 rfl rfl ?_
            refine zb_aload_s (j := 0) dL_law_324 rfl rfl ?_
            refine zb_iload_n (j := 3) dL_law_325 rfl rfl ?_
            refine zb_iconst dL_law_326 (zb_inIc rfl) ?_
            obtain ⟨o33, h⟩ := h
            refine zb_iadd dL_law_327 o33 ?_
            obtain ⟨o34, h⟩ := h
            refine zb_sload hs dL_law_328 o34.1 o34.2 ?_
            refine zb_aload_s (j := 0) dL_law_329 rfl rfl ?_
            refine zb_iload_n (j := 3) dL_law_330 rfl rfl ?_
            refine zb_iconst dL_law_331 (zb_inIc rfl) ?_
            obtain ⟨o35, h⟩ := h
            refine zb_iadd dL_law_332 o35 ?_
            obtain ⟨o36, h⟩ := h
            refine zb_sload hs dL_law_333 o36.1 o36.2 ?_
            refine zb_aload_s (j := 0) dL_law_334 rfl rfl ?_
            refine zb_iload_n (j := 3) dL_law_335 rfl rfl ?_
            refine zb_iconst dL_law_336 (zb_inIc rfl) ?_
            obtain ⟨o37, h⟩ := h
            refine zb_iadd dL_law_337 o37 ?_
            obtain ⟨o38, h⟩ := h
            refine zb_sload hs dL_law_338 o38.1 o38.2 ?_
            refine zb_cVL (As := [(0, (xs ((v3_18 + 1)).toNat).toInt), (0, (xs ((v3_18 + 2)).toNat).toInt), (0, (xs ((v3_18 + 3)).toNat).toInt)]) (As' := [(0, (xs ((v3_18 + 3)).toNat).toInt), (0, (xs ((v3_18 + 2)).toNat).toInt), (0, (xs ((v3_18 + 1)).toNat).toInt)]) (st := []) dL_law_339 lk_L_27 gd_X11_row rfl rfl i_1 ⟨_, rfl, rfl⟩ h hW hF (zb_aR i_1 (zb_aI (zb_aI (zb_aI zb_a0)))) (Nat.le_refl _) (Nat.le_of_ble_eq_true rfl) hk hn (fun r339 m339 hF h => ?_)
            show zb_WP _ _ _ _ [(0, r339)] _ _ _ _
            refine zb_aload_n (j := 2) dL_law_342 rfl rfl ?_
            refine zb_aload_s (j := 0) dL_law_343 rfl rfl ?_
            refine zb_iload_n (j := 3) dL_law_344 rfl rfl ?_
            refine zb_iconst dL_law_345 (zb_inIc rfl) ?_
            refine zb_iadd dL_law_346 o33 ?_
            refine zb_sload hs dL_law_347 o34.1 o34.2 ?_
            refine zb_aload_s (j := 0) dL_law_348 rfl rfl ?_
            refine zb_iload_n (j := 3) dL_law_349 rfl rfl ?_
            refine zb_iconst dL_law_350 (zb_inIc rfl) ?_
            refine zb_iadd dL_law_351 o35 ?_
            refine zb_sload hs dL_law_352 o36.1 o36.2 ?_
            refine zb_aload_s (j := 0) dL_law_353 rfl rfl ?_
            refine zb_iload_n (j := 3) dL_law_354 rfl rfl ?_
            refine zb_iconst dL_law_355 (zb_inIc rfl) ?_
            refine zb_iadd dL_law_356 o37 ?_
            refine zb_sload hs dL_law_357 o38.1 o38.2 ?_
            refine zb_cVL (As := [(0, (xs ((v3_18 + 1)).toNat).toInt), (0, (xs ((v3_18 + 2)).toNat).toInt), (0, (xs ((v3_18 + 3)).toNat).toInt)]) (As' := [(0, (xs ((v3_18 + 3)).toNat).toInt), (0, (xs ((v3_18 + 2)).toNat).toInt), (0, (xs ((v3_18 + 1)).toNat).toInt)]) (st := [(0, r339)]) dL_law_358 lk_L_30 gd_X12_row rfl rfl i_2 ⟨_, rfl, rfl⟩ h hW hF (zb_aR i_2 (zb_aI (zb_aI (zb_aI zb_a0)))) (Nat.le_refl _) (Nat.le_of_ble_eq_true rfl) hk hn (fun r358 m358 hF h => ?_)
            show zb_WP _ _ _ _ [(0, r358), (0, r339)] _ _ _ _
            refine zb_icmp_eq (tgt := 1311) dL_law_361 (by decide) (fun c39 => ?_) (fun c39 => ?_)
            · have h := h.1 c39
              obtain ⟨o40, h⟩ := h
              refine zb_iinc (j := 3) (L' := [(3, (0, (v3_18 + 8))), (0, (3, 0)), (1, (2, x1)), (2, (2, x2))]) dL_law_1311 rfl o40 (by decide) rfl ?_
              refine zb_goto (tgt := 18) dL_law_1314 (by decide) ?_
              refine zb_sub (L' := [(0, (3, 0)), (1, (2, x1)), (2, (2, x2)), (3, (0, (v3_18 + 8)))]) [1, 2, 3, 0] rfl ?_
              exact (hX18 _ _).mp h hF
            · have h := h.2 c39
              refine zb_iconst dL_law_364 (zb_inIc rfl) ?_
              exact zb_rZL dL_law_365 rfl hF (by decide) hk hn h
          ·
            by_cases c48 : (zb_and (xs (v3_18).toNat).toInt 63) = 4
            · refine zb_tableIn (off := 333) (tgt := 366) dL_law_33 (by omega) (by omega) (by rw [c48]; decide) (by decide) ?_
              have h := h.2.2.2.2.1 c48
              refine zb_aload_n (j := 1) dL_law_366 rfl rfl ?_
              refine zb_aload_s (j := 0) dL_law_367 rfl rfl ?_
              refine zb_iload_n (j := 3) dL_law_368 rfl rfl ?_
              refine zb_iconst dL_law_369 (zb_inIc rfl) ?_
              obtain ⟨o42, h⟩ := h
              refine zb_iadd dL_law_370 o42 ?_
              obtain ⟨o43, h⟩ := h
              refine zb_sload hs dL_law_371 o43.1 o43.2 ?_
              refine zb_aload_s (j := 0) dL_law_372 rfl rfl ?_
              refine zb_iload_n (j := 3) dL_law_373 rfl rfl ?_
              refine zb_iconst dL_law_374 (zb_inIc rfl) ?_
              obtain ⟨o44, h⟩ := h
              refine zb_iadd dL_law_375 o44 ?_
              obtain ⟨o45, h⟩ := h
              refine zb_sload hs dL_law_376 o45.1 o45.2 ?_
              refine zb_cVL (As := [(0, (xs ((v3_18 + 1)).toNat).toInt), (0, (xs ((v3_18 + 2)).toNat).toInt)]) (As' := [(0, (xs ((v3_18 + 2)).toNat).toInt), (0, (xs ((v3_18 + 1)).toNat).toInt)]) (st := []) dL_law_377 lk_L_31 gd_X11_unrow rfl rfl i_1 ⟨_, rfl, rfl⟩ h hW hF (zb_aR i_1 (zb_aI (zb_aI zb_a0))) (Nat.le_refl _) (Nat.le_of_ble_eq_true rfl) hk hn (fun r377 m377 hF h => ?_)
              show zb_WP _ _ _ _ [(0, r377)] _ _ _ _
              refine zb_aload_n (j := 2) dL_law_380 rfl rfl ?_
              refine zb_aload_s (j := 0) dL_law_381 rfl rfl ?_
              refine zb_iload_n (j := 3) dL_law_382 rfl rfl ?_
              refine zb_iconst dL_law_383 (zb_inIc rfl) ?_
              refine zb_iadd dL_law_384 o42 ?_
              refine zb_sload hs dL_law_385 o43.1 o43.2 ?_
              refine zb_aload_s (j := 0) dL_law_386 rfl rfl ?_
              refine zb_iload_n (j := 3) dL_law_387 rfl rfl ?_
              refine zb_iconst dL_law_388 (zb_inIc rfl) ?_
              refine zb_iadd dL_law_389 o44 ?_
              refine zb_sload hs dL_law_390 o45.1 o45.2 ?_
              refine zb_cVL (As := [(0, (xs ((v3_18 + 1)).toNat).toInt), (0, (xs ((v3_18 + 2)).toNat).toInt)]) (As' := [(0, (xs ((v3_18 + 2)).toNat).toInt), (0, (xs ((v3_18 + 1)).toNat).toInt)]) (st := [(0, r377)]) dL_law_391 lk_L_35 gd_X12_unrow rfl rfl i_2 ⟨_, rfl, rfl⟩ h hW hF (zb_aR i_2 (zb_aI (zb_aI zb_a0))) (Nat.le_refl _) (Nat.le_of_ble_eq_true rfl) hk hn (fun r391 m391 hF h => ?_)
              show zb_WP _ _ _ _ [(0, r391), (0, r377)] _ _ _ _
              refine zb_icmp_eq (tgt := 1311) dL_law_394 (by decide) (fun c46 => ?_) (fun c46 => ?_)
              · have h := h.1 c46
                obtain ⟨o47, h⟩ := h
                refine zb_iinc (j := 3) (L' := [(3, (0, (v3_18 + 8))), (0, (3, 0)), (1, (2, x1)), (2, (2, x2))]) dL_law_1311 rfl o47 (by decide) rfl ?_
                refine zb_goto (tgt := 18) dL_law_1314 (by decide) ?_
                refine zb_sub (L' := [(0, (3, 0)), (1, (2, x1)), (2, (2, x2)), (3, (0, (v3_18 + 8)))]) [1, 2, 3, 0] rfl ?_
                exact (hX18 _ _).mp h hF
              · have h := h.2 c46
                refine zb_iconst dL_law_397 (zb_inIc rfl) ?_
                exact zb_rZL dL_law_398 rfl hF (by decide) hk hn h
            ·
              by_cases c59 : (zb_and (xs (v3_18).toNat).toInt 63) = 5
              · refine zb_tableIn (off := 366) (tgt := 399) dL_law_33 (by omega) (by omega) (by rw [c59]; decide) (by decide) ?_
                have h := h.2.2.2.2.2.1 c59
                refine zb_aload_n (j := 1) dL_law_399 rfl rfl ?_
                refine zb_aload_s (j := 0) dL_law_400 rfl rfl ?_
                refine zb_iload_n (j := 3) dL_law_401 rfl rfl ?_
                refine zb_iconst dL_law_402 (zb_inIc rfl) ?_
                obtain ⟨o49, h⟩ := h
                refine zb_iadd dL_law_403 o49 ?_
                obtain ⟨o50, h⟩ := h
                refine zb_sload hs dL_law_404 o50.1 o50.2 ?_
                refine zb_aload_s (j := 0) dL_law_405 rfl rfl ?_
                refine zb_iload_n (j := 3) dL_law_406 rfl rfl ?_
                refine zb_iconst dL_law_407 (zb_inIc rfl) ?_
                obtain ⟨o51, h⟩ := h
                refine zb_iadd dL_law_408 o51 ?_
                obtain ⟨o52, h⟩ := h
                refine zb_sload hs dL_law_409 o52.1 o52.2 ?_
                refine zb_aload_s (j := 0) dL_law_410 rfl rfl ?_
                refine zb_iload_n (j := 3) dL_law_411 rfl rfl ?_
                refine zb_iconst dL_law_412 (zb_inIc rfl) ?_
                obtain ⟨o53, h⟩ := h
                refine zb_iadd dL_law_413 o53 ?_
                obtain ⟨o54, h⟩ := h
                refine zb_sload hs dL_law_414 o54.1 o54.2 ?_
                refine zb_aload_s (j := 0) dL_law_415 rfl rfl ?_
                refine zb_iload_n (j := 3) dL_law_416 rfl rfl ?_
                refine zb_iconst dL_law_417 (zb_inIc rfl) ?_
                obtain ⟨o55, h⟩ := h
                refine zb_iadd dL_law_418 o55 ?_
                obtain ⟨o56, h⟩ := h
                refine zb_sload hs dL_law_419 o56.1 o56.2 ?_
                refine zb_cVL (As := [(0, (xs ((v3_18 + 1)).toNat).toInt), (0, (xs ((v3_18 + 2)).toNat).toInt), (0, (xs ((v3_18 + 3)).toNat).toInt), (0, (xs ((v3_18 + 4)).toNat).toInt)]) (As' := [(0, (xs ((v3_18 + 4)).toNat).toInt), (0, (xs ((v3_18 + 3)).toNat).toInt), (0, (xs ((v3_18 + 2)).toNat).toInt), (0, (xs ((v3_18 + 1)).toNat).toInt)]) (st := []) dL_law_420 lk_L_36 gd_X11_place rfl rfl i_1 ⟨_, rfl, rfl⟩ h hW hF (zb_aR i_1 (zb_aI (zb_aI (zb_aI (zb_aI zb_a0))))) (Nat.le_refl _) (Nat.le_of_ble_eq_true rfl) hk hn (fun r420 m420 hF h => ?_)
                show zb_WP _ _ _ _ [(0, r420)] _ _ _ _
                refine zb_aload_n (j := 2) dL_law_423 rfl rfl ?_
                refine zb_aload_s (j := 0) dL_law_424 rfl rfl ?_
                refine zb_iload_n (j := 3) dL_law_425 rfl rfl ?_
                refine zb_iconst dL_law_426 (zb_inIc rfl) ?_
                refine zb_iadd dL_law_427 o49 ?_
                refine zb_sload hs dL_law_428 o50.1 o50.2 ?_
                refine zb_aload_s (j := 0) dL_law_429 rfl rfl ?_
                refine zb_iload_n (j := 3) dL_law_430 rfl rfl ?_
                refine zb_iconst dL_law_431 (zb_inIc rfl) ?_
                refine zb_iadd dL_law_432 o51 ?_
                refine zb_sload hs dL_law_433 o52.1 o52.2 ?_
                refine zb_aload_s (j := 0) dL_law_434 rfl rfl ?_
                refine zb_iload_n (j := 3) dL_law_435 rfl rfl ?_
                refine zb_iconst dL_law_436 (zb_inIc rfl) ?_
                refine zb_iadd dL_law_437 o53 ?_
                refine zb_sload hs dL_law_438 o54.1 o54.2 ?_
                refine zb_aload_s (j := 0) dL_law_439 rfl rfl ?_
                refine zb_iload_n (j := 3) dL_law_440 rfl rfl ?_
                refine zb_iconst dL_law_441 (zb_inIc rfl) ?_
                refine zb_iadd dL_law_442 o55 ?_
                refine zb_sload hs dL_law_443 o56.1 o56.2 ?_
                refine zb_cVL (As := [(0, (xs ((v3_18 + 1)).toNat).toInt), (0, (xs ((v3_18 + 2)).toNat).toInt), (0, (xs ((v3_18 + 3)).toNat).toInt), (0, (xs ((v3_18 + 4)).toNat).toInt)]) (As' := [(0, (xs ((v3_18 + 4)).toNat).toInt), (0, (xs ((v3_18 + 3)).toNat).toInt), (0, (xs ((v3_18 + 2)).toNat).toInt), (0, (xs ((v3_18 + 1)).toNat).toInt)]) (st := [(0, r420)]) dL_law_444 lk_L_39 gd_X12_place rfl rfl i_2 ⟨_, rfl, rfl⟩ h hW hF (zb_aR i_2 (zb_aI (zb_aI (zb_aI (zb_aI zb_a0))))) (Nat.le_refl _) (Nat.le_of_ble_eq_true rfl) hk hn (fun r444 m444 hF h => ?_)
                show zb_WP _ _ _ _ [(0, r444), (0, r420)] _ _ _ _
                refine zb_icmp_eq (tgt := 1311) dL_law_447 (by decide) (fun c57 => ?_) (fun c57 => ?_)
                · have h := h.1 c57
                  obtain ⟨o58, h⟩ := h
                  refine zb_iinc (j := 3) (L' := [(3, (0, (v3_18 + 8))), (0, (3, 0)), (1, (2, x1)), (2, (2, x2))]) dL_law_1311 rfl o58 (by decide) rfl ?_
                  refine zb_goto (tgt := 18) dL_law_1314 (by decide) ?_
                  refine zb_sub (L' := [(0, (3, 0)), (1, (2, x1)), (2, (2, x2)), (3, (0, (v3_18 + 8)))]) [1, 2, 3, 0] rfl ?_
                  exact (hX18 _ _).mp h hF
                · have h := h.2 c57
                  refine zb_iconst dL_law_450 (zb_inIc rfl) ?_
                  exact zb_rZL dL_law_451 rfl hF (by decide) hk hn h
              ·
                by_cases c68 : (zb_and (xs (v3_18).toNat).toInt 63) = 6
                · refine zb_tableIn (off := 419) (tgt := 452) dL_law_33 (by omega) (by omega) (by rw [c68]; decide) (by decide) ?_
                  have h := h.2.2.2.2.2.2.1 c68
                  refine zb_aload_n (j := 1) dL_law_452 rfl rfl ?_
                  refine zb_aload_s (j := 0) dL_law_453 rfl rfl ?_
                  refine zb_iload_n (j := 3) dL_law_454 rfl rfl ?_
                  refine zb_iconst dL_law_455 (zb_inIc rfl) ?_
                  obtain ⟨o60, h⟩ := h
                  refine zb_iadd dL_law_456 o60 ?_
                  obtain ⟨o61, h⟩ := h
                  refine zb_sload hs dL_law_457 o61.1 o61.2 ?_
                  refine zb_aload_s (j := 0) dL_law_458 rfl rfl ?_
                  refine zb_iload_n (j := 3) dL_law_459 rfl rfl ?_
                  refine zb_iconst dL_law_460 (zb_inIc rfl) ?_
                  obtain ⟨o62, h⟩ := h
                  refine zb_iadd dL_law_461 o62 ?_
                  obtain ⟨o63, h⟩ := h
                  refine zb_sload hs dL_law_462 o63.1 o63.2 ?_
                  refine zb_aload_s (j := 0) dL_law_463 rfl rfl ?_
                  refine zb_iload_n (j := 3) dL_law_464 rfl rfl ?_
                  refine zb_iconst dL_law_465 (zb_inIc rfl) ?_
                  obtain ⟨o64, h⟩ := h
                  refine zb_iadd dL_law_466 o64 ?_
                  obtain ⟨o65, h⟩ := h
                  refine zb_sload hs dL_law_467 o65.1 o65.2 ?_
                  refine zb_cVLp (As := [(0, (xs ((v3_18 + 1)).toNat).toInt), (0, (xs ((v3_18 + 2)).toNat).toInt), (0, (xs ((v3_18 + 3)).toNat).toInt)]) (As' := [(0, (xs ((v3_18 + 3)).toNat).toInt), (0, (xs ((v3_18 + 2)).toNat).toInt), (0, (xs ((v3_18 + 1)).toNat).toInt)]) (st := []) dL_law_468 lk_L_40 gd_X11_line rfl rfl i_1 ⟨_, rfl, rfl⟩ h hW hF (zb_aR i_1 (zb_aI (zb_aI (zb_aI zb_a0)))) (Nat.le_refl _) (Nat.le_of_ble_eq_true rfl) hk hn (fun r468 h => ?_)
                  show zb_WP _ _ _ _ [(0, r468)] _ _ _ _
                  refine zb_aload_n (j := 2) dL_law_471 rfl rfl ?_
                  refine zb_aload_s (j := 0) dL_law_472 rfl rfl ?_
                  refine zb_iload_n (j := 3) dL_law_473 rfl rfl ?_
                  refine zb_iconst dL_law_474 (zb_inIc rfl) ?_
                  refine zb_iadd dL_law_475 o60 ?_
                  refine zb_sload hs dL_law_476 o61.1 o61.2 ?_
                  refine zb_aload_s (j := 0) dL_law_477 rfl rfl ?_
                  refine zb_iload_n (j := 3) dL_law_478 rfl rfl ?_
                  refine zb_iconst dL_law_479 (zb_inIc rfl) ?_
                  refine zb_iadd dL_law_480 o62 ?_
                  refine zb_sload hs dL_law_481 o63.1 o63.2 ?_
                  refine zb_aload_s (j := 0) dL_law_482 rfl rfl ?_
                  refine zb_iload_n (j := 3) dL_law_483 rfl rfl ?_
                  refine zb_iconst dL_law_484 (zb_inIc rfl) ?_
                  refine zb_iadd dL_law_485 o64 ?_
                  refine zb_sload hs dL_law_486 o65.1 o65.2 ?_
                  refine zb_cVLp (As := [(0, (xs ((v3_18 + 1)).toNat).toInt), (0, (xs ((v3_18 + 2)).toNat).toInt), (0, (xs ((v3_18 + 3)).toNat).toInt)]) (As' := [(0, (xs ((v3_18 + 3)).toNat).toInt), (0, (xs ((v3_18 + 2)).toNat).toInt), (0, (xs ((v3_18 + 1)).toNat).toInt)]) (st := [(0, r468)]) dL_law_487 lk_L_43 gd_X12_line rfl rfl i_2 ⟨_, rfl, rfl⟩ h hW hF (zb_aR i_2 (zb_aI (zb_aI (zb_aI zb_a0)))) (Nat.le_refl _) (Nat.le_of_ble_eq_true rfl) hk hn (fun r487 h => ?_)
                  show zb_WP _ _ _ _ [(0, r487), (0, r468)] _ _ _ _
                  refine zb_icmp_eq (tgt := 1311) dL_law_490 (by decide) (fun c66 => ?_) (fun c66 => ?_)
                  · have h := h.1 c66
                    obtain ⟨o67, h⟩ := h
                    refine zb_iinc (j := 3) (L' := [(3, (0, (v3_18 + 8))), (0, (3, 0)), (1, (2, x1)), (2, (2, x2))]) dL_law_1311 rfl o67 (by decide) rfl ?_
                    refine zb_goto (tgt := 18) dL_law_1314 (by decide) ?_
                    refine zb_sub (L' := [(0, (3, 0)), (1, (2, x1)), (2, (2, x2)), (3, (0, (v3_18 + 8)))]) [1, 2, 3, 0] rfl ?_
                    exact (hX18 _ _).mp h hF
                  · have h := h.2 c66
                    refine zb_iconst dL_law_493 (zb_inIc rfl) ?_
                    exact zb_rZL dL_law_494 rfl hF (by decide) hk hn h
                ·
                  by_cases c85 : (zb_and (xs (v3_18).toNat).toInt 63) = 7
                  · refine zb_tableIn (off := 462) (tgt := 495) dL_law_33 (by omega) (by omega) (by rw [c85]; decide) (by decide) ?_
                    have h := h.2.2.2.2.2.2.2.1 c85
                    refine zb_aload_n (j := 1) dL_law_495 rfl rfl ?_
                    refine zb_aload_s (j := 0) dL_law_496 rfl rfl ?_
                    refine zb_iload_n (j := 3) dL_law_497 rfl rfl ?_
                    refine zb_iconst dL_law_498 (zb_inIc rfl) ?_
                    obtain ⟨o69, h⟩ := h
                    refine zb_iadd dL_law_499 o69 ?_
                    obtain ⟨o70, h⟩ := h
                    refine zb_sload hs dL_law_500 o70.1 o70.2 ?_
                    refine zb_aload_s (j := 0) dL_law_501 rfl rfl ?_
                    refine zb_iload_n (j := 3) dL_law_502 rfl rfl ?_
                    refine zb_iconst dL_law_503 (zb_inIc rfl) ?_
                    obtain ⟨o71, h⟩ := h
                    refine zb_iadd dL_law_504 o71 ?_
                    obtain ⟨o72, h⟩ := h
                    refine zb_sload hs dL_law_505 o72.1 o72.2 ?_
                    refine zb_aload_s (j := 0) dL_law_506 rfl rfl ?_
                    refine zb_iload_n (j := 3) dL_law_507 rfl rfl ?_
                    refine zb_iconst dL_law_508 (zb_inIc rfl) ?_
                    obtain ⟨o73, h⟩ := h
                    refine zb_iadd dL_law_509 o73 ?_
                    obtain ⟨o74, h⟩ := h
                    refine zb_sload hs dL_law_510 o74.1 o74.2 ?_
                    refine zb_aload_s (j := 0) dL_law_511 rfl rfl ?_
                    refine zb_iload_n (j := 3) dL_law_512 rfl rfl ?_
                    refine zb_iconst dL_law_513 (zb_inIc rfl) ?_
                    obtain ⟨o75, h⟩ := h
                    refine zb_iadd dL_law_514 o75 ?_
                    obtain ⟨o76, h⟩ := h
                    refine zb_sload hs dL_law_515 o76.1 o76.2 ?_
                    refine zb_aload_s (j := 0) dL_law_516 rfl rfl ?_
                    refine zb_iload_n (j := 3) dL_law_517 rfl rfl ?_
                    refine zb_iconst dL_law_518 (zb_inIc rfl) ?_
                    obtain ⟨o77, h⟩ := h
                    refine zb_iadd dL_law_519 o77 ?_
                    obtain ⟨o78, h⟩ := h
                    refine zb_sload hs dL_law_520 o78.1 o78.2 ?_
                    refine zb_aload_s (j := 0) dL_law_521 rfl rfl ?_
                    refine zb_iload_n (j := 3) dL_law_522 rfl rfl ?_
                    refine zb_bipush dL_law_523 (by decide) (zb_inIc rfl) ?_
                    obtain ⟨o79, h⟩ := h
                    refine zb_iadd dL_law_525 o79 ?_
                    obtain ⟨o80, h⟩ := h
                    refine zb_sload hs dL_law_526 o80.1 o80.2 ?_
                    refine zb_aload_s (j := 0) dL_law_527 rfl rfl ?_
                    refine zb_iload_n (j := 3) dL_law_528 rfl rfl ?_
                    refine zb_bipush dL_law_529 (by decide) (zb_inIc rfl) ?_
                    obtain ⟨o81, h⟩ := h
                    refine zb_iadd dL_law_531 o81 ?_
                    obtain ⟨o82, h⟩ := h
                    refine zb_sload hs dL_law_532 o82.1 o82.2 ?_
                    refine zb_cVL (As := [(0, (xs ((v3_18 + 1)).toNat).toInt), (0, (xs ((v3_18 + 2)).toNat).toInt), (0, (xs ((v3_18 + 3)).toNat).toInt), (0, (xs ((v3_18 + 4)).toNat).toInt), (0, (xs ((v3_18 + 5)).toNat).toInt), (0, (xs ((v3_18 + 6)).toNat).toInt), (0, (xs ((v3_18 + 7)).toNat).toInt)]) (As' := [(0, (xs ((v3_18 + 7)).toNat).toInt), (0, (xs ((v3_18 + 6)).toNat).toInt), (0, (xs ((v3_18 + 5)).toNat).toInt), (0, (xs ((v3_18 + 4)).toNat).toInt), (0, (xs ((v3_18 + 3)).toNat).toInt), (0, (xs ((v3_18 + 2)).toNat).toInt), (0, (xs ((v3_18 + 1)).toNat).toInt)]) (st := []) dL_law_533 lk_L_44 gd_X11_copy rfl rfl i_1 ⟨_, rfl, rfl⟩ h hW hF (zb_aR i_1 (zb_aI (zb_aI (zb_aI (zb_aI (zb_aI (zb_aI (zb_aI zb_a0)))))))) (Nat.le_refl _) (Nat.le_of_ble_eq_true rfl) hk hn (fun r533 m533 hF h => ?_)
                    show zb_WP _ _ _ _ [(0, r533)] _ _ _ _
                    refine zb_aload_n (j := 2) dL_law_536 rfl rfl ?_
                    refine zb_aload_s (j := 0) dL_law_537 rfl rfl ?_
                    refine zb_iload_n (j := 3) dL_law_538 rfl rfl ?_
                    refine zb_iconst dL_law_539 (zb_inIc rfl) ?_
                    refine zb_iadd dL_law_540 o69 ?_
                    refine zb_sload hs dL_law_541 o70.1 o70.2 ?_
                    refine zb_aload_s (j := 0) dL_law_542 rfl rfl ?_
                    refine zb_iload_n (j := 3) dL_law_543 rfl rfl ?_
                    refine zb_iconst dL_law_544 (zb_inIc rfl) ?_
                    refine zb_iadd dL_law_545 o71 ?_
                    refine zb_sload hs dL_law_546 o72.1 o72.2 ?_
                    refine zb_aload_s (j := 0) dL_law_547 rfl rfl ?_
                    refine zb_iload_n (j := 3) dL_law_548 rfl rfl ?_
                    refine zb_iconst dL_law_549 (zb_inIc rfl) ?_
                    refine zb_iadd dL_law_550 o73 ?_
                    refine zb_sload hs dL_law_551 o74.1 o74.2 ?_
                    refine zb_aload_s (j := 0) dL_law_552 rfl rfl ?_
                    refine zb_iload_n (j := 3) dL_law_553 rfl rfl ?_
                    refine zb_iconst dL_law_554 (zb_inIc rfl) ?_
                    refine zb_iadd dL_law_555 o75 ?_
                    refine zb_sload hs dL_law_556 o76.1 o76.2 ?_
                    refine zb_aload_s (j := 0) dL_law_557 rfl rfl ?_
                    refine zb_iload_n (j := 3) dL_law_558 rfl rfl ?_
                    refine zb_iconst dL_law_559 (zb_inIc rfl) ?_
                    refine zb_iadd dL_law_560 o77 ?_
                    refine zb_sload hs dL_law_561 o78.1 o78.2 ?_
                    refine zb_aload_s (j := 0) dL_law_562 rfl rfl ?_
                    refine zb_iload_n (j := 3) dL_law_563 rfl rfl ?_
                    refine zb_bipush dL_law_564 (by decide) (zb_inIc rfl) ?_
                    refine zb_iadd dL_law_566 o79 ?_
                    refine zb_sload hs dL_law_567 o80.1 o80.2 ?_
                    refine zb_aload_s (j := 0) dL_law_568 rfl rfl ?_
                    refine zb_iload_n (j := 3) dL_law_569 rfl rfl ?_
                    refine zb_bipush dL_law_570 (by decide) (zb_inIc rfl) ?_
                    refine zb_iadd dL_law_572 o81 ?_
                    refine zb_sload hs dL_law_573 o82.1 o82.2 ?_
                    refine zb_cVL (As := [(0, (xs ((v3_18 + 1)).toNat).toInt), (0, (xs ((v3_18 + 2)).toNat).toInt), (0, (xs ((v3_18 + 3)).toNat).toInt), (0, (xs ((v3_18 + 4)).toNat).toInt), (0, (xs ((v3_18 + 5)).toNat).toInt), (0, (xs ((v3_18 + 6)).toNat).toInt), (0, (xs ((v3_18 + 7)).toNat).toInt)]) (As' := [(0, (xs ((v3_18 + 7)).toNat).toInt), (0, (xs ((v3_18 + 6)).toNat).toInt), (0, (xs ((v3_18 + 5)).toNat).toInt), (0, (xs ((v3_18 + 4)).toNat).toInt), (0, (xs ((v3_18 + 3)).toNat).toInt), (0, (xs ((v3_18 + 2)).toNat).toInt), (0, (xs ((v3_18 + 1)).toNat).toInt)]) (st := [(0, r533)]) dL_law_574 lk_L_48 gd_X12_copy rfl rfl i_2 ⟨_, rfl, rfl⟩ h hW hF (zb_aR i_2 (zb_aI (zb_aI (zb_aI (zb_aI (zb_aI (zb_aI (zb_aI zb_a0)))))))) (Nat.le_refl _) (Nat.le_of_ble_eq_true rfl) hk hn (fun r574 m574 hF h => ?_)
                    show zb_WP _ _ _ _ [(0, r574), (0, r533)] _ _ _ _
                    refine zb_icmp_eq (tgt := 1311) dL_law_577 (by decide) (fun c83 => ?_) (fun c83 => ?_)
                    · have h := h.1 c83
                      obtain ⟨o84, h⟩ := h
                      refine zb_iinc (j := 3) (L' := [(3, (0, (v3_18 + 8))), (0, (3, 0)), (1, (2, x1)), (2, (2, x2))]) dL_law_1311 rfl o84 (by decide) rfl ?_
                      refine zb_goto (tgt := 18) dL_law_1314 (by decide) ?_
                      refine zb_sub (L' := [(0, (3, 0)), (1, (2, x1)), (2, (2, x2)), (3, (0, (v3_18 + 8)))]) [1, 2, 3, 0] rfl ?_
                      exact (hX18 _ _).mp h hF
                    · have h := h.2 c83
                      refine zb_iconst dL_law_580 (zb_inIc rfl) ?_
                      exact zb_rZL dL_law_581 rfl hF (by decide) hk hn h
                  ·
                    by_cases c94 : (zb_and (xs (v3_18).toNat).toInt 63) = 8
                    · refine zb_tableIn (off := 549) (tgt := 582) dL_law_33 (by omega) (by omega) (by rw [c94]; decide) (by decide) ?_
                      have h := h.2.2.2.2.2.2.2.2.1 c94
                      refine zb_aload_n (j := 1) dL_law_582 rfl rfl ?_
                      refine zb_aload_s (j := 0) dL_law_583 rfl rfl ?_
                      refine zb_iload_n (j := 3) dL_law_584 rfl rfl ?_
                      refine zb_iconst dL_law_585 (zb_inIc rfl) ?_
                      obtain ⟨o86, h⟩ := h
                      refine zb_iadd dL_law_586 o86 ?_
                      obtain ⟨o87, h⟩ := h
                      refine zb_sload hs dL_law_587 o87.1 o87.2 ?_
                      refine zb_aload_s (j := 0) dL_law_588 rfl rfl ?_
                      refine zb_iload_n (j := 3) dL_law_589 rfl rfl ?_
                      refine zb_iconst dL_law_590 (zb_inIc rfl) ?_
                      obtain ⟨o88, h⟩ := h
                      refine zb_iadd dL_law_591 o88 ?_
                      obtain ⟨o89, h⟩ := h
                      refine zb_sload hs dL_law_592 o89.1 o89.2 ?_
                      refine zb_aload_s (j := 0) dL_law_593 rfl rfl ?_
                      refine zb_iload_n (j := 3) dL_law_594 rfl rfl ?_
                      refine zb_iconst dL_law_595 (zb_inIc rfl) ?_
                      obtain ⟨o90, h⟩ := h
                      refine zb_iadd dL_law_596 o90 ?_
                      obtain ⟨o91, h⟩ := h
                      refine zb_sload hs dL_law_597 o91.1 o91.2 ?_
                      refine zb_cVL (As := [(0, (xs ((v3_18 + 1)).toNat).toInt), (0, (xs ((v3_18 + 2)).toNat).toInt), (0, (xs ((v3_18 + 3)).toNat).toInt)]) (As' := [(0, (xs ((v3_18 + 3)).toNat).toInt), (0, (xs ((v3_18 + 2)).toNat).toInt), (0, (xs ((v3_18 + 1)).toNat).toInt)]) (st := []) dL_law_598 lk_L_49 gd_X11_swap rfl rfl i_1 ⟨_, rfl, rfl⟩ h hW hF (zb_aR i_1 (zb_aI (zb_aI (zb_aI zb_a0)))) (Nat.le_refl _) (Nat.le_of_ble_eq_true rfl) hk hn (fun r598 m598 hF h => ?_)
                      show zb_WP _ _ _ _ [(0, r598)] _ _ _ _
                      refine zb_aload_n (j := 2) dL_law_601 rfl rfl ?_
                      refine zb_aload_s (j := 0) dL_law_602 rfl rfl ?_
                      refine zb_iload_n (j := 3) dL_law_603 rfl rfl ?_
                      refine zb_iconst dL_law_604 (zb_inIc rfl) ?_
                      refine zb_iadd dL_law_605 o86 ?_
                      refine zb_sload hs dL_law_606 o87.1 o87.2 ?_
                      refine zb_aload_s (j := 0) dL_law_607 rfl rfl ?_
                      refine zb_iload_n (j := 3) dL_law_608 rfl rfl ?_
                      refine zb_iconst dL_law_609 (zb_inIc rfl) ?_
                      refine zb_iadd dL_law_610 o88 ?_
                      refine zb_sload hs dL_law_611 o89.1 o89.2 ?_
                      refine zb_aload_s (j := 0) dL_law_612 rfl rfl ?_
                      refine zb_iload_n (j := 3) dL_law_613 rfl rfl ?_
                      refine zb_iconst dL_law_614 (zb_inIc rfl) ?_
                      refine zb_iadd dL_law_615 o90 ?_
                      refine zb_sload hs dL_law_616 o91.1 o91.2 ?_
                      refine zb_cVL (As := [(0, (xs ((v3_18 + 1)).toNat).toInt), (0, (xs ((v3_18 + 2)).toNat).toInt), (0, (xs ((v3_18 + 3)).toNat).toInt)]) (As' := [(0, (xs ((v3_18 + 3)).toNat).toInt), (0, (xs ((v3_18 + 2)).toNat).toInt), (0, (xs ((v3_18 + 1)).toNat).toInt)]) (st := [(0, r598)]) dL_law_617 lk_L_52 gd_X12_swap rfl rfl i_2 ⟨_, rfl, rfl⟩ h hW hF (zb_aR i_2 (zb_aI (zb_aI (zb_aI zb_a0)))) (Nat.le_refl _) (Nat.le_of_ble_eq_true rfl) hk hn (fun r617 m617 hF h => ?_)
                      show zb_WP _ _ _ _ [(0, r617), (0, r598)] _ _ _ _
                      refine zb_icmp_eq (tgt := 1311) dL_law_620 (by decide) (fun c92 => ?_) (fun c92 => ?_)
                      · have h := h.1 c92
                        obtain ⟨o93, h⟩ := h
                        refine zb_iinc (j := 3) (L' := [(3, (0, (v3_18 + 8))), (0, (3, 0)), (1, (2, x1)), (2, (2, x2))]) dL_law_1311 rfl o93 (by decide) rfl ?_
                        refine zb_goto (tgt := 18) dL_law_1314 (by decide) ?_
                        refine zb_sub (L' := [(0, (3, 0)), (1, (2, x1)), (2, (2, x2)), (3, (0, (v3_18 + 8)))]) [1, 2, 3, 0] rfl ?_
                        exact (hX18 _ _).mp h hF
                      · have h := h.2 c92
                        refine zb_iconst dL_law_623 (zb_inIc rfl) ?_
                        exact zb_rZL dL_law_624 rfl hF (by decide) hk hn h
                    ·
                      by_cases c101 : (zb_and (xs (v3_18).toNat).toInt 63) = 9
                      · refine zb_tableIn (off := 592) (tgt := 625) dL_law_33 (by omega) (by omega) (by rw [c101]; decide) (by decide) ?_
                        have h := h.2.2.2.2.2.2.2.2.2.1 c101
                        refine zb_aload_n (j := 1) dL_law_625 rfl rfl ?_
                        refine zb_aload_s (j := 0) dL_law_626 rfl rfl ?_
                        refine zb_iload_n (j := 3) dL_law_627 rfl rfl ?_
                        refine zb_iconst dL_law_628 (zb_inIc rfl) ?_
                        obtain ⟨o95, h⟩ := h
                        refine zb_iadd dL_law_629 o95 ?_
                        obtain ⟨o96, h⟩ := h
                        refine zb_sload hs dL_law_630 o96.1 o96.2 ?_
                        refine zb_aload_s (j := 0) dL_law_631 rfl rfl ?_
                        refine zb_iload_n (j := 3) dL_law_632 rfl rfl ?_
                        refine zb_iconst dL_law_633 (zb_inIc rfl) ?_
                        obtain ⟨o97, h⟩ := h
                        refine zb_iadd dL_law_634 o97 ?_
                        obtain ⟨o98, h⟩ := h
                        refine zb_sload hs dL_law_635 o98.1 o98.2 ?_
                        refine zb_cVL (As := [(0, (xs ((v3_18 + 1)).toNat).toInt), (0, (xs ((v3_18 + 2)).toNat).toInt)]) (As' := [(0, (xs ((v3_18 + 2)).toNat).toInt), (0, (xs ((v3_18 + 1)).toNat).toInt)]) (st := []) dL_law_636 lk_L_53 gd_X11_twin rfl rfl i_1 ⟨_, rfl, rfl⟩ h hW hF (zb_aR i_1 (zb_aI (zb_aI zb_a0))) (Nat.le_refl _) (Nat.le_of_ble_eq_true rfl) hk hn (fun r636 m636 hF h => ?_)
                        show zb_WP _ _ _ _ [(0, r636)] _ _ _ _
                        refine zb_aload_n (j := 2) dL_law_639 rfl rfl ?_
                        refine zb_aload_s (j := 0) dL_law_640 rfl rfl ?_
                        refine zb_iload_n (j := 3) dL_law_641 rfl rfl ?_
                        refine zb_iconst dL_law_642 (zb_inIc rfl) ?_
                        refine zb_iadd dL_law_643 o95 ?_
                        refine zb_sload hs dL_law_644 o96.1 o96.2 ?_
                        refine zb_aload_s (j := 0) dL_law_645 rfl rfl ?_
                        refine zb_iload_n (j := 3) dL_law_646 rfl rfl ?_
                        refine zb_iconst dL_law_647 (zb_inIc rfl) ?_
                        refine zb_iadd dL_law_648 o97 ?_
                        refine zb_sload hs dL_law_649 o98.1 o98.2 ?_
                        refine zb_cVL (As := [(0, (xs ((v3_18 + 1)).toNat).toInt), (0, (xs ((v3_18 + 2)).toNat).toInt)]) (As' := [(0, (xs ((v3_18 + 2)).toNat).toInt), (0, (xs ((v3_18 + 1)).toNat).toInt)]) (st := [(0, r636)]) dL_law_650 lk_L_56 gd_X12_twin rfl rfl i_2 ⟨_, rfl, rfl⟩ h hW hF (zb_aR i_2 (zb_aI (zb_aI zb_a0))) (Nat.le_refl _) (Nat.le_of_ble_eq_true rfl) hk hn (fun r650 m650 hF h => ?_)
                        show zb_WP _ _ _ _ [(0, r650), (0, r636)] _ _ _ _
                        refine zb_icmp_eq (tgt := 1311) dL_law_653 (by decide) (fun c99 => ?_) (fun c99 => ?_)
                        · have h := h.1 c99
                          obtain ⟨o100, h⟩ := h
                          refine zb_iinc (j := 3) (L' := [(3, (0, (v3_18 + 8))), (0, (3, 0)), (1, (2, x1)), (2, (2, x2))]) dL_law_1311 rfl o100 (by decide) rfl ?_
                          refine zb_goto (tgt := 18) dL_law_1314 (by decide) ?_
                          refine zb_sub (L' := [(0, (3, 0)), (1, (2, x1)), (2, (2, x2)), (3, (0, (v3_18 + 8)))]) [1, 2, 3, 0] rfl ?_
                          exact (hX18 _ _).mp h hF
                        · have h := h.2 c99
                          refine zb_iconst dL_law_656 (zb_inIc rfl) ?_
                          exact zb_rZL dL_law_657 rfl hF (by decide) hk hn h
                      ·
                        by_cases c106 : (zb_and (xs (v3_18).toNat).toInt 63) = 10
                        · refine zb_tableIn (off := 625) (tgt := 658) dL_law_33 (by omega) (by omega) (by rw [c106]; decide) (by decide) ?_
                          have h := h.2.2.2.2.2.2.2.2.2.2.1 c106
                          refine zb_aload_n (j := 1) dL_law_658 rfl rfl ?_
                          refine zb_aload_s (j := 0) dL_law_659 rfl rfl ?_
                          refine zb_iload_n (j := 3) dL_law_660 rfl rfl ?_
                          refine zb_iconst dL_law_661 (zb_inIc rfl) ?_
                          obtain ⟨o102, h⟩ := h
                          refine zb_iadd dL_law_662 o102 ?_
                          obtain ⟨o103, h⟩ := h
                          refine zb_sload hs dL_law_663 o103.1 o103.2 ?_
                          refine zb_cVL (As := [(0, (xs ((v3_18 + 1)).toNat).toInt)]) (As' := [(0, (xs ((v3_18 + 1)).toNat).toInt)]) (st := []) dL_law_664 lk_L_57 gd_X11_drop rfl rfl i_1 ⟨_, rfl, rfl⟩ h hW hF (zb_aR i_1 (zb_aI zb_a0)) (Nat.le_refl _) (Nat.le_of_ble_eq_true rfl) hk hn (fun r664 m664 hF h => ?_)
                          show zb_WP _ _ _ _ [(0, r664)] _ _ _ _
                          refine zb_aload_n (j := 2) dL_law_667 rfl rfl ?_
                          refine zb_aload_s (j := 0) dL_law_668 rfl rfl ?_
                          refine zb_iload_n (j := 3) dL_law_669 rfl rfl ?_
                          refine zb_iconst dL_law_670 (zb_inIc rfl) ?_
                          refine zb_iadd dL_law_671 o102 ?_
                          refine zb_sload hs dL_law_672 o103.1 o103.2 ?_
                          refine zb_cVL (As := [(0, (xs ((v3_18 + 1)).toNat).toInt)]) (As' := [(0, (xs ((v3_18 + 1)).toNat).toInt)]) (st := [(0, r664)]) dL_law_673 lk_L_61 gd_X12_drop rfl rfl i_2 ⟨_, rfl, rfl⟩ h hW hF (zb_aR i_2 (zb_aI zb_a0)) (Nat.le_refl _) (Nat.le_of_ble_eq_true rfl) hk hn (fun r673 m673 hF h => ?_)
                          show zb_WP _ _ _ _ [(0, r673), (0, r664)] _ _ _ _
                          refine zb_icmp_eq (tgt := 1311) dL_law_676 (by decide) (fun c104 => ?_) (fun c104 => ?_)
                          · have h := h.1 c104
                            obtain ⟨o105, h⟩ := h
                            refine zb_iinc (j := 3) (L' := [(3, (0, (v3_18 + 8))), (0, (3, 0)), (1, (2, x1)), (2, (2, x2))]) dL_law_1311 rfl o105 (by decide) rfl ?_
                            refine zb_goto (tgt := 18) dL_law_1314 (by decide) ?_
                            refine zb_sub (L' := [(0, (3, 0)), (1, (2, x1)), (2, (2, x2)), (3, (0, (v3_18 + 8)))]) [1, 2, 3, 0] rfl ?_
                            exact (hX18 _ _).mp h hF
                          · have h := h.2 c104
                            refine zb_iconst dL_law_679 (zb_inIc rfl) ?_
                            exact zb_rZL dL_law_680 rfl hF (by decide) hk hn h
                        ·
                          by_cases c115 : (zb_and (xs (v3_18).toNat).toInt 63) = 11
                          · refine zb_tableIn (off := 648) (tgt := 681) dL_law_33 (by omega) (by omega) (by rw [c115]; decide) (by decide) ?_
                            have h := h.2.2.2.2.2.2.2.2.2.2.2.1 c115
                            refine zb_aload_n (j := 1) dL_law_681 rfl rfl ?_
                            refine zb_aload_s (j := 0) dL_law_682 rfl rfl ?_
                            refine zb_iload_n (j := 3) dL_law_683 rfl rfl ?_
                            refine zb_iconst dL_law_684 (zb_inIc rfl) ?_
                            obtain ⟨o107, h⟩ := h
                            refine zb_iadd dL_law_685 o107 ?_
                            obtain ⟨o108, h⟩ := h
                            refine zb_sload hs dL_law_686 o108.1 o108.2 ?_
                            refine zb_aload_s (j := 0) dL_law_687 rfl rfl ?_
                            refine zb_iload_n (j := 3) dL_law_688 rfl rfl ?_
                            refine zb_iconst dL_law_689 (zb_inIc rfl) ?_
                            obtain ⟨o109, h⟩ := h
                            refine zb_iadd dL_law_690 o109 ?_
                            obtain ⟨o110, h⟩ := h
                            refine zb_sload hs dL_law_691 o110.1 o110.2 ?_
                            refine zb_aload_s (j := 0) dL_law_692 rfl rfl ?_
                            refine zb_iload_n (j := 3) dL_law_693 rfl rfl ?_
                            refine zb_iconst dL_law_694 (zb_inIc rfl) ?_
                            obtain ⟨o111, h⟩ := h
                            refine zb_iadd dL_law_695 o111 ?_
                            obtain ⟨o112, h⟩ := h
                            refine zb_sload hs dL_law_696 o112.1 o112.2 ?_
                            refine zb_cVLp (As := [(0, (xs ((v3_18 + 1)).toNat).toInt), (0, (xs ((v3_18 + 2)).toNat).toInt), (0, (xs ((v3_18 + 3)).toNat).toInt)]) (As' := [(0, (xs ((v3_18 + 3)).toNat).toInt), (0, (xs ((v3_18 + 2)).toNat).toInt), (0, (xs ((v3_18 + 1)).toNat).toInt)]) (st := []) dL_law_697 lk_L_62 gd_X11_told rfl rfl i_1 ⟨_, rfl, rfl⟩ h hW hF (zb_aR i_1 (zb_aI (zb_aI (zb_aI zb_a0)))) (Nat.le_refl _) (Nat.le_of_ble_eq_true rfl) hk hn (fun r697 h => ?_)
                            show zb_WP _ _ _ _ [(0, r697)] _ _ _ _
                            refine zb_aload_n (j := 2) dL_law_700 rfl rfl ?_
                            refine zb_aload_s (j := 0) dL_law_701 rfl rfl ?_
                            refine zb_iload_n (j := 3) dL_law_702 rfl rfl ?_
                            refine zb_iconst dL_law_703 (zb_inIc rfl) ?_
                            refine zb_iadd dL_law_704 o107 ?_
                            refine zb_sload hs dL_law_705 o108.1 o108.2 ?_
                            refine zb_aload_s (j := 0) dL_law_706 rfl rfl ?_
                            refine zb_iload_n (j := 3) dL_law_707 rfl rfl ?_
                            refine zb_iconst dL_law_708 (zb_inIc rfl) ?_
                            refine zb_iadd dL_law_709 o109 ?_
                            refine zb_sload hs dL_law_710 o110.1 o110.2 ?_
                            refine zb_aload_s (j := 0) dL_law_711 rfl rfl ?_
                            refine zb_iload_n (j := 3) dL_law_712 rfl rfl ?_
                            refine zb_iconst dL_law_713 (zb_inIc rfl) ?_
                            refine zb_iadd dL_law_714 o111 ?_
                            refine zb_sload hs dL_law_715 o112.1 o112.2 ?_
                            refine zb_cVLp (As := [(0, (xs ((v3_18 + 1)).toNat).toInt), (0, (xs ((v3_18 + 2)).toNat).toInt), (0, (xs ((v3_18 + 3)).toNat).toInt)]) (As' := [(0, (xs ((v3_18 + 3)).toNat).toInt), (0, (xs ((v3_18 + 2)).toNat).toInt), (0, (xs ((v3_18 + 1)).toNat).toInt)]) (st := [(0, r697)]) dL_law_716 lk_L_65 gd_X12_told rfl rfl i_2 ⟨_, rfl, rfl⟩ h hW hF (zb_aR i_2 (zb_aI (zb_aI (zb_aI zb_a0)))) (Nat.le_refl _) (Nat.le_of_ble_eq_true rfl) hk hn (fun r716 h => ?_)
                            show zb_WP _ _ _ _ [(0, r716), (0, r697)] _ _ _ _
                            refine zb_icmp_eq (tgt := 1311) dL_law_719 (by decide) (fun c113 => ?_) (fun c113 => ?_)
                            · have h := h.1 c113
                              obtain ⟨o114, h⟩ := h
                              refine zb_iinc (j := 3) (L' := [(3, (0, (v3_18 + 8))), (0, (3, 0)), (1, (2, x1)), (2, (2, x2))]) dL_law_1311 rfl o114 (by decide) rfl ?_
                              refine zb_goto (tgt := 18) dL_law_1314 (by decide) ?_
                              refine zb_sub (L' := [(0, (3, 0)), (1, (2, x1)), (2, (2, x2)), (3, (0, (v3_18 + 8)))]) [1, 2, 3, 0] rfl ?_
                              exact (hX18 _ _).mp h hF
                            · have h := h.2 c113
                              refine zb_iconst dL_law_722 (zb_inIc rfl) ?_
                              exact zb_rZL dL_law_723 rfl hF (by decide) hk hn h
                          ·
                            by_cases c122 : (zb_and (xs (v3_18).toNat).toInt 63) = 12
                            · refine zb_tableIn (off := 691) (tgt := 724) dL_law_33 (by omega) (by omega) (by rw [c122]; decide) (by decide) ?_
                              have h := h.2.2.2.2.2.2.2.2.2.2.2.2.1 c122
                              refine zb_aload_n (j := 1) dL_law_724 rfl rfl ?_
                              refine zb_aload_s (j := 0) dL_law_725 rfl rfl ?_
                              refine zb_iload_n (j := 3) dL_law_726 rfl rfl ?_
                              refine zb_iconst dL_law_727 (zb_inIc rfl) ?_
                              obtain ⟨o116, h⟩ := h
                              refine zb_iadd dL_law_728 o116 ?_
                              obtain ⟨o117, h⟩ := h
                              refine zb_sload hs dL_law_729 o117.1 o117.2 ?_
                              refine zb_aload_s (j := 0) dL_law_730 rfl rfl ?_
                              refine zb_iload_n (j := 3) dL_law_731 rfl rfl ?_
                              refine zb_iconst dL_law_732 (zb_inIc rfl) ?_
                              obtain ⟨o118, h⟩ := h
                              refine zb_iadd dL_law_733 o118 ?_
                              obtain ⟨o119, h⟩ := h
                              refine zb_sload hs dL_law_734 o119.1 o119.2 ?_
                              refine zb_cVLp (As := [(0, (xs ((v3_18 + 1)).toNat).toInt), (0, (xs ((v3_18 + 2)).toNat).toInt)]) (As' := [(0, (xs ((v3_18 + 2)).toNat).toInt), (0, (xs ((v3_18 + 1)).toNat).toInt)]) (st := []) dL_law_735 lk_L_66 gd_X11_count rfl rfl i_1 ⟨_, rfl, rfl⟩ h hW hF (zb_aR i_1 (zb_aI (zb_aI zb_a0))) (Nat.le_refl _) (Nat.le_of_ble_eq_true rfl) hk hn (fun r735 h => ?_)
                              show zb_WP _ _ _ _ [(0, r735)] _ _ _ _
                              refine zb_aload_n (j := 2) dL_law_738 rfl rfl ?_
                              refine zb_aload_s (j := 0) dL_law_739 rfl rfl ?_
                              refine zb_iload_n (j := 3) dL_law_740 rfl rfl ?_
                              refine zb_iconst dL_law_741 (zb_inIc rfl) ?_
                              refine zb_iadd dL_law_742 o116 ?_
                              refine zb_sload hs dL_law_743 o117.1 o117.2 ?_
                              refine zb_aload_s (j := 0) dL_law_744 rfl rfl ?_
                              refine zb_iload_n (j := 3) dL_law_745 rfl rfl ?_
                              refine zb_iconst dL_law_746 (zb_inIc rfl) ?_
                              refine zb_iadd dL_law_747 o118 ?_
                              refine zb_sload hs dL_law_748 o119.1 o119.2 ?_
                              refine zb_cVLp (As := [(0, (xs ((v3_18 + 1)).toNat).toInt), (0, (xs ((v3_18 + 2)).toNat).toInt)]) (As' := [(0, (xs ((v3_18 + 2)).toNat).toInt), (0, (xs ((v3_18 + 1)).toNat).toInt)]) (st := [(0, r735)]) dL_law_749 lk_L_69 gd_X12_count rfl rfl i_2 ⟨_, rfl, rfl⟩ h hW hF (zb_aR i_2 (zb_aI (zb_aI zb_a0))) (Nat.le_refl _) (Nat.le_of_ble_eq_true rfl) hk hn (fun r749 h => ?_)
                              show zb_WP _ _ _ _ [(0, r749), (0, r735)] _ _ _ _
                              refine zb_icmp_eq (tgt := 1311) dL_law_752 (by decide) (fun c120 => ?_) (fun c120 => ?_)
                              · have h := h.1 c120
                                obtain ⟨o121, h⟩ := h
                                refine zb_iinc (j := 3) (L' := [(3, (0, (v3_18 + 8))), (0, (3, 0)), (1, (2, x1)), (2, (2, x2))]) dL_law_1311 rfl o121 (by decide) rfl ?_
                                refine zb_goto (tgt := 18) dL_law_1314 (by decide) ?_
                                refine zb_sub (L' := [(0, (3, 0)), (1, (2, x1)), (2, (2, x2)), (3, (0, (v3_18 + 8)))]) [1, 2, 3, 0] rfl ?_
                                exact (hX18 _ _).mp h hF
                              · have h := h.2 c120
                                refine zb_iconst dL_law_755 (zb_inIc rfl) ?_
                                exact zb_rZL dL_law_756 rfl hF (by decide) hk hn h
                            ·
                              by_cases c125 : (zb_and (xs (v3_18).toNat).toInt 63) = 13
                              · refine zb_tableIn (off := 724) (tgt := 757) dL_law_33 (by omega) (by omega) (by rw [c125]; decide) (by decide) ?_
                                have h := h.2.2.2.2.2.2.2.2.2.2.2.2.2.1 c125
                                refine zb_aload_n (j := 1) dL_law_757 rfl rfl ?_
                                refine zb_cVL (As := []) (As' := []) (st := []) dL_law_758 lk_L_70 gd_X11_undo rfl rfl i_1 ⟨_, rfl, rfl⟩ h hW hF (zb_aR i_1 zb_a0) (Nat.le_refl _) (Nat.le_of_ble_eq_true rfl) hk hn (fun r758 m758 hF h => ?_)
                                show zb_WP _ _ _ _ [(0, r758)] _ _ _ _
                                refine zb_aload_n (j := 2) dL_law_761 rfl rfl ?_
                                refine zb_cVL (As := []) (As' := []) (st := [(0, r758)]) dL_law_762 lk_L_74 gd_X12_undo rfl rfl i_2 ⟨_, rfl, rfl⟩ h hW hF (zb_aR i_2 zb_a0) (Nat.le_refl _) (Nat.le_of_ble_eq_true rfl) hk hn (fun r762 m762 hF h => ?_)
                                show zb_WP _ _ _ _ [(0, r762), (0, r758)] _ _ _ _
                                refine zb_icmp_eq (tgt := 1311) dL_law_765 (by decide) (fun c123 => ?_) (fun c123 => ?_)
                                · have h := h.1 c123
                                  obtain ⟨o124, h⟩ := h
                                  refine zb_iinc (j := 3) (L' := [(3, (0, (v3_18 + 8))), (0, (3, 0)), (1, (2, x1)), (2, (2, x2))]) dL_law_1311 rfl o124 (by decide) rfl ?_
                                  refine zb_goto (tgt := 18) dL_law_1314 (by decide) ?_
                                  refine zb_sub (L' := [(0, (3, 0)), (1, (2, x1)), (2, (2, x2)), (3, (0, (v3_18 + 8)))]) [1, 2, 3, 0] rfl ?_
                                  exact (hX18 _ _).mp h hF
                                · have h := h.2 c123
                                  refine zb_iconst dL_law_768 (zb_inIc rfl) ?_
                                  exact zb_rZL dL_law_769 rfl hF (by decide) hk hn h
                              ·
                                by_cases c130 : (zb_and (xs (v3_18).toNat).toInt 63) = 14
                                · refine zb_tableIn (off := 737) (tgt := 770) dL_law_33 (by omega) (by omega) (by rw [c130]; decide) (by decide) ?_
                                  have h := h.2.2.2.2.2.2.2.2.2.2.2.2.2.2.1 c130
                                  refine zb_aload_n (j := 1) dL_law_770 rfl rfl ?_
                                  refine zb_aload_s (j := 0) dL_law_771 rfl rfl ?_
                                  refine zb_iload_n (j := 3) dL_law_772 rfl rfl ?_
                                  refine zb_iconst dL_law_773 (zb_inIc rfl) ?_
                                  obtain ⟨o126, h⟩ := h
                                  refine zb_iadd dL_law_774 o126 ?_
                                  obtain ⟨o127, h⟩ := h
                                  refine zb_sload hs dL_law_775 o127.1 o127.2 ?_
                                  refine zb_cVL (As := [(0, (xs ((v3_18 + 1)).toNat).toInt)]) (As' := [(0, (xs ((v3_18 + 1)).toNat).toInt)]) (st := []) dL_law_776 lk_L_75 gd_X11_split rfl rfl i_1 ⟨_, rfl, rfl⟩ h hW hF (zb_aR i_1 (zb_aI zb_a0)) (Nat.le_refl _) (Nat.le_of_ble_eq_true rfl) hk hn (fun r776 m776 hF h => ?_)
                                  show zb_WP _ _ _ _ [(0, r776)] _ _ _ _
                                  refine zb_aload_n (j := 2) dL_law_779 rfl rfl ?_
                                  refine zb_aload_s (j := 0) dL_law_780 rfl rfl ?_
                                  refine zb_iload_n (j := 3) dL_law_781 rfl rfl ?_
                                  refine zb_iconst dL_law_782 (zb_inIc rfl) ?_
                                  refine zb_iadd dL_law_783 o126 ?_
                                  refine zb_sload hs dL_law_784 o127.1 o127.2 ?_
                                  refine zb_cVL (As := [(0, (xs ((v3_18 + 1)).toNat).toInt)]) (As' := [(0, (xs ((v3_18 + 1)).toNat).toInt)]) (st := [(0, r776)]) dL_law_785 lk_L_78 gd_X12_split rfl rfl i_2 ⟨_, rfl, rfl⟩ h hW hF (zb_aR i_2 (zb_aI zb_a0)) (Nat.le_refl _) (Nat.le_of_ble_eq_true rfl) hk hn (fun r785 m785 hF h => ?_)
                                  show zb_WP _ _ _ _ [(0, r785), (0, r776)] _ _ _ _
                                  refine zb_icmp_eq (tgt := 1311) dL_law_788 (by decide) (fun c128 => ?_) (fun c128 => ?_)
                                  · have h := h.1 c128
                                    obtain ⟨o129, h⟩ := h
                                    refine zb_iinc (j := 3) (L' := [(3, (0, (v3_18 + 8))), (0, (3, 0)), (1, (2, x1)), (2, (2, x2))]) dL_law_1311 rfl o129 (by decide) rfl ?_
                                    refine zb_goto (tgt := 18) dL_law_1314 (by decide) ?_
                                    refine zb_sub (L' := [(0, (3, 0)), (1, (2, x1)), (2, (2, x2)), (3, (0, (v3_18 + 8)))]) [1, 2, 3, 0] rfl ?_
                                    exact (hX18 _ _).mp h hF
                                  · have h := h.2 c128
                                    refine zb_iconst dL_law_791 (zb_inIc rfl) ?_
                                    exact zb_rZL dL_law_792 rfl hF (by decide) hk hn h
                                ·
                                  by_cases c135 : (zb_and (xs (v3_18).toNat).toInt 63) = 15
                                  · refine zb_tableIn (off := 760) (tgt := 793) dL_law_33 (by omega) (by omega) (by rw [c135]; decide) (by decide) ?_
                                    have h := h.2.2.2.2.2.2.2.2.2.2.2.2.2.2.2.1 c135
                                    refine zb_aload_n (j := 1) dL_law_793 rfl rfl ?_
                                    refine zb_aload_s (j := 0) dL_law_794 rfl rfl ?_
                                    refine zb_iload_n (j := 3) dL_law_795 rfl rfl ?_
                                    refine zb_iconst dL_law_796 (zb_inIc rfl) ?_
                                    obtain ⟨o131, h⟩ := h
                                    refine zb_iadd dL_law_797 o131 ?_
                                    obtain ⟨o132, h⟩ := h
                                    refine zb_sload hs dL_law_798 o132.1 o132.2 ?_
                                    refine zb_cVL (As := [(0, (xs ((v3_18 + 1)).toNat).toInt)]) (As' := [(0, (xs ((v3_18 + 1)).toNat).toInt)]) (st := []) dL_law_799 lk_L_79 gd_X11_mark rfl rfl i_1 ⟨_, rfl, rfl⟩ h hW hF (zb_aR i_1 (zb_aI zb_a0)) (Nat.le_refl _) (Nat.le_of_ble_eq_true rfl) hk hn (fun r799 m799 hF h => ?_)
                                    show zb_WP _ _ _ _ [(0, r799)] _ _ _ _
                                    refine zb_aload_n (j := 2) dL_law_802 rfl rfl ?_
                                    refine zb_aload_s (j := 0) dL_law_803 rfl rfl ?_
                                    refine zb_iload_n (j := 3) dL_law_804 rfl rfl ?_
                                    refine zb_iconst dL_law_805 (zb_inIc rfl) ?_
                                    refine zb_iadd dL_law_806 o131 ?_
                                    refine zb_sload hs dL_law_807 o132.1 o132.2 ?_
                                    refine zb_cVL (As := [(0, (xs ((v3_18 + 1)).toNat).toInt)]) (As' := [(0, (xs ((v3_18 + 1)).toNat).toInt)]) (st := [(0, r799)]) dL_law_808 lk_L_82 gd_X12_mark rfl rfl i_2 ⟨_, rfl, rfl⟩ h hW hF (zb_aR i_2 (zb_aI zb_a0)) (Nat.le_refl _) (Nat.le_of_ble_eq_true rfl) hk hn (fun r808 m808 hF h => ?_)
                                    show zb_WP _ _ _ _ [(0, r808), (0, r799)] _ _ _ _
                                    refine zb_icmp_eq (tgt := 1311) dL_law_811 (by decide) (fun c133 => ?_) (fun c133 => ?_)
                                    · have h := h.1 c133
                                      obtain ⟨o134, h⟩ := h
                                      refine zb_iinc (j := 3) (L' := [(3, (0, (v3_18 + 8))), (0, (3, 0)), (1, (2, x1)), (2, (2, x2))]) dL_law_1311 rfl o134 (by decide) rfl ?_
                                      refine zb_goto (tgt := 18) dL_law_1314 (by decide) ?_
                                      refine zb_sub (L' := [(0, (3, 0)), (1, (2, x1)), (2, (2, x2)), (3, (0, (v3_18 + 8)))]) [1, 2, 3, 0] rfl ?_
                                      exact (hX18 _ _).mp h hF
                                    · have h := h.2 c133
                                      refine zb_iconst dL_law_814 (zb_inIc rfl) ?_
                                      exact zb_rZL dL_law_815 rfl hF (by decide) hk hn h
                                  ·
                                    by_cases c140 : (zb_and (xs (v3_18).toNat).toInt 63) = 16
                                    · refine zb_tableIn (off := 783) (tgt := 816) dL_law_33 (by omega) (by omega) (by rw [c140]; decide) (by decide) ?_
                                      have h := h.2.2.2.2.2.2.2.2.2.2.2.2.2.2.2.2.1 c140
                                      refine zb_aload_n (j := 1) dL_law_816 rfl rfl ?_
                                      refine zb_aload_s (j := 0) dL_law_817 rfl rfl ?_
                                      refine zb_iload_n (j := 3) dL_law_818 rfl rfl ?_
                                      refine zb_iconst dL_law_819 (zb_inIc rfl) ?_
                                      obtain ⟨o136, h⟩ := h
                                      refine zb_iadd dL_law_820 o136 ?_
                                      obtain ⟨o137, h⟩ := h
                                      refine zb_sload hs dL_law_821 o137.1 o137.2 ?_
                                      refine zb_cVLp (As := [(0, (xs ((v3_18 + 1)).toNat).toInt)]) (As' := [(0, (xs ((v3_18 + 1)).toNat).toInt)]) (st := []) dL_law_822 lk_L_83 gd_X11_heapOf rfl rfl i_1 ⟨_, rfl, rfl⟩ h hW hF (zb_aR i_1 (zb_aI zb_a0)) (Nat.le_refl _) (Nat.le_of_ble_eq_true rfl) hk hn (fun r822 h => ?_)
                                      show zb_WP _ _ _ _ [(0, r822)] _ _ _ _
                                      refine zb_aload_n (j := 2) dL_law_825 rfl rfl ?_
                                      refine zb_aload_s (j := 0) dL_law_826 rfl rfl ?_
                                      refine zb_iload_n (j := 3) dL_law_827 rfl rfl ?_
                                      refine zb_iconst dL_law_828 (zb_inIc rfl) ?_
                                      refine zb_iadd dL_law_829 o136 ?_
                                      refine zb_sload hs dL_law_830 o137.1 o137.2 ?_
                                      refine zb_cVLp (As := [(0, (xs ((v3_18 + 1)).toNat).toInt)]) (As' := [(0, (xs ((v3_18 + 1)).toNat).toInt)]) (st := [(0, r822)]) dL_law_831 lk_L_86 gd_X12_heapOf rfl rfl i_2 ⟨_, rfl, rfl⟩ h hW hF (zb_aR i_2 (zb_aI zb_a0)) (Nat.le_refl _) (Nat.le_of_ble_eq_true rfl) hk hn (fun r831 h => ?_)
                                      show zb_WP _ _ _ _ [(0, r831), (0, r822)] _ _ _ _
                                      refine zb_icmp_eq (tgt := 1311) dL_law_834 (by decide) (fun c138 => ?_) (fun c138 => ?_)
                                      · have h := h.1 c138
                                        obtain ⟨o139, h⟩ := h
                                        refine zb_iinc (j := 3) (L' := [(3, (0, (v3_18 + 8))), (0, (3, 0)), (1, (2, x1)), (2, (2, x2))]) dL_law_1311 rfl o139 (by decide) rfl ?_
                                        refine zb_goto (tgt := 18) dL_law_1314 (by decide) ?_
                                        refine zb_sub (L' := [(0, (3, 0)), (1, (2, x1)), (2, (2, x2)), (3, (0, (v3_18 + 8)))]) [1, 2, 3, 0] rfl ?_
                                        exact (hX18 _ _).mp h hF
                                      · have h := h.2 c138
                                        refine zb_iconst dL_law_837 (zb_inIc rfl) ?_
                                        exact zb_rZL dL_law_838 rfl hF (by decide) hk hn h
                                    ·
                                      by_cases c145 : (zb_and (xs (v3_18).toNat).toInt 63) = 17
                                      · refine zb_tableIn (off := 806) (tgt := 839) dL_law_33 (by omega) (by omega) (by rw [c145]; decide) (by decide) ?_
                                        have h := h.2.2.2.2.2.2.2.2.2.2.2.2.2.2.2.2.2.1 c145
                                        refine zb_aload_n (j := 1) dL_law_839 rfl rfl ?_
                                        refine zb_aload_s (j := 0) dL_law_840 rfl rfl ?_
                                        refine zb_iload_n (j := 3) dL_law_841 rfl rfl ?_
                                        refine zb_iconst dL_law_842 (zb_inIc rfl) ?_
                                        obtain ⟨o141, h⟩ := h
                                        refine zb_iadd dL_law_843 o141 ?_
                                        obtain ⟨o142, h⟩ := h
                                        refine zb_sload hs dL_law_844 o142.1 o142.2 ?_
                                        refine zb_cVL (As := [(0, (xs ((v3_18 + 1)).toNat).toInt)]) (As' := [(0, (xs ((v3_18 + 1)).toNat).toInt)]) (st := []) dL_law_845 lk_L_87 gd_X11_name rfl rfl i_1 ⟨_, rfl, rfl⟩ h hW hF (zb_aR i_1 (zb_aI zb_a0)) (Nat.le_refl _) (Nat.le_of_ble_eq_true rfl) hk hn (fun r845 m845 hF h => ?_)
                                        show zb_WP _ _ _ _ [(0, r845)] _ _ _ _
                                        refine zb_aload_n (j := 2) dL_law_848 rfl rfl ?_
                                        refine zb_aload_s (j := 0) dL_law_849 rfl rfl ?_
                                        refine zb_iload_n (j := 3) dL_law_850 rfl rfl ?_
                                        refine zb_iconst dL_law_851 (zb_inIc rfl) ?_
                                        refine zb_iadd dL_law_852 o141 ?_
                                        refine zb_sload hs dL_law_853 o142.1 o142.2 ?_
                                        refine zb_cVL (As := [(0, (xs ((v3_18 + 1)).toNat).toInt)]) (As' := [(0, (xs ((v3_18 + 1)).toNat).toInt)]) (st := [(0, r845)]) dL_law_854 lk_L_90 gd_X12_name rfl rfl i_2 ⟨_, rfl, rfl⟩ h hW hF (zb_aR i_2 (zb_aI zb_a0)) (Nat.le_refl _) (Nat.le_of_ble_eq_true rfl) hk hn (fun r854 m854 hF h => ?_)
                                        show zb_WP _ _ _ _ [(0, r854), (0, r845)] _ _ _ _
                                        refine zb_icmp_eq (tgt := 1311) dL_law_857 (by decide) (fun c143 => ?_) (fun c143 => ?_)
                                        · have h := h.1 c143
                                          obtain ⟨o144, h⟩ := h
                                          refine zb_iinc (j := 3) (L' := [(3, (0, (v3_18 + 8))), (0, (3, 0)), (1, (2, x1)), (2, (2, x2))]) dL_law_1311 rfl o144 (by decide) rfl ?_
                                          refine zb_goto (tgt := 18) dL_law_1314 (by decide) ?_
                                          refine zb_sub (L' := [(0, (3, 0)), (1, (2, x1)), (2, (2, x2)), (3, (0, (v3_18 + 8)))]) [1, 2, 3, 0] rfl ?_
                                          exact (hX18 _ _).mp h hF
                                        · have h := h.2 c143
                                          refine zb_iconst dL_law_860 (zb_inIc rfl) ?_
                                          exact zb_rZL dL_law_861 rfl hF (by decide) hk hn h
                                      ·
                                        by_cases c150 : (zb_and (xs (v3_18).toNat).toInt 63) = 18
                                        · refine zb_tableIn (off := 829) (tgt := 862) dL_law_33 (by omega) (by omega) (by rw [c150]; decide) (by decide) ?_
                                          have h := h.2.2.2.2.2.2.2.2.2.2.2.2.2.2.2.2.2.2.1 c150
                                          refine zb_aload_n (j := 1) dL_law_862 rfl rfl ?_
                                          refine zb_aload_s (j := 0) dL_law_863 rfl rfl ?_
                                          refine zb_iload_n (j := 3) dL_law_864 rfl rfl ?_
                                          refine zb_iconst dL_law_865 (zb_inIc rfl) ?_
                                          obtain ⟨o146, h⟩ := h
                                          refine zb_iadd dL_law_866 o146 ?_
                                          obtain ⟨o147, h⟩ := h
                                          refine zb_sload hs dL_law_867 o147.1 o147.2 ?_
                                          refine zb_cVLp (As := [(0, (xs ((v3_18 + 1)).toNat).toInt)]) (As' := [(0, (xs ((v3_18 + 1)).toNat).toInt)]) (st := []) dL_law_868 lk_L_91 gd_X11_nameAt rfl rfl i_1 ⟨_, rfl, rfl⟩ h hW hF (zb_aR i_1 (zb_aI zb_a0)) (Nat.le_refl _) (Nat.le_of_ble_eq_true rfl) hk hn (fun r868 h => ?_)
                                          show zb_WP _ _ _ _ [(0, r868)] _ _ _ _
                                          refine zb_aload_n (j := 2) dL_law_871 rfl rfl ?_
                                          refine zb_aload_s (j := 0) dL_law_872 rfl rfl ?_
                                          refine zb_iload_n (j := 3) dL_law_873 rfl rfl ?_
                                          refine zb_iconst dL_law_874 (zb_inIc rfl) ?_
                                          refine zb_iadd dL_law_875 o146 ?_
                                          refine zb_sload hs dL_law_876 o147.1 o147.2 ?_
                                          refine zb_cVLp (As := [(0, (xs ((v3_18 + 1)).toNat).toInt)]) (As' := [(0, (xs ((v3_18 + 1)).toNat).toInt)]) (st := [(0, r868)]) dL_law_877 lk_L_94 gd_X12_nameAt rfl rfl i_2 ⟨_, rfl, rfl⟩ h hW hF (zb_aR i_2 (zb_aI zb_a0)) (Nat.le_refl _) (Nat.le_of_ble_eq_true rfl) hk hn (fun r877 h => ?_)
                                          show zb_WP _ _ _ _ [(0, r877), (0, r868)] _ _ _ _
                                          refine zb_icmp_eq (tgt := 1311) dL_law_880 (by decide) (fun c148 => ?_) (fun c148 => ?_)
                                          · have h := h.1 c148
                                            obtain ⟨o149, h⟩ := h
                                            refine zb_iinc (j := 3) (L' := [(3, (0, (v3_18 + 8))), (0, (3, 0)), (1, (2, x1)), (2, (2, x2))]) dL_law_1311 rfl o149 (by decide) rfl ?_
                                            refine zb_goto (tgt := 18) dL_law_1314 (by decide) ?_
                                            refine zb_sub (L' := [(0, (3, 0)), (1, (2, x1)), (2, (2, x2)), (3, (0, (v3_18 + 8)))]) [1, 2, 3, 0] rfl ?_
                                            exact (hX18 _ _).mp h hF
                                          · have h := h.2 c148
                                            refine zb_iconst dL_law_883 (zb_inIc rfl) ?_
                                            exact zb_rZL dL_law_884 rfl hF (by decide) hk hn h
                                        ·
                                          by_cases c155 : (zb_and (xs (v3_18).toNat).toInt 63) = 19
                                          · refine zb_tableIn (off := 852) (tgt := 885) dL_law_33 (by omega) (by omega) (by rw [c155]; decide) (by decide) ?_
                                            have h := h.2.2.2.2.2.2.2.2.2.2.2.2.2.2.2.2.2.2.2.1 c155
                                            refine zb_aload_n (j := 1) dL_law_885 rfl rfl ?_
                                            refine zb_aload_s (j := 0) dL_law_886 rfl rfl ?_
                                            refine zb_iload_n (j := 3) dL_law_887 rfl rfl ?_
                                            refine zb_iconst dL_law_888 (zb_inIc rfl) ?_
                                            obtain ⟨o151, h⟩ := h
                                            refine zb_iadd dL_law_889 o151 ?_
                                            obtain ⟨o152, h⟩ := h
                                            refine zb_sload hs dL_law_890 o152.1 o152.2 ?_
                                            refine zb_cVLp (As := [(0, (xs ((v3_18 + 1)).toNat).toInt)]) (As' := [(0, (xs ((v3_18 + 1)).toNat).toInt)]) (st := []) dL_law_891 lk_L_95 gd_X11_order rfl rfl i_1 ⟨_, rfl, rfl⟩ h hW hF (zb_aR i_1 (zb_aI zb_a0)) (Nat.le_refl _) (Nat.le_of_ble_eq_true rfl) hk hn (fun r891 h => ?_)
                                            show zb_WP _ _ _ _ [(0, r891)] _ _ _ _
                                            refine zb_aload_n (j := 2) dL_law_894 rfl rfl ?_
                                            refine zb_aload_s (j := 0) dL_law_895 rfl rfl ?_
                                            refine zb_iload_n (j := 3) dL_law_896 rfl rfl ?_
                                            refine zb_iconst dL_law_897 (zb_inIc rfl) ?_
                                            refine zb_iadd dL_law_898 o151 ?_
                                            refine zb_sload hs dL_law_899 o152.1 o152.2 ?_
                                            refine zb_cVLp (As := [(0, (xs ((v3_18 + 1)).toNat).toInt)]) (As' := [(0, (xs ((v3_18 + 1)).toNat).toInt)]) (st := [(0, r891)]) dL_law_900 lk_L_98 gd_X12_order rfl rfl i_2 ⟨_, rfl, rfl⟩ h hW hF (zb_aR i_2 (zb_aI zb_a0)) (Nat.le_refl _) (Nat.le_of_ble_eq_true rfl) hk hn (fun r900 h => ?_)
                                            show zb_WP _ _ _ _ [(0, r900), (0, r891)] _ _ _ _
                                            refine zb_icmp_eq (tgt := 1311) dL_law_903 (by decide) (fun c153 => ?_) (fun c153 => ?_)
                                            · have h := h.1 c153
                                              obtain ⟨o154, h⟩ := h
                                              refine zb_iinc (j := 3) (L' := [(3, (0, (v3_18 + 8))), (0, (3, 0)), (1, (2, x1)), (2, (2, x2))]) dL_law_1311 rfl o154 (by decide) rfl ?_
                                              refine zb_goto (tgt := 18) dL_law_1314 (by decide) ?_
                                              refine zb_sub (L' := [(0, (3, 0)), (1, (2, x1)), (2, (2, x2)), (3, (0, (v3_18 + 8)))]) [1, 2, 3, 0] rfl ?_
                                              exact (hX18 _ _).mp h hF
                                            · have h := h.2 c153
                                              refine zb_iconst dL_law_906 (zb_inIc rfl) ?_
                                              exact zb_rZL dL_law_907 rfl hF (by decide) hk hn h
                                          ·
                                            by_cases c158 : (zb_and (xs (v3_18).toNat).toInt 63) = 20
                                            · refine zb_tableIn (off := 875) (tgt := 908) dL_law_33 (by omega) (by omega) (by rw [c158]; decide) (by decide) ?_
                                              have h := h.2.2.2.2.2.2.2.2.2.2.2.2.2.2.2.2.2.2.2.2.1 c158
                                              refine zb_aload_n (j := 1) dL_law_908 rfl rfl ?_
                                              refine zb_cVLp (As := []) (As' := []) (st := []) dL_law_909 lk_L_99 gd_X11_nodes rfl rfl i_1 ⟨_, rfl, rfl⟩ h hW hF (zb_aR i_1 zb_a0) (Nat.le_refl _) (Nat.le_of_ble_eq_true rfl) hk hn (fun r909 h => ?_)
                                              show zb_WP _ _ _ _ [(0, r909)] _ _ _ _
                                              refine zb_aload_n (j := 2) dL_law_912 rfl rfl ?_
                                              refine zb_cVLp (As := []) (As' := []) (st := [(0, r909)]) dL_law_913 lk_L_102 gd_X12_nodes rfl rfl i_2 ⟨_, rfl, rfl⟩ h hW hF (zb_aR i_2 zb_a0) (Nat.le_refl _) (Nat.le_of_ble_eq_true rfl) hk hn (fun r913 h => ?_)
                                              show zb_WP _ _ _ _ [(0, r913), (0, r909)] _ _ _ _
                                              refine zb_icmp_eq (tgt := 1311) dL_law_916 (by decide) (fun c156 => ?_) (fun c156 => ?_)
                                              · have h := h.1 c156
                                                obtain ⟨o157, h⟩ := h
                                                refine zb_iinc (j := 3) (L' := [(3, (0, (v3_18 + 8))), (0, (3, 0)), (1, (2, x1)), (2, (2, x2))]) dL_law_1311 rfl o157 (by decide) rfl ?_
                                                refine zb_goto (tgt := 18) dL_law_1314 (by decide) ?_
                                                refine zb_sub (L' := [(0, (3, 0)), (1, (2, x1)), (2, (2, x2)), (3, (0, (v3_18 + 8)))]) [1, 2, 3, 0] rfl ?_
                                                exact (hX18 _ _).mp h hF
                                              · have h := h.2 c156
                                                refine zb_iconst dL_law_919 (zb_inIc rfl) ?_
                                                exact zb_rZL dL_law_920 rfl hF (by decide) hk hn h
                                            ·
                                              by_cases c165 : (zb_and (xs (v3_18).toNat).toInt 63) = 21
                                              · refine zb_tableIn (off := 888) (tgt := 921) dL_law_33 (by omega) (by omega) (by rw [c165]; decide) (by decide) ?_
                                                have h := h.2.2.2.2.2.2.2.2.2.2.2.2.2.2.2.2.2.2.2.2.2.1 c165
                                                refine zb_aload_n (j := 1) dL_law_921 rfl rfl ?_
                                                refine zb_aload_s (j := 0) dL_law_922 rfl rfl ?_
                                                refine zb_iload_n (j := 3) dL_law_923 rfl rfl ?_
                                                refine zb_iconst dL_law_924 (zb_inIc rfl) ?_
                                                obtain ⟨o159, h⟩ := h
                                                refine zb_iadd dL_law_925 o159 ?_
                                                obtain ⟨o160, h⟩ := h
                                                refine zb_sload hs dL_law_926 o160.1 o160.2 ?_
                                                refine zb_aload_s (j := 0) dL_law_927 rfl rfl ?_
                                                refine zb_iload_n (j := 3) dL_law_928 rfl rfl ?_
                                                refine zb_iconst dL_law_929 (zb_inIc rfl) ?_
                                                obtain ⟨o161, h⟩ := h
                                                refine zb_iadd dL_law_930 o161 ?_
                                                obtain ⟨o162, h⟩ := h
                                                refine zb_sload hs dL_law_931 o162.1 o162.2 ?_
                                                refine zb_cVL (As := [(0, (xs ((v3_18 + 1)).toNat).toInt), (0, (xs ((v3_18 + 2)).toNat).toInt)]) (As' := [(0, (xs ((v3_18 + 2)).toNat).toInt), (0, (xs ((v3_18 + 1)).toNat).toInt)]) (st := []) dL_law_932 lk_L_103 gd_X11_same rfl rfl i_1 ⟨_, rfl, rfl⟩ h hW hF (zb_aR i_1 (zb_aI (zb_aI zb_a0))) (Nat.le_refl _) (Nat.le_of_ble_eq_true rfl) hk hn (fun r932 m932 hF h => ?_)
                                                show zb_WP _ _ _ _ [(0, r932)] _ _ _ _
                                                refine zb_aload_n (j := 2) dL_law_935 rfl rfl ?_
                                                refine zb_aload_s (j := 0) dL_law_936 rfl rfl ?_
                                                refine zb_iload_n (j := 3) dL_law_937 rfl rfl ?_
                                                refine zb_iconst dL_law_938 (zb_inIc rfl) ?_
                                                refine zb_iadd dL_law_939 o159 ?_
                                                refine zb_sload hs dL_law_940 o160.1 o160.2 ?_
                                                refine zb_aload_s (j := 0) dL_law_941 rfl rfl ?_
                                                refine zb_iload_n (j := 3) dL_law_942 rfl rfl ?_
                                                refine zb_iconst dL_law_943 (zb_inIc rfl) ?_
                                                refine zb_iadd dL_law_944 o161 ?_
                                                refine zb_sload hs dL_law_945 o162.1 o162.2 ?_
                                                refine zb_cVL (As := [(0, (xs ((v3_18 + 1)).toNat).toInt), (0, (xs ((v3_18 + 2)).toNat).toInt)]) (As' := [(0, (xs ((v3_18 + 2)).toNat).toInt), (0, (xs ((v3_18 + 1)).toNat).toInt)]) (st := [(0, r932)]) dL_law_946 lk_L_106 gd_X12_same rfl rfl i_2 ⟨_, rfl, rfl⟩ h hW hF (zb_aR i_2 (zb_aI (zb_aI zb_a0))) (Nat.le_refl _) (Nat.le_of_ble_eq_true rfl) hk hn (fun r946 m946 hF h => ?_)
                                                show zb_WP _ _ _ _ [(0, r946), (0, r932)] _ _ _ _
                                                refine zb_icmp_eq (tgt := 1311) dL_law_949 (by decide) (fun c163 => ?_) (fun c163 => ?_)
                                                · have h := h.1 c163
                                                  obtain ⟨o164, h⟩ := h
                                                  refine zb_iinc (j := 3) (L' := [(3, (0, (v3_18 + 8))), (0, (3, 0)), (1, (2, x1)), (2, (2, x2))]) dL_law_1311 rfl o164 (by decide) rfl ?_
                                                  refine zb_goto (tgt := 18) dL_law_1314 (by decide) ?_
                                                  refine zb_sub (L' := [(0, (3, 0)), (1, (2, x1)), (2, (2, x2)), (3, (0, (v3_18 + 8)))]) [1, 2, 3, 0] rfl ?_
                                                  exact (hX18 _ _).mp h hF
                                                · have h := h.2 c163
                                                  refine zb_iconst dL_law_952 (zb_inIc rfl) ?_
                                                  exact zb_rZL dL_law_953 rfl hF (by decide) hk hn h
                                              ·
                                                by_cases c172 : (zb_and (xs (v3_18).toNat).toInt 63) = 22
                                                · refine zb_tableIn (off := 921) (tgt := 954) dL_law_33 (by omega) (by omega) (by rw [c172]; decide) (by decide) ?_
                                                  have h := h.2.2.2.2.2.2.2.2.2.2.2.2.2.2.2.2.2.2.2.2.2.2.1 c172
                                                  refine zb_aload_n (j := 1) dL_law_954 rfl rfl ?_
                                                  refine zb_aload_s (j := 0) dL_law_955 rfl rfl ?_
                                                  refine zb_iload_n (j := 3) dL_law_956 rfl rfl ?_
                                                  refine zb_iconst dL_law_957 (zb_inIc rfl) ?_
                                                  obtain ⟨o166, h⟩ := h
                                                  refine zb_iadd dL_law_958 o166 ?_
                                                  obtain ⟨o167, h⟩ := h
                                                  refine zb_sload hs dL_law_959 o167.1 o167.2 ?_
                                                  refine zb_aload_s (j := 0) dL_law_960 rfl rfl ?_
                                                  refine zb_iload_n (j := 3) dL_law_961 rfl rfl ?_
                                                  refine zb_iconst dL_law_962 (zb_inIc rfl) ?_
                                                  obtain ⟨o168, h⟩ := h
                                                  refine zb_iadd dL_law_963 o168 ?_
                                                  obtain ⟨o169, h⟩ := h
                                                  refine zb_sload hs dL_law_964 o169.1 o169.2 ?_
                                                  refine zb_cVL (As := [(0, (xs ((v3_18 + 1)).toNat).toInt), (0, (xs ((v3_18 + 2)).toNat).toInt)]) (As' := [(0, (xs ((v3_18 + 2)).toNat).toInt), (0, (xs ((v3_18 + 1)).toNat).toInt)]) (st := []) dL_law_965 lk_L_107 gd_X11_unlike rfl rfl i_1 ⟨_, rfl, rfl⟩ h hW hF (zb_aR i_1 (zb_aI (zb_aI zb_a0))) (Nat.le_refl _) (Nat.le_of_ble_eq_true rfl) hk hn (fun r965 m965 hF h => ?_)
                                                  show zb_WP _ _ _ _ [(0, r965)] _ _ _ _
                                                  refine zb_aload_n (j := 2) dL_law_968 rfl rfl ?_
                                                  refine zb_aload_s (j := 0) dL_law_969 rfl rfl ?_
                                                  refine zb_iload_n (j := 3) dL_law_970 rfl rfl ?_
                                                  refine zb_iconst dL_law_971 (zb_inIc rfl) ?_
                                                  refine zb_iadd dL_law_972 o166 ?_
                                                  refine zb_sload hs dL_law_973 o167.1 o167.2 ?_
                                                  refine zb_aload_s (j := 0) dL_law_974 rfl rfl ?_
                                                  refine zb_iload_n (j := 3) dL_law_975 rfl rfl ?_
                                                  refine zb_iconst dL_law_976 (zb_inIc rfl) ?_
                                                  refine zb_iadd dL_law_977 o168 ?_
                                                  refine zb_sload hs dL_law_978 o169.1 o169.2 ?_
                                                  refine zb_cVL (As := [(0, (xs ((v3_18 + 1)).toNat).toInt), (0, (xs ((v3_18 + 2)).toNat).toInt)]) (As' := [(0, (xs ((v3_18 + 2)).toNat).toInt), (0, (xs ((v3_18 + 1)).toNat).toInt)]) (st := [(0, r965)]) dL_law_979 lk_L_110 gd_X12_unlike rfl rfl i_2 ⟨_, rfl, rfl⟩ h hW hF (zb_aR i_2 (zb_aI (zb_aI zb_a0))) (Nat.le_refl _) (Nat.le_of_ble_eq_true rfl) hk hn (fun r979 m979 hF h => ?_)
                                                  show zb_WP _ _ _ _ [(0, r979), (0, r965)] _ _ _ _
                                                  refine zb_icmp_eq (tgt := 1311) dL_law_982 (by decide) (fun c170 => ?_) (fun c170 => ?_)
                                                  · have h := h.1 c170
                                                    obtain ⟨o171, h⟩ := h
                                                    refine zb_iinc (j := 3) (L' := [(3, (0, (v3_18 + 8))), (0, (3, 0)), (1, (2, x1)), (2, (2, x2))]) dL_law_1311 rfl o171 (by decide) rfl ?_
                                                    refine zb_goto (tgt := 18) dL_law_1314 (by decide) ?_
                                                    refine zb_sub (L' := [(0, (3, 0)), (1, (2, x1)), (2, (2, x2)), (3, (0, (v3_18 + 8)))]) [1, 2, 3, 0] rfl ?_
                                                    exact (hX18 _ _).mp h hF
                                                  · have h := h.2 c170
                                                    refine zb_iconst dL_law_985 (zb_inIc rfl) ?_
                                                    exact zb_rZL dL_law_986 rfl hF (by decide) hk hn h
                                                ·
                                                  by_cases c177 : (zb_and (xs (v3_18).toNat).toInt 63) = 23
                                                  · refine zb_tableIn (off := 954) (tgt := 987) dL_law_33 (by omega) (by omega) (by rw [c177]; decide) (by decide) ?_
                                                    have h := h.2.2.2.2.2.2.2.2.2.2.2.2.2.2.2.2.2.2.2.2.2.2.2.1 c177
                                                    refine zb_aload_n (j := 1) dL_law_987 rfl rfl ?_
                                                    refine zb_aload_s (j := 0) dL_law_988 rfl rfl ?_
                                                    refine zb_iload_n (j := 3) dL_law_989 rfl rfl ?_
                                                    refine zb_iconst dL_law_990 (zb_inIc rfl) ?_
                                                    obtain ⟨o173, h⟩ := h
                                                    refine zb_iadd dL_law_991 o173 ?_
                                                    obtain ⟨o174, h⟩ := h
                                                    refine zb_sload hs dL_law_992 o174.1 o174.2 ?_
                                                    refine zb_cVLp (As := [(0, (xs ((v3_18 + 1)).toNat).toInt)]) (As' := [(0, (xs ((v3_18 + 1)).toNat).toInt)]) (st := []) dL_law_993 lk_L_111 gd_X11_why rfl rfl i_1 ⟨_, rfl, rfl⟩ h hW hF (zb_aR i_1 (zb_aI zb_a0)) (Nat.le_refl _) (Nat.le_of_ble_eq_true rfl) hk hn (fun r993 h => ?_)
                                                    show zb_WP _ _ _ _ [(0, r993)] _ _ _ _
                                                    refine zb_aload_n (j := 2) dL_law_996 rfl rfl ?_
                                                    refine zb_aload_s (j := 0) dL_law_997 rfl rfl ?_
                                                    refine zb_iload_n (j := 3) dL_law_998 rfl rfl ?_
                                                    refine zb_iconst dL_law_999 (zb_inIc rfl) ?_
                                                    refine zb_iadd dL_law_1000 o173 ?_
                                                    refine zb_sload hs dL_law_1001 o174.1 o174.2 ?_
                                                    refine zb_cVLp (As := [(0, (xs ((v3_18 + 1)).toNat).toInt)]) (As' := [(0, (xs ((v3_18 + 1)).toNat).toInt)]) (st := [(0, r993)]) dL_law_1002 lk_L_114 gd_X12_why rfl rfl i_2 ⟨_, rfl, rfl⟩ h hW hF (zb_aR i_2 (zb_aI zb_a0)) (Nat.le_refl _) (Nat.le_of_ble_eq_true rfl) hk hn (fun r1002 h => ?_)
                                                    show zb_WP _ _ _ _ [(0, r1002), (0, r993)] _ _ _ _
                                                    refine zb_icmp_eq (tgt := 1311) dL_law_1005 (by decide) (fun c175 => ?_) (fun c175 => ?_)
                                                    · have h := h.1 c175
                                                      obtain ⟨o176, h⟩ := h
                                                      refine zb_iinc (j := 3) (L' := [(3, (0, (v3_18 + 8))), (0, (3, 0)), (1, (2, x1)), (2, (2, x2))]) dL_law_1311 rfl o176 (by decide) rfl ?_
                                                      refine zb_goto (tgt := 18) dL_law_1314 (by decide) ?_
                                                      refine zb_sub (L' := [(0, (3, 0)), (1, (2, x1)), (2, (2, x2)), (3, (0, (v3_18 + 8)))]) [1, 2, 3, 0] rfl ?_
                                                      exact (hX18 _ _).mp h hF
                                                    · have h := h.2 c175
                                                      refine zb_iconst dL_law_1008 (zb_inIc rfl) ?_
                                                      exact zb_rZL dL_law_1009 rfl hF (by decide) hk hn h
                                                  ·
                                                    by_cases c182 : (zb_and (xs (v3_18).toNat).toInt 63) = 24
                                                    · refine zb_tableIn (off := 977) (tgt := 1010) dL_law_33 (by omega) (by omega) (by rw [c182]; decide) (by decide) ?_
                                                      have h := h.2.2.2.2.2.2.2.2.2.2.2.2.2.2.2.2.2.2.2.2.2.2.2.2.1 c182
                                                      refine zb_aload_n (j := 1) dL_law_1010 rfl rfl ?_
                                                      refine zb_aload_s (j := 0) dL_law_1011 rfl rfl ?_
                                                      refine zb_iload_n (j := 3) dL_law_1012 rfl rfl ?_
                                                      refine zb_iconst dL_law_1013 (zb_inIc rfl) ?_
                                                      obtain ⟨o178, h⟩ := h
                                                      refine zb_iadd dL_law_1014 o178 ?_
                                                      obtain ⟨o179, h⟩ := h
                                                      refine zb_sload hs dL_law_1015 o179.1 o179.2 ?_
                                                      refine zb_cVL (As := [(0, (xs ((v3_18 + 1)).toNat).toInt)]) (As' := [(0, (xs ((v3_18 + 1)).toNat).toInt)]) (st := []) dL_law_1016 lk_L_115 gd_X11_turnings rfl rfl i_1 ⟨_, rfl, rfl⟩ h hW hF (zb_aR i_1 (zb_aI zb_a0)) (Nat.le_refl _) (Nat.le_of_ble_eq_true rfl) hk hn (fun r1016 m1016 hF h => ?_)
                                                      show zb_WP _ _ _ _ [(1, r1016)] _ _ _ _
                                                      refine zb_aload_n (j := 2) dL_law_1019 rfl rfl ?_
                                                      refine zb_aload_s (j := 0) dL_law_1020 rfl rfl ?_
                                                      refine zb_iload_n (j := 3) dL_law_1021 rfl rfl ?_
                                                      refine zb_iconst dL_law_1022 (zb_inIc rfl) ?_
                                                      refine zb_iadd dL_law_1023 o178 ?_
                                                      refine zb_sload hs dL_law_1024 o179.1 o179.2 ?_
                                                      refine zb_cVL (As := [(0, (xs ((v3_18 + 1)).toNat).toInt)]) (As' := [(0, (xs ((v3_18 + 1)).toNat).toInt)]) (st := [(1, r1016)]) dL_law_1025 lk_L_119 gd_X12_turnings rfl rfl i_2 ⟨_, rfl, rfl⟩ h hW hF (zb_aR i_2 (zb_aI zb_a0)) (Nat.le_refl _) (Nat.le_of_ble_eq_true rfl) hk hn (fun r1025 m1025 hF h => ?_)
                                                      show zb_WP _ _ _ _ [(1, r1025), (1, r1016)] _ _ _ _
                                                      refine zb_lcmp dL_law_1028 ?_
                                                      refine zb_if_eq (tgt := 1311) dL_law_1029 (by decide) (fun c180 => ?_) (fun c180 => ?_)
                                                      · have h := h.1 c180
                                                        obtain ⟨o181, h⟩ := h
                                                        refine zb_iinc (j := 3) (L' := [(3, (0, (v3_18 + 8))), (0, (3, 0)), (1, (2, x1)), (2, (2, x2))]) dL_law_1311 rfl o181 (by decide) rfl ?_
                                                        refine zb_goto (tgt := 18) dL_law_1314 (by decide) ?_
                                                        refine zb_sub (L' := [(0, (3, 0)), (1, (2, x1)), (2, (2, x2)), (3, (0, (v3_18 + 8)))]) [1, 2, 3, 0] rfl ?_
                                                        exact (hX18 _ _).mp h hF
                                                      · have h := h.2 c180
                                                        refine zb_iconst dL_law_1032 (zb_inIc rfl) ?_
                                                        exact zb_rZL dL_law_1033 rfl hF (by decide) hk hn h
                                                    ·
                                                      by_cases c189 : (zb_and (xs (v3_18).toNat).toInt 63) = 25
                                                      · refine zb_tableIn (off := 1001) (tgt := 1034) dL_law_33 (by omega) (by omega) (by rw [c189]; decide) (by decide) ?_
                                                        have h := h.2.2.2.2.2.2.2.2.2.2.2.2.2.2.2.2.2.2.2.2.2.2.2.2.2.1 c189
                                                        refine zb_aload_n (j := 1) dL_law_1034 rfl rfl ?_
                                                        refine zb_aload_s (j := 0) dL_law_1035 rfl rfl ?_
                                                        refine zb_iload_n (j := 3) dL_law_1036 rfl rfl ?_
                                                        refine zb_iconst dL_law_1037 (zb_inIc rfl) ?_
                                                        obtain ⟨o183, h⟩ := h
                                                        refine zb_iadd dL_law_1038 o183 ?_
                                                        obtain ⟨o184, h⟩ := h
                                                        refine zb_sload hs dL_law_1039 o184.1 o184.2 ?_
                                                        refine zb_aload_s (j := 0) dL_law_1040 rfl rfl ?_
                                                        refine zb_iload_n (j := 3) dL_law_1041 rfl rfl ?_
                                                        refine zb_iconst dL_law_1042 (zb_inIc rfl) ?_
                                                        obtain ⟨o185, h⟩ := h
                                                        refine zb_iadd dL_law_1043 o185 ?_
                                                        obtain ⟨o186, h⟩ := h
                                                        refine zb_sload hs dL_law_1044 o186.1 o186.2 ?_
                                                        refine zb_cVL (As := [(0, (xs ((v3_18 + 1)).toNat).toInt), (0, (xs ((v3_18 + 2)).toNat).toInt)]) (As' := [(0, (xs ((v3_18 + 2)).toNat).toInt), (0, (xs ((v3_18 + 1)).toNat).toInt)]) (st := []) dL_law_1045 lk_L_120 gd_X11_chain rfl rfl i_1 ⟨_, rfl, rfl⟩ h hW hF (zb_aR i_1 (zb_aI (zb_aI zb_a0))) (Nat.le_refl _) (Nat.le_of_ble_eq_true rfl) hk hn (fun r1045 m1045 hF h => ?_)
                                                        show zb_WP _ _ _ _ [(0, r1045)] _ _ _ _
                                                        refine zb_aload_n (j := 2) dL_law_1048 rfl rfl ?_
                                                        refine zb_aload_s (j := 0) dL_law_1049 rfl rfl ?_
                                                        refine zb_iload_n (j := 3) dL_law_1050 rfl rfl ?_
                                                        refine zb_iconst dL_law_1051 (zb_inIc rfl) ?_
                                                        refine zb_iadd dL_law_1052 o183 ?_
                                                        refine zb_sload hs dL_law_1053 o184.1 o184.2 ?_
                                                        refine zb_aload_s (j := 0) dL_law_1054 rfl rfl ?_
                                                        refine zb_iload_n (j := 3) dL_law_1055 rfl rfl ?_
                                                        refine zb_iconst dL_law_1056 (zb_inIc rfl) ?_
                                                        refine zb_iadd dL_law_1057 o185 ?_
                                                        refine zb_sload hs dL_law_1058 o186.1 o186.2 ?_
                                                        refine zb_cVL (As := [(0, (xs ((v3_18 + 1)).toNat).toInt), (0, (xs ((v3_18 + 2)).toNat).toInt)]) (As' := [(0, (xs ((v3_18 + 2)).toNat).toInt), (0, (xs ((v3_18 + 1)).toNat).toInt)]) (st := [(0, r1045)]) dL_law_1059 lk_L_123 gd_X12_chain rfl rfl i_2 ⟨_, rfl, rfl⟩ h hW hF (zb_aR i_2 (zb_aI (zb_aI zb_a0))) (Nat.le_refl _) (Nat.le_of_ble_eq_true rfl) hk hn (fun r1059 m1059 hF h => ?_)
                                                        show zb_WP _ _ _ _ [(0, r1059), (0, r1045)] _ _ _ _
                                                        refine zb_icmp_eq (tgt := 1311) dL_law_1062 (by decide) (fun c187 => ?_) (fun c187 => ?_)
                                                        · have h := h.1 c187
                                                          obtain ⟨o188, h⟩ := h
                                                          refine zb_iinc (j := 3) (L' := [(3, (0, (v3_18 + 8))), (0, (3, 0)), (1, (2, x1)), (2, (2, x2))]) dL_law_1311 rfl o188 (by decide) rfl ?_
                                                          refine zb_goto (tgt := 18) dL_law_1314 (by decide) ?_
                                                          refine zb_sub (L' := [(0, (3, 0)), (1, (2, x1)), (2, (2, x2)), (3, (0, (v3_18 + 8)))]) [1, 2, 3, 0] rfl ?_
                                                          exact (hX18 _ _).mp h hF
                                                        · have h := h.2 c187
                                                          refine zb_iconst dL_law_1065 (zb_inIc rfl) ?_
                                                          exact zb_rZL dL_law_1066 rfl hF (by decide) hk hn h
                                                      ·
                                                        by_cases c198 : (zb_and (xs (v3_18).toNat).toInt 63) = 26
                                                        · refine zb_tableIn (off := 1034) (tgt := 1067) dL_law_33 (by omega) (by omega) (by rw [c198]; decide) (by decide) ?_
                                                          have h := h.2.2.2.2.2.2.2.2.2.2.2.2.2.2.2.2.2.2.2.2.2.2.2.2.2.2.1 c198
                                                          refine zb_aload_n (j := 1) dL_law_1067 rfl rfl ?_
                                                          refine zb_aload_s (j := 0) dL_law_1068 rfl rfl ?_
                                                          refine zb_iload_n (j := 3) dL_law_1069 rfl rfl ?_
                                                          refine zb_iconst dL_law_1070 (zb_inIc rfl) ?_
                                                          obtain ⟨o190, h⟩ := h
                                                          refine zb_iadd dL_law_1071 o190 ?_
                                                          obtain ⟨o191, h⟩ := h
                                                          refine zb_sload hs dL_law_1072 o191.1 o191.2 ?_
                                                          refine zb_aload_s (j := 0) dL_law_1073 rfl rfl ?_
                                                          refine zb_iload_n (j := 3) dL_law_1074 rfl rfl ?_
                                                          refine zb_iconst dL_law_1075 (zb_inIc rfl) ?_
                                                          obtain ⟨o192, h⟩ := h
                                                          refine zb_iadd dL_law_1076 o192 ?_
                                                          obtain ⟨o193, h⟩ := h
                                                          refine zb_sload hs dL_law_1077 o193.1 o193.2 ?_
                                                          refine zb_aload_s (j := 0) dL_law_1078 rfl rfl ?_
                                                          refine zb_iload_n (j := 3) dL_law_1079 rfl rfl ?_
                                                          refine zb_iconst dL_law_1080 (zb_inIc rfl) ?_
                                                          obtain ⟨o194, h⟩ := h
                                                          refine zb_iadd dL_law_1081 o194 ?_
                                                          obtain ⟨o195, h⟩ := h
                                                          refine zb_sload hs dL_law_1082 o195.1 o195.2 ?_
                                                          refine zb_cVL (As := [(0, (xs ((v3_18 + 1)).toNat).toInt), (0, (xs ((v3_18 + 2)).toNat).toInt), (0, (xs ((v3_18 + 3)).toNat).toInt)]) (As' := [(0, (xs ((v3_18 + 3)).toNat).toInt), (0, (xs ((v3_18 + 2)).toNat).toInt), (0, (xs ((v3_18 + 1)).toNat).toInt)]) (st := []) dL_law_1083 lk_L_124 gd_X11_where rfl rfl i_1 ⟨_, rfl, rfl⟩ h hW hF (zb_aR i_1 (zb_aI (zb_aI (zb_aI zb_a0)))) (Nat.le_refl _) (Nat.le_of_ble_eq_true rfl) hk hn (fun r1083 m1083 hF h => ?_)
                                                          show zb_WP _ _ _ _ [(0, r1083)] _ _ _ _
                                                          refine zb_aload_n (j := 2) dL_law_1086 rfl rfl ?_
                                                          refine zb_aload_s (j := 0) dL_law_1087 rfl rfl ?_
                                                          refine zb_iload_n (j := 3) dL_law_1088 rfl rfl ?_
                                                          refine zb_iconst dL_law_1089 (zb_inIc rfl) ?_
                                                          refine zb_iadd dL_law_1090 o190 ?_
                                                          refine zb_sload hs dL_law_1091 o191.1 o191.2 ?_
                                                          refine zb_aload_s (j := 0) dL_law_1092 rfl rfl ?_
                                                          refine zb_iload_n (j := 3) dL_law_1093 rfl rfl ?_
                                                          refine zb_iconst dL_law_1094 (zb_inIc rfl) ?_
                                                          refine zb_iadd dL_law_1095 o192 ?_
                                                          refine zb_sload hs dL_law_1096 o193.1 o193.2 ?_
                                                          refine zb_aload_s (j := 0) dL_law_1097 rfl rfl ?_
                                                          refine zb_iload_n (j := 3) dL_law_1098 rfl rfl ?_
                                                          refine zb_iconst dL_law_1099 (zb_inIc rfl) ?_
                                                          refine zb_iadd dL_law_1100 o194 ?_
                                                          refine zb_sload hs dL_law_1101 o195.1 o195.2 ?_
                                                          refine zb_cVL (As := [(0, (xs ((v3_18 + 1)).toNat).toInt), (0, (xs ((v3_18 + 2)).toNat).toInt), (0, (xs ((v3_18 + 3)).toNat).toInt)]) (As' := [(0, (xs ((v3_18 + 3)).toNat).toInt), (0, (xs ((v3_18 + 2)).toNat).toInt), (0, (xs ((v3_18 + 1)).toNat).toInt)]) (st := [(0, r1083)]) dL_law_1102 lk_L_127 gd_X12_where rfl rfl i_2 ⟨_, rfl, rfl⟩ h hW hF (zb_aR i_2 (zb_aI (zb_aI (zb_aI zb_a0)))) (Nat.le_refl _) (Nat.le_of_ble_eq_true rfl) hk hn (fun r1102 m1102 hF h => ?_)
                                                          show zb_WP _ _ _ _ [(0, r1102), (0, r1083)] _ _ _ _
                                                          refine zb_icmp_eq (tgt := 1311) dL_law_1105 (by decide) (fun c196 => ?_) (fun c196 => ?_)
                                                          · have h := h.1 c196
                                                            obtain ⟨o197, h⟩ := h
                                                            refine zb_iinc (j := 3) (L' := [(3, (0, (v3_18 + 8))), (0, (3, 0)), (1, (2, x1)), (2, (2, x2))]) dL_law_1311 rfl o197 (by decide) rfl ?_
                                                            refine zb_goto (tgt := 18) dL_law_1314 (by decide) ?_
                                                            refine zb_sub (L' := [(0, (3, 0)), (1, (2, x1)), (2, (2, x2)), (3, (0, (v3_18 + 8)))]) [1, 2, 3, 0] rfl ?_
                                                            exact (hX18 _ _).mp h hF
                                                          · have h := h.2 c196
                                                            refine zb_iconst dL_law_1108 (zb_inIc rfl) ?_
                                                            exact zb_rZL dL_law_1109 rfl hF (by decide) hk hn h
                                                        ·
                                                          by_cases c205 : (zb_and (xs (v3_18).toNat).toInt 63) = 27
                                                          · refine zb_tableIn (off := 1077) (tgt := 1110) dL_law_33 (by omega) (by omega) (by rw [c205]; decide) (by decide) ?_
                                                            have h := h.2.2.2.2.2.2.2.2.2.2.2.2.2.2.2.2.2.2.2.2.2.2.2.2.2.2.2.1 c205
                                                            refine zb_aload_n (j := 1) dL_law_1110 rfl rfl ?_
                                                            refine zb_aload_s (j := 0) dL_law_1111 rfl rfl ?_
                                                            refine zb_iload_n (j := 3) dL_law_1112 rfl rfl ?_
                                                            refine zb_iconst dL_law_1113 (zb_inIc rfl) ?_
                                                            obtain ⟨o199, h⟩ := h
                                                            refine zb_iadd dL_law_1114 o199 ?_
                                                            obtain ⟨o200, h⟩ := h
                                                            refine zb_sload hs dL_law_1115 o200.1 o200.2 ?_
                                                            refine zb_aload_s (j := 0) dL_law_1116 rfl rfl ?_
                                                            refine zb_iload_n (j := 3) dL_law_1117 rfl rfl ?_
                                                            refine zb_iconst dL_law_1118 (zb_inIc rfl) ?_
                                                            obtain ⟨o201, h⟩ := h
                                                            refine zb_iadd dL_law_1119 o201 ?_
                                                            obtain ⟨o202, h⟩ := h
                                                            refine zb_sload hs dL_law_1120 o202.1 o202.2 ?_
                                                            refine zb_cVL (As := [(0, (xs ((v3_18 + 1)).toNat).toInt), (0, (xs ((v3_18 + 2)).toNat).toInt)]) (As' := [(0, (xs ((v3_18 + 2)).toNat).toInt), (0, (xs ((v3_18 + 1)).toNat).toInt)]) (st := []) dL_law_1121 lk_L_128 gd_X11_orbit rfl rfl i_1 ⟨_, rfl, rfl⟩ h hW hF (zb_aR i_1 (zb_aI (zb_aI zb_a0))) (Nat.le_refl _) (Nat.le_of_ble_eq_true rfl) hk hn (fun r1121 m1121 hF h => ?_)
                                                            show zb_WP _ _ _ _ [(0, r1121)] _ _ _ _
                                                            refine zb_aload_n (j := 2) dL_law_1124 rfl rfl ?_
                                                            refine zb_aload_s (j := 0) dL_law_1125 rfl rfl ?_
                                                            refine zb_iload_n (j := 3) dL_law_1126 rfl rfl ?_
                                                            refine zb_iconst dL_law_1127 (zb_inIc rfl) ?_
                                                            refine zb_iadd dL_law_1128 o199 ?_
                                                            refine zb_sload hs dL_law_1129 o200.1 o200.2 ?_
                                                            refine zb_aload_s (j := 0) dL_law_1130 rfl rfl ?_
                                                            refine zb_iload_n (j := 3) dL_law_1131 rfl rfl ?_
                                                            refine zb_iconst dL_law_1132 (zb_inIc rfl) ?_
                                                            refine zb_iadd dL_law_1133 o201 ?_
                                                            refine zb_sload hs dL_law_1134 o202.1 o202.2 ?_
                                                            refine zb_cVL (As := [(0, (xs ((v3_18 + 1)).toNat).toInt), (0, (xs ((v3_18 + 2)).toNat).toInt)]) (As' := [(0, (xs ((v3_18 + 2)).toNat).toInt), (0, (xs ((v3_18 + 1)).toNat).toInt)]) (st := [(0, r1121)]) dL_law_1135 lk_L_131 gd_X12_orbit rfl rfl i_2 ⟨_, rfl, rfl⟩ h hW hF (zb_aR i_2 (zb_aI (zb_aI zb_a0))) (Nat.le_refl _) (Nat.le_of_ble_eq_true rfl) hk hn (fun r1135 m1135 hF h => ?_)
                                                            show zb_WP _ _ _ _ [(0, r1135), (0, r1121)] _ _ _ _
                                                            refine zb_icmp_eq (tgt := 1311) dL_law_1138 (by decide) (fun c203 => ?_) (fun c203 => ?_)
                                                            · have h := h.1 c203
                                                              obtain ⟨o204, h⟩ := h
                                                              refine zb_iinc (j := 3) (L' := [(3, (0, (v3_18 + 8))), (0, (3, 0)), (1, (2, x1)), (2, (2, x2))]) dL_law_1311 rfl o204 (by decide) rfl ?_
                                                              refine zb_goto (tgt := 18) dL_law_1314 (by decide) ?_
                                                              refine zb_sub (L' := [(0, (3, 0)), (1, (2, x1)), (2, (2, x2)), (3, (0, (v3_18 + 8)))]) [1, 2, 3, 0] rfl ?_
                                                              exact (hX18 _ _).mp h hF
                                                            · have h := h.2 c203
                                                              refine zb_iconst dL_law_1141 (zb_inIc rfl) ?_
                                                              exact zb_rZL dL_law_1142 rfl hF (by decide) hk hn h
                                                          ·
                                                            by_cases c210 : (zb_and (xs (v3_18).toNat).toInt 63) = 28
                                                            · refine zb_tableIn (off := 1110) (tgt := 1143) dL_law_33 (by omega) (by omega) (by rw [c210]; decide) (by decide) ?_
                                                              have h := h.2.2.2.2.2.2.2.2.2.2.2.2.2.2.2.2.2.2.2.2.2.2.2.2.2.2.2.2.1 c210
                                                              refine zb_aload_n (j := 1) dL_law_1143 rfl rfl ?_
                                                              refine zb_aload_s (j := 0) dL_law_1144 rfl rfl ?_
                                                              refine zb_iload_n (j := 3) dL_law_1145 rfl rfl ?_
                                                              refine zb_iconst dL_law_1146 (zb_inIc rfl) ?_
                                                              obtain ⟨o206, h⟩ := h
                                                              refine zb_iadd dL_law_1147 o206 ?_
                                                              obtain ⟨o207, h⟩ := h
                                                              refine zb_sload hs dL_law_1148 o207.1 o207.2 ?_
                                                              refine zb_cVLp (As := [(0, (xs ((v3_18 + 1)).toNat).toInt)]) (As' := [(0, (xs ((v3_18 + 1)).toNat).toInt)]) (st := []) dL_law_1149 lk_L_132 gd_X11_by rfl rfl i_1 ⟨_, rfl, rfl⟩ h hW hF (zb_aR i_1 (zb_aI zb_a0)) (Nat.le_refl _) (Nat.le_of_ble_eq_true rfl) hk hn (fun r1149 h => ?_)
                                                              show zb_WP _ _ _ _ [(0, r1149)] _ _ _ _
                                                              refine zb_aload_n (j := 2) dL_law_1152 rfl rfl ?_
                                                              refine zb_aload_s (j := 0) dL_law_1153 rfl rfl ?_
                                                              refine zb_iload_n (j := 3) dL_law_1154 rfl rfl ?_
                                                              refine zb_iconst dL_law_1155 (zb_inIc rfl) ?_
                                                              refine zb_iadd dL_law_1156 o206 ?_
                                                              refine zb_sload hs dL_law_1157 o207.1 o207.2 ?_
                                                              refine zb_cVLp (As := [(0, (xs ((v3_18 + 1)).toNat).toInt)]) (As' := [(0, (xs ((v3_18 + 1)).toNat).toInt)]) (st := [(0, r1149)]) dL_law_1158 lk_L_135 gd_X12_by rfl rfl i_2 ⟨_, rfl, rfl⟩ h hW hF (zb_aR i_2 (zb_aI zb_a0)) (Nat.le_refl _) (Nat.le_of_ble_eq_true rfl) hk hn (fun r1158 h => ?_)
                                                              show zb_WP _ _ _ _ [(0, r1158), (0, r1149)] _ _ _ _
                                                              refine zb_icmp_eq (tgt := 1311) dL_law_1161 (by decide) (fun c208 => ?_) (fun c208 => ?_)
                                                              · have h := h.1 c208
                                                                obtain ⟨o209, h⟩ := h
                                                                refine zb_iinc (j := 3) (L' := [(3, (0, (v3_18 + 8))), (0, (3, 0)), (1, (2, x1)), (2, (2, x2))]) dL_law_1311 rfl o209 (by decide) rfl ?_
                                                                refine zb_goto (tgt := 18) dL_law_1314 (by decide) ?_
                                                                refine zb_sub (L' := [(0, (3, 0)), (1, (2, x1)), (2, (2, x2)), (3, (0, (v3_18 + 8)))]) [1, 2, 3, 0] rfl ?_
                                                                exact (hX18 _ _).mp h hF
                                                              · have h := h.2 c208
                                                                refine zb_iconst dL_law_1164 (zb_inIc rfl) ?_
                                                                exact zb_rZL dL_law_1165 rfl hF (by decide) hk hn h
                                                            ·
                                                              by_cases c215 : (zb_and (xs (v3_18).toNat).toInt 63) = 29
                                                              · refine zb_tableIn (off := 1133) (tgt := 1166) dL_law_33 (by omega) (by omega) (by rw [c215]; decide) (by decide) ?_
                                                                have h := h.2.2.2.2.2.2.2.2.2.2.2.2.2.2.2.2.2.2.2.2.2.2.2.2.2.2.2.2.2.1 c215
                                                                refine zb_aload_n (j := 1) dL_law_1166 rfl rfl ?_
                                                                refine zb_aload_s (j := 0) dL_law_1167 rfl rfl ?_
                                                                refine zb_iload_n (j := 3) dL_law_1168 rfl rfl ?_
                                                                refine zb_iconst dL_law_1169 (zb_inIc rfl) ?_
                                                                obtain ⟨o211, h⟩ := h
                                                                refine zb_iadd dL_law_1170 o211 ?_
                                                                obtain ⟨o212, h⟩ := h
                                                                refine zb_sload hs dL_law_1171 o212.1 o212.2 ?_
                                                                refine zb_cVL (As := [(0, (xs ((v3_18 + 1)).toNat).toInt)]) (As' := [(0, (xs ((v3_18 + 1)).toNat).toInt)]) (st := []) dL_law_1172 lk_L_136 gd_X11_makers rfl rfl i_1 ⟨_, rfl, rfl⟩ h hW hF (zb_aR i_1 (zb_aI zb_a0)) (Nat.le_refl _) (Nat.le_of_ble_eq_true rfl) hk hn (fun r1172 m1172 hF h => ?_)
                                                                show zb_WP _ _ _ _ [(0, r1172)] _ _ _ _
                                                                refine zb_aload_n (j := 2) dL_law_1175 rfl rfl ?_
                                                                refine zb_aload_s (j := 0) dL_law_1176 rfl rfl ?_
                                                                refine zb_iload_n (j := 3) dL_law_1177 rfl rfl ?_
                                                                refine zb_iconst dL_law_1178 (zb_inIc rfl) ?_
                                                                refine zb_iadd dL_law_1179 o211 ?_
                                                                refine zb_sload hs dL_law_1180 o212.1 o212.2 ?_
                                                                refine zb_cVL (As := [(0, (xs ((v3_18 + 1)).toNat).toInt)]) (As' := [(0, (xs ((v3_18 + 1)).toNat).toInt)]) (st := [(0, r1172)]) dL_law_1181 lk_L_139 gd_X12_makers rfl rfl i_2 ⟨_, rfl, rfl⟩ h hW hF (zb_aR i_2 (zb_aI zb_a0)) (Nat.le_refl _) (Nat.le_of_ble_eq_true rfl) hk hn (fun r1181 m1181 hF h => ?_)
                                                                show zb_WP _ _ _ _ [(0, r1181), (0, r1172)] _ _ _ _
                                                                refine zb_icmp_eq (tgt := 1311) dL_law_1184 (by decide) (fun c213 => ?_) (fun c213 => ?_)
                                                                · have h := h.1 c213
                                                                  obtain ⟨o214, h⟩ := h
                                                                  refine zb_iinc (j := 3) (L' := [(3, (0, (v3_18 + 8))), (0, (3, 0)), (1, (2, x1)), (2, (2, x2))]) dL_law_1311 rfl o214 (by decide) rfl ?_
                                                                  refine zb_goto (tgt := 18) dL_law_1314 (by decide) ?_
                                                                  refine zb_sub (L' := [(0, (3, 0)), (1, (2, x1)), (2, (2, x2)), (3, (0, (v3_18 + 8)))]) [1, 2, 3, 0] rfl ?_
                                                                  exact (hX18 _ _).mp h hF
                                                                · have h := h.2 c213
                                                                  refine zb_iconst dL_law_1187 (zb_inIc rfl) ?_
                                                                  exact zb_rZL dL_law_1188 rfl hF (by decide) hk hn h
                                                              ·
                                                                by_cases c222 : (zb_and (xs (v3_18).toNat).toInt 63) = 30
                                                                · refine zb_tableIn (off := 1156) (tgt := 1189) dL_law_33 (by omega) (by omega) (by rw [c222]; decide) (by decide) ?_
                                                                  have h := h.2.2.2.2.2.2.2.2.2.2.2.2.2.2.2.2.2.2.2.2.2.2.2.2.2.2.2.2.2.2.1 c222
                                                                  refine zb_aload_n (j := 1) dL_law_1189 rfl rfl ?_
                                                                  refine zb_aload_s (j := 0) dL_law_1190 rfl rfl ?_
                                                                  refine zb_iload_n (j := 3) dL_law_1191 rfl rfl ?_
                                                                  refine zb_iconst dL_law_1192 (zb_inIc rfl) ?_
                                                                  obtain ⟨o216, h⟩ := h
                                                                  refine zb_iadd dL_law_1193 o216 ?_
                                                                  obtain ⟨o217, h⟩ := h
                                                                  refine zb_sload hs dL_law_1194 o217.1 o217.2 ?_
                                                                  refine zb_aload_s (j := 0) dL_law_1195 rfl rfl ?_
                                                                  refine zb_iload_n (j := 3) dL_law_1196 rfl rfl ?_
                                                                  refine zb_iconst dL_law_1197 (zb_inIc rfl) ?_
                                                                  obtain ⟨o218, h⟩ := h
                                                                  refine zb_iadd dL_law_1198 o218 ?_
                                                                  obtain ⟨o219, h⟩ := h
                                                                  refine zb_sload hs dL_law_1199 o219.1 o219.2 ?_
                                                                  refine zb_cVLp (As := [(0, (xs ((v3_18 + 1)).toNat).toInt), (0, (xs ((v3_18 + 2)).toNat).toInt)]) (As' := [(0, (xs ((v3_18 + 2)).toNat).toInt), (0, (xs ((v3_18 + 1)).toNat).toInt)]) (st := []) dL_law_1200 lk_L_140 gd_X11_maker rfl rfl i_1 ⟨_, rfl, rfl⟩ h hW hF (zb_aR i_1 (zb_aI (zb_aI zb_a0))) (Nat.le_refl _) (Nat.le_of_ble_eq_true rfl) hk hn (fun r1200 h => ?_)
                                                                  show zb_WP _ _ _ _ [(0, r1200)] _ _ _ _
                                                                  refine zb_aload_n (j := 2) dL_law_1203 rfl rfl ?_
                                                                  refine zb_aload_s (j := 0) dL_law_1204 rfl rfl ?_
                                                                  refine zb_iload_n (j := 3) dL_law_1205 rfl rfl ?_
                                                                  refine zb_iconst dL_law_1206 (zb_inIc rfl) ?_
                                                                  refine zb_iadd dL_law_1207 o216 ?_
                                                                  refine zb_sload hs dL_law_1208 o217.1 o217.2 ?_
                                                                  refine zb_aload_s (j := 0) dL_law_1209 rfl rfl ?_
                                                                  refine zb_iload_n (j := 3) dL_law_1210 rfl rfl ?_
                                                                  refine zb_iconst dL_law_1211 (zb_inIc rfl) ?_
                                                                  refine zb_iadd dL_law_1212 o218 ?_
                                                                  refine zb_sload hs dL_law_1213 o219.1 o219.2 ?_
                                                                  refine zb_cVLp (As := [(0, (xs ((v3_18 + 1)).toNat).toInt), (0, (xs ((v3_18 + 2)).toNat).toInt)]) (As' := [(0, (xs ((v3_18 + 2)).toNat).toInt), (0, (xs ((v3_18 + 1)).toNat).toInt)]) (st := [(0, r1200)]) dL_law_1214 lk_L_143 gd_X12_maker rfl rfl i_2 ⟨_, rfl, rfl⟩ h hW hF (zb_aR i_2 (zb_aI (zb_aI zb_a0))) (Nat.le_refl _) (Nat.le_of_ble_eq_true rfl) hk hn (fun r1214 h => ?_)
                                                                  show zb_WP _ _ _ _ [(0, r1214), (0, r1200)] _ _ _ _
                                                                  refine zb_icmp_eq (tgt := 1311) dL_law_1217 (by decide) (fun c220 => ?_) (fun c220 => ?_)
                                                                  · have h := h.1 c220
                                                                    obtain ⟨o221, h⟩ := h
                                                                    refine zb_iinc (j := 3) (L' := [(3, (0, (v3_18 + 8))), (0, (3, 0)), (1, (2, x1)), (2, (2, x2))]) dL_law_1311 rfl o221 (by decide) rfl ?_
                                                                    refine zb_goto (tgt := 18) dL_law_1314 (by decide) ?_
                                                                    refine zb_sub (L' := [(0, (3, 0)), (1, (2, x1)), (2, (2, x2)), (3, (0, (v3_18 + 8)))]) [1, 2, 3, 0] rfl ?_
                                                                    exact (hX18 _ _).mp h hF
                                                                  · have h := h.2 c220
                                                                    refine zb_iconst dL_law_1220 (zb_inIc rfl) ?_
                                                                    exact zb_rZL dL_law_1221 rfl hF (by decide) hk hn h
                                                                ·
                                                                  by_cases c227 : (zb_and (xs (v3_18).toNat).toInt 63) = 31
                                                                  · refine zb_tableIn (off := 1189) (tgt := 1222) dL_law_33 (by omega) (by omega) (by rw [c227]; decide) (by decide) ?_
                                                                    have h := h.2.2.2.2.2.2.2.2.2.2.2.2.2.2.2.2.2.2.2.2.2.2.2.2.2.2.2.2.2.2.2.1 c227
                                                                    refine zb_aload_n (j := 1) dL_law_1222 rfl rfl ?_
                                                                    refine zb_aload_s (j := 0) dL_law_1223 rfl rfl ?_
                                                                    refine zb_iload_n (j := 3) dL_law_1224 rfl rfl ?_
                                                                    refine zb_iconst dL_law_1225 (zb_inIc rfl) ?_
                                                                    obtain ⟨o223, h⟩ := h
                                                                    refine zb_iadd dL_law_1226 o223 ?_
                                                                    obtain ⟨o224, h⟩ := h
                                                                    refine zb_sload hs dL_law_1227 o224.1 o224.2 ?_
                                                                    refine zb_cVL (As := [(0, (xs ((v3_18 + 1)).toNat).toInt)]) (As' := [(0, (xs ((v3_18 + 1)).toNat).toInt)]) (st := []) dL_law_1228 lk_L_144 gd_X11_then rfl rfl i_1 ⟨_, rfl, rfl⟩ h hW hF (zb_aR i_1 (zb_aI zb_a0)) (Nat.le_refl _) (Nat.le_of_ble_eq_true rfl) hk hn (fun r1228 m1228 hF h => ?_)
                                                                    show zb_WP _ _ _ _ [(0, r1228)] _ _ _ _
                                                                    refine zb_aload_n (j := 2) dL_law_1231 rfl rfl ?_
                                                                    refine zb_aload_s (j := 0) dL_law_1232 rfl rfl ?_
                                                                    refine zb_iload_n (j := 3) dL_law_1233 rfl rfl ?_
                                                                    refine zb_iconst dL_law_1234 (zb_inIc rfl) ?_
                                                                    refine zb_iadd dL_law_1235 o223 ?_
                                                                    refine zb_sload hs dL_law_1236 o224.1 o224.2 ?_
                                                                    refine zb_cVL (As := [(0, (xs ((v3_18 + 1)).toNat).toInt)]) (As' := [(0, (xs ((v3_18 + 1)).toNat).toInt)]) (st := [(0, r1228)]) dL_law_1237 lk_L_147 gd_X12_then rfl rfl i_2 ⟨_, rfl, rfl⟩ h hW hF (zb_aR i_2 (zb_aI zb_a0)) (Nat.le_refl _) (Nat.le_of_ble_eq_true rfl) hk hn (fun r1237 m1237 hF h => ?_)
                                                                    show zb_WP _ _ _ _ [(0, r1237), (0, r1228)] _ _ _ _
                                                                    refine zb_icmp_eq (tgt := 1311) dL_law_1240 (by decide) (fun c225 => ?_) (fun c225 => ?_)
                                                                    · have h := h.1 c225
                                                                      obtain ⟨o226, h⟩ := h
                                                                      refine zb_iinc (j := 3) (L' := [(3, (0, (v3_18 + 8))), (0, (3, 0)), (1, (2, x1)), (2, (2, x2))]) dL_law_1311 rfl o226 (by decide) rfl ?_
                                                                      refine zb_goto (tgt := 18) dL_law_1314 (by decide) ?_
                                                                      refine zb_sub (L' := [(0, (3, 0)), (1, (2, x1)), (2, (2, x2)), (3, (0, (v3_18 + 8)))]) [1, 2, 3, 0] rfl ?_
                                                                      exact (hX18 _ _).mp h hF
                                                                    · have h := h.2 c225
                                                                      refine zb_iconst dL_law_1243 (zb_inIc rfl) ?_
                                                                      exact zb_rZL dL_law_1244 rfl hF (by decide) hk hn h
                                                                  ·
                                                                    by_cases c234 : (zb_and (xs (v3_18).toNat).toInt 63) = 32
                                                                    · refine zb_tableIn (off := 1212) (tgt := 1245) dL_law_33 (by omega) (by omega) (by rw [c234]; decide) (by decide) ?_
                                                                      have h := h.2.2.2.2.2.2.2.2.2.2.2.2.2.2.2.2.2.2.2.2.2.2.2.2.2.2.2.2.2.2.2.2.1 c234
                                                                      refine zb_aload_n (j := 1) dL_law_1245 rfl rfl ?_
                                                                      refine zb_aload_s (j := 0) dL_law_1246 rfl rfl ?_
                                                                      refine zb_iload_n (j := 3) dL_law_1247 rfl rfl ?_
                                                                      refine zb_iconst dL_law_1248 (zb_inIc rfl) ?_
                                                                      obtain ⟨o228, h⟩ := h
                                                                      refine zb_iadd dL_law_1249 o228 ?_
                                                                      obtain ⟨o229, h⟩ := h
                                                                      refine zb_sload hs dL_law_1250 o229.1 o229.2 ?_
                                                                      refine zb_aload_s (j := 0) dL_law_1251 rfl rfl ?_
                                                                      refine zb_iload_n (j := 3) dL_law_1252 rfl rfl ?_
                                                                      refine zb_iconst dL_law_1253 (zb_inIc rfl) ?_
                                                                      obtain ⟨o230, h⟩ := h
                                                                      refine zb_iadd dL_law_1254 o230 ?_
                                                                      obtain ⟨o231, h⟩ := h
                                                                      refine zb_sload hs dL_law_1255 o231.1 o231.2 ?_
                                                                      refine zb_cVL (As := [(0, (xs ((v3_18 + 1)).toNat).toInt), (0, (xs ((v3_18 + 2)).toNat).toInt)]) (As' := [(0, (xs ((v3_18 + 2)).toNat).toInt), (0, (xs ((v3_18 + 1)).toNat).toInt)]) (st := []) dL_law_1256 lk_L_148 gd_X11_list rfl rfl i_1 ⟨_, rfl, rfl⟩ h hW hF (zb_aR i_1 (zb_aI (zb_aI zb_a0))) (Nat.le_refl _) (Nat.le_of_ble_eq_true rfl) hk hn (fun r1256 m1256 hF h => ?_)
                                                                      show zb_WP _ _ _ _ [(0, r1256)] _ _ _ _
                                                                      refine zb_aload_n (j := 2) dL_law_1259 rfl rfl ?_
                                                                      refine zb_aload_s (j := 0) dL_law_1260 rfl rfl ?_
                                                                      refine zb_iload_n (j := 3) dL_law_1261 rfl rfl ?_
                                                                      refine zb_iconst dL_law_1262 (zb_inIc rfl) ?_
                                                                      refine zb_iadd dL_law_1263 o228 ?_
                                                                      refine zb_sload hs dL_law_1264 o229.1 o229.2 ?_
                                                                      refine zb_aload_s (j := 0) dL_law_1265 rfl rfl ?_
                                                                      refine zb_iload_n (j := 3) dL_law_1266 rfl rfl ?_
                                                                      refine zb_iconst dL_law_1267 (zb_inIc rfl) ?_
                                                                      refine zb_iadd dL_law_1268 o230 ?_
                                                                      refine zb_sload hs dL_law_1269 o231.1 o231.2 ?_
                                                                      refine zb_cVL (As := [(0, (xs ((v3_18 + 1)).toNat).toInt), (0, (xs ((v3_18 + 2)).toNat).toInt)]) (As' := [(0, (xs ((v3_18 + 2)).toNat).toInt), (0, (xs ((v3_18 + 1)).toNat).toInt)]) (st := [(0, r1256)]) dL_law_1270 lk_L_151 gd_X12_list rfl rfl i_2 ⟨_, rfl, rfl⟩ h hW hF (zb_aR i_2 (zb_aI (zb_aI zb_a0))) (Nat.le_refl _) (Nat.le_of_ble_eq_true rfl) hk hn (fun r1270 m1270 hF h => ?_)
                                                                      show zb_WP _ _ _ _ [(0, r1270), (0, r1256)] _ _ _ _
                                                                      refine zb_icmp_eq (tgt := 1311) dL_law_1273 (by decide) (fun c232 => ?_) (fun c232 => ?_)
                                                                      · have h := h.1 c232
                                                                        obtain ⟨o233, h⟩ := h
                                                                        refine zb_iinc (j := 3) (L' := [(3, (0, (v3_18 + 8))), (0, (3, 0)), (1, (2, x1)), (2, (2, x2))]) dL_law_1311 rfl o233 (by decide) rfl ?_
                                                                        refine zb_goto (tgt := 18) dL_law_1314 (by decide) ?_
                                                                        refine zb_sub (L' := [(0, (3, 0)), (1, (2, x1)), (2, (2, x2)), (3, (0, (v3_18 + 8)))]) [1, 2, 3, 0] rfl ?_
                                                                        exact (hX18 _ _).mp h hF
                                                                      · have h := h.2 c232
                                                                        refine zb_iconst dL_law_1276 (zb_inIc rfl) ?_
                                                                        exact zb_rZL dL_law_1277 rfl hF (by decide) hk hn h
                                                                    ·
                                                                      by_cases c241 : (zb_and (xs (v3_18).toNat).toInt 63) = 33
                                                                      · refine zb_tableIn (off := 1245) (tgt := 1278) dL_law_33 (by omega) (by omega) (by rw [c241]; decide) (by decide) ?_
                                                                        have h := h.2.2.2.2.2.2.2.2.2.2.2.2.2.2.2.2.2.2.2.2.2.2.2.2.2.2.2.2.2.2.2.2.2.1 c241
                                                                        refine zb_aload_n (j := 1) dL_law_1278 rfl rfl ?_
                                                                        refine zb_aload_s (j := 0) dL_law_1279 rfl rfl ?_
                                                                        refine zb_iload_n (j := 3) dL_law_1280 rfl rfl ?_
                                                                        refine zb_iconst dL_law_1281 (zb_inIc rfl) ?_
                                                                        obtain ⟨o235, h⟩ := h
                                                                        refine zb_iadd dL_law_1282 o235 ?_
                                                                        obtain ⟨o236, h⟩ := h
                                                                        refine zb_sload hs dL_law_1283 o236.1 o236.2 ?_
                                                                        refine zb_aload_s (j := 0) dL_law_1284 rfl rfl ?_
                                                                        refine zb_iload_n (j := 3) dL_law_1285 rfl rfl ?_
                                                                        refine zb_iconst dL_law_1286 (zb_inIc rfl) ?_
                                                                        obtain ⟨o237, h⟩ := h
                                                                        refine zb_iadd dL_law_1287 o237 ?_
                                                                        obtain ⟨o238, h⟩ := h
                                                                        refine zb_sload hs dL_law_1288 o238.1 o238.2 ?_
                                                                        refine zb_cVL (As := [(0, (xs ((v3_18 + 1)).toNat).toInt), (0, (xs ((v3_18 + 2)).toNat).toInt)]) (As' := [(0, (xs ((v3_18 + 2)).toNat).toInt), (0, (xs ((v3_18 + 1)).toNat).toInt)]) (st := []) dL_law_1289 lk_L_152 gd_X11_listed rfl rfl i_1 ⟨_, rfl, rfl⟩ h hW hF (zb_aR i_1 (zb_aI (zb_aI zb_a0))) (Nat.le_refl _) (Nat.le_of_ble_eq_true rfl) hk hn (fun r1289 m1289 hF h => ?_)
                                                                        show zb_WP _ _ _ _ [(0, r1289)] _ _ _ _
                                                                        refine zb_aload_n (j := 2) dL_law_1292 rfl rfl ?_
                                                                        refine zb_aload_s (j := 0) dL_law_1293 rfl rfl ?_
                                                                        refine zb_iload_n (j := 3) dL_law_1294 rfl rfl ?_
                                                                        refine zb_iconst dL_law_1295 (zb_inIc rfl) ?_
                                                                        refine zb_iadd dL_law_1296 o235 ?_
                                                                        refine zb_sload hs dL_law_1297 o236.1 o236.2 ?_
                                                                        refine zb_aload_s (j := 0) dL_law_1298 rfl rfl ?_
                                                                        refine zb_iload_n (j := 3) dL_law_1299 rfl rfl ?_
                                                                        refine zb_iconst dL_law_1300 (zb_inIc rfl) ?_
                                                                        refine zb_iadd dL_law_1301 o237 ?_
                                                                        refine zb_sload hs dL_law_1302 o238.1 o238.2 ?_
                                                                        refine zb_cVL (As := [(0, (xs ((v3_18 + 1)).toNat).toInt), (0, (xs ((v3_18 + 2)).toNat).toInt)]) (As' := [(0, (xs ((v3_18 + 2)).toNat).toInt), (0, (xs ((v3_18 + 1)).toNat).toInt)]) (st := [(0, r1289)]) dL_law_1303 lk_L_155 gd_X12_listed rfl rfl i_2 ⟨_, rfl, rfl⟩ h hW hF (zb_aR i_2 (zb_aI (zb_aI zb_a0))) (Nat.le_refl _) (Nat.le_of_ble_eq_true rfl) hk hn (fun r1303 m1303 hF h => ?_)
                                                                        show zb_WP _ _ _ _ [(0, r1303), (0, r1289)] _ _ _ _
                                                                        refine zb_icmp_eq (tgt := 1311) dL_law_1306 (by decide) (fun c239 => ?_) (fun c239 => ?_)
                                                                        · have h := h.1 c239
                                                                          obtain ⟨o240, h⟩ := h
                                                                          refine zb_iinc (j := 3) (L' := [(3, (0, (v3_18 + 8))), (0, (3, 0)), (1, (2, x1)), (2, (2, x2))]) dL_law_1311 rfl o240 (by decide) rfl ?_
                                                                          refine zb_goto (tgt := 18) dL_law_1314 (by decide) ?_
                                                                          refine zb_sub (L' := [(0, (3, 0)), (1, (2, x1)), (2, (2, x2)), (3, (0, (v3_18 + 8)))]) [1, 2, 3, 0] rfl ?_
                                                                          exact (hX18 _ _).mp h hF
                                                                        · have h := h.2 c239
                                                                          refine zb_iconst dL_law_1309 (zb_inIc rfl) ?_
                                                                          exact zb_rZL dL_law_1310 rfl hF (by decide) hk hn h
                                                                      ·
                                                                        have cc : (zb_and (xs (v3_18).toNat).toInt 63) < 0 ∨ 33 < (zb_and (xs (v3_18).toNat).toInt 63) := by omega
                                                                        refine zb_tableOut (tgt := 1311) dL_law_33 cc (by decide) ?_
                                                                        have h := h.2.2.2.2.2.2.2.2.2.2.2.2.2.2.2.2.2.2.2.2.2.2.2.2.2.2.2.2.2.2.2.2.2.2 cc
                                                                        obtain ⟨o242, h⟩ := h
                                                                        refine zb_iinc (j := 3) (L' := [(3, (0, (v3_18 + 8))), (0, (3, 0)), (1, (2, x1)), (2, (2, x2))]) dL_law_1311 rfl o242 (by decide) rfl ?_
                                                                        refine zb_goto (tgt := 18) dL_law_1314 (by decide) ?_
                                                                        refine zb_sub (L' := [(0, (3, 0)), (1, (2, x1)), (2, (2, x2)), (3, (0, (v3_18 + 8)))]) [1, 2, 3, 0] rfl ?_
                                                                        exact (hX18 _ _).mp h hF
