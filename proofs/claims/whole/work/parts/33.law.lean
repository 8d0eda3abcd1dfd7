abbrev gm_law : gM := (code, "DecreedStreetsLaw", 12, 466, 4)
set_option maxRecDepth 20000 in
theorem dl_0 : decode code 0 = .ok (.new 7, 3) := by decide +kernel
set_option maxRecDepth 20000 in
theorem dl_3 : decode code 3 = .ok (.dup, 1) := by decide +kernel
set_option maxRecDepth 20000 in
theorem dl_4 : decode code 4 = .ok (.invokespecial 9, 3) := by decide +kernel
set_option maxRecDepth 20000 in
theorem dl_7 : decode code 7 = .ok (.astore_n 1, 1) := by decide +kernel
set_option maxRecDepth 20000 in
theorem dl_8 : decode code 8 = .ok (.new 10, 3) := by decide +kernel
set_option maxRecDepth 20000 in
theorem dl_11 : decode code 11 = .ok (.dup, 1) := by decide +kernel
set_option maxRecDepth 20000 in
theorem dl_12 : decode code 12 = .ok (.invokespecial 12, 3) := by decide +kernel
set_option maxRecDepth 20000 in
theorem dl_15 : decode code 15 = .ok (.astore_n 2, 1) := by decide +kernel
set_option maxRecDepth 20000 in
theorem dl_16 : decode code 16 = .ok (.iconst 0, 1) := by decide +kernel
set_option maxRecDepth 20000 in
theorem dl_17 : decode code 17 = .ok (.istore_n 3, 1) := by decide +kernel
set_option maxRecDepth 20000 in
theorem dl_18 : decode code 18 = .ok (.iload_n 3, 1) := by decide +kernel
set_option maxRecDepth 20000 in
theorem dl_19 : decode code 19 = .ok (.aload_n 0, 1) := by decide +kernel
set_option maxRecDepth 20000 in
theorem dl_20 : decode code 20 = .ok (.arraylength, 1) := by decide +kernel
set_option maxRecDepth 20000 in
theorem dl_21 : decode code 21 = .ok (.iconst 5, 1) := by decide +kernel
set_option maxRecDepth 20000 in
theorem dl_22 : decode code 22 = .ok (.isub, 1) := by decide +kernel
set_option maxRecDepth 20000 in
theorem dl_23 : decode code 23 = .ok (.if_icmp .gt 971, 3) := by decide +kernel
set_option maxRecDepth 20000 in
theorem dl_26 : decode code 26 = .ok (.aload_n 0, 1) := by decide +kernel
set_option maxRecDepth 20000 in
theorem dl_27 : decode code 27 = .ok (.iload_n 3, 1) := by decide +kernel
set_option maxRecDepth 20000 in
theorem dl_28 : decode code 28 = .ok (.iaload, 1) := by decide +kernel
set_option maxRecDepth 20000 in
theorem dl_29 : decode code 29 = .ok (.bipush 31, 2) := by decide +kernel
set_option maxRecDepth 20000 in
theorem dl_31 : decode code 31 = .ok (.iand, 1) := by decide +kernel
set_option maxRecDepth 20000 in
theorem dl_32 : decode code 32 = .ok (.tableswitch 956 0 29 #[136, 159, 172, 185, 208, 241, 274, 307, 330, 363, 386, 409, 432, 465, 498, 531, 574, 627, 660, 693, 706, 739, 762, 805, 828, 861, 874, 887, 910, 933], 136) := by decide +kernel
set_option maxRecDepth 20000 in
theorem dl_168 : decode code 168 = .ok (.aload_n 1, 1) := by decide +kernel
set_option maxRecDepth 20000 in
theorem dl_169 : decode code 169 = .ok (.aload_n 0, 1) := by decide +kernel
set_option maxRecDepth 20000 in
theorem dl_170 : decode code 170 = .ok (.iload_n 3, 1) := by decide +kernel
set_option maxRecDepth 20000 in
theorem dl_171 : decode code 171 = .ok (.iconst 1, 1) := by decide +kernel
set_option maxRecDepth 20000 in
theorem dl_172 : decode code 172 = .ok (.iadd, 1) := by decide +kernel
set_option maxRecDepth 20000 in
theorem dl_173 : decode code 173 = .ok (.iaload, 1) := by decide +kernel
set_option maxRecDepth 20000 in
theorem dl_174 : decode code 174 = .ok (.invokevirtual 13, 3) := by decide +kernel
set_option maxRecDepth 20000 in
theorem dl_177 : decode code 177 = .ok (.aload_n 2, 1) := by decide +kernel
set_option maxRecDepth 20000 in
theorem dl_178 : decode code 178 = .ok (.aload_n 0, 1) := by decide +kernel
set_option maxRecDepth 20000 in
theorem dl_179 : decode code 179 = .ok (.iload_n 3, 1) := by decide +kernel
set_option maxRecDepth 20000 in
theorem dl_180 : decode code 180 = .ok (.iconst 1, 1) := by decide +kernel
set_option maxRecDepth 20000 in
theorem dl_181 : decode code 181 = .ok (.iadd, 1) := by decide +kernel
set_option maxRecDepth 20000 in
theorem dl_182 : decode code 182 = .ok (.iaload, 1) := by decide +kernel
set_option maxRecDepth 20000 in
theorem dl_183 : decode code 183 = .ok (.invokevirtual 17, 3) := by decide +kernel
set_option maxRecDepth 20000 in
theorem dl_186 : decode code 186 = .ok (.if_icmp .eq 802, 3) := by decide +kernel
set_option maxRecDepth 20000 in
theorem dl_189 : decode code 189 = .ok (.iconst 0, 1) := by decide +kernel
set_option maxRecDepth 20000 in
theorem dl_190 : decode code 190 = .ok (.ireturn, 1) := by decide +kernel
set_option maxRecDepth 20000 in
theorem dl_191 : decode code 191 = .ok (.aload_n 1, 1) := by decide +kernel
set_option maxRecDepth 20000 in
theorem dl_192 : decode code 192 = .ok (.invokevirtual 18, 3) := by decide +kernel
set_option maxRecDepth 20000 in
theorem dl_195 : decode code 195 = .ok (.aload_n 2, 1) := by decide +kernel
set_option maxRecDepth 20000 in
theorem dl_196 : decode code 196 = .ok (.invokevirtual 22, 3) := by decide +kernel
set_option maxRecDepth 20000 in
theorem dl_199 : decode code 199 = .ok (.if_icmp .eq 789, 3) := by decide +kernel
set_option maxRecDepth 20000 in
theorem dl_202 : decode code 202 = .ok (.iconst 0, 1) := by decide +kernel
set_option maxRecDepth 20000 in
theorem dl_203 : decode code 203 = .ok (.ireturn, 1) := by decide +kernel
set_option maxRecDepth 20000 in
theorem dl_204 : decode code 204 = .ok (.aload_n 1, 1) := by decide +kernel
set_option maxRecDepth 20000 in
theorem dl_205 : decode code 205 = .ok (.invokevirtual 23, 3) := by decide +kernel
set_option maxRecDepth 20000 in
theorem dl_208 : decode code 208 = .ok (.aload_n 2, 1) := by decide +kernel
set_option maxRecDepth 20000 in
theorem dl_209 : decode code 209 = .ok (.invokevirtual 26, 3) := by decide +kernel
set_option maxRecDepth 20000 in
theorem dl_212 : decode code 212 = .ok (.if_icmp .eq 776, 3) := by decide +kernel
set_option maxRecDepth 20000 in
theorem dl_215 : decode code 215 = .ok (.iconst 0, 1) := by decide +kernel
set_option maxRecDepth 20000 in
theorem dl_216 : decode code 216 = .ok (.ireturn, 1) := by decide +kernel
set_option maxRecDepth 20000 in
theorem dl_217 : decode code 217 = .ok (.aload_n 1, 1) := by decide +kernel
set_option maxRecDepth 20000 in
theorem dl_218 : decode code 218 = .ok (.aload_n 0, 1) := by decide +kernel
set_option maxRecDepth 20000 in
theorem dl_219 : decode code 219 = .ok (.iload_n 3, 1) := by decide +kernel
set_option maxRecDepth 20000 in
theorem dl_220 : decode code 220 = .ok (.iconst 1, 1) := by decide +kernel
set_option maxRecDepth 20000 in
theorem dl_221 : decode code 221 = .ok (.iadd, 1) := by decide +kernel
set_option maxRecDepth 20000 in
theorem dl_222 : decode code 222 = .ok (.iaload, 1) := by decide +kernel
set_option maxRecDepth 20000 in
theorem dl_223 : decode code 223 = .ok (.invokevirtual 27, 3) := by decide +kernel
set_option maxRecDepth 20000 in
theorem dl_226 : decode code 226 = .ok (.aload_n 2, 1) := by decide +kernel
set_option maxRecDepth 20000 in
theorem dl_227 : decode code 227 = .ok (.aload_n 0, 1) := by decide +kernel
set_option maxRecDepth 20000 in
theorem dl_228 : decode code 228 = .ok (.iload_n 3, 1) := by decide +kernel
set_option maxRecDepth 20000 in
theorem dl_229 : decode code 229 = .ok (.iconst 1, 1) := by decide +kernel
set_option maxRecDepth 20000 in
theorem dl_230 : decode code 230 = .ok (.iadd, 1) := by decide +kernel
set_option maxRecDepth 20000 in
theorem dl_231 : decode code 231 = .ok (.iaload, 1) := by decide +kernel
set_option maxRecDepth 20000 in
theorem dl_232 : decode code 232 = .ok (.invokevirtual 30, 3) := by decide +kernel
set_option maxRecDepth 20000 in
theorem dl_235 : decode code 235 = .ok (.if_icmp .eq 753, 3) := by decide +kernel
set_option maxRecDepth 20000 in
theorem dl_238 : decode code 238 = .ok (.iconst 0, 1) := by decide +kernel
set_option maxRecDepth 20000 in
theorem dl_239 : decode code 239 = .ok (.ireturn, 1) := by decide +kernel
set_option maxRecDepth 20000 in
theorem dl_240 : decode code 240 = .ok (.aload_n 1, 1) := by decide +kernel
set_option maxRecDepth 20000 in
theorem dl_241 : decode code 241 = .ok (.aload_n 0, 1) := by decide +kernel
set_option maxRecDepth 20000 in
theorem dl_242 : decode code 242 = .ok (.iload_n 3, 1) := by decide +kernel
set_option maxRecDepth 20000 in
theorem dl_243 : decode code 243 = .ok (.iconst 1, 1) := by decide +kernel
set_option maxRecDepth 20000 in
theorem dl_244 : decode code 244 = .ok (.iadd, 1) := by decide +kernel
set_option maxRecDepth 20000 in
theorem dl_245 : decode code 245 = .ok (.iaload, 1) := by decide +kernel
set_option maxRecDepth 20000 in
theorem dl_246 : decode code 246 = .ok (.aload_n 0, 1) := by decide +kernel
set_option maxRecDepth 20000 in
theorem dl_247 : decode code 247 = .ok (.iload_n 3, 1) := by decide +kernel
set_option maxRecDepth 20000 in
theorem dl_248 : decode code 248 = .ok (.iconst 2, 1) := by decide +kernel
set_option maxRecDepth 20000 in
theorem dl_249 : decode code 249 = .ok (.iadd, 1) := by decide +kernel
set_option maxRecDepth 20000 in
theorem dl_250 : decode code 250 = .ok (.iaload, 1) := by decide +kernel
set_option maxRecDepth 20000 in
theorem dl_251 : decode code 251 = .ok (.invokevirtual 31, 3) := by decide +kernel
set_option maxRecDepth 20000 in
theorem dl_254 : decode code 254 = .ok (.aload_n 2, 1) := by decide +kernel
set_option maxRecDepth 20000 in
theorem dl_255 : decode code 255 = .ok (.aload_n 0, 1) := by decide +kernel
set_option maxRecDepth 20000 in
theorem dl_256 : decode code 256 = .ok (.iload_n 3, 1) := by decide +kernel
set_option maxRecDepth 20000 in
theorem dl_257 : decode code 257 = .ok (.iconst 1, 1) := by decide +kernel
set_option maxRecDepth 20000 in
theorem dl_258 : decode code 258 = .ok (.iadd, 1) := by decide +kernel
set_option maxRecDepth 20000 in
theorem dl_259 : decode code 259 = .ok (.iaload, 1) := by decide +kernel
set_option maxRecDepth 20000 in
theorem dl_260 : decode code 260 = .ok (.aload_n 0, 1) := by decide +kernel
set_option maxRecDepth 20000 in
theorem dl_261 : decode code 261 = .ok (.iload_n 3, 1) := by decide +kernel
set_option maxRecDepth 20000 in
theorem dl_262 : decode code 262 = .ok (.iconst 2, 1) := by decide +kernel
set_option maxRecDepth 20000 in
theorem dl_263 : decode code 263 = .ok (.iadd, 1) := by decide +kernel
set_option maxRecDepth 20000 in
theorem dl_264 : decode code 264 = .ok (.iaload, 1) := by decide +kernel
set_option maxRecDepth 20000 in
theorem dl_265 : decode code 265 = .ok (.invokevirtual 35, 3) := by decide +kernel
set_option maxRecDepth 20000 in
theorem dl_268 : decode code 268 = .ok (.if_icmp .eq 720, 3) := by decide +kernel
set_option maxRecDepth 20000 in
theorem dl_271 : decode code 271 = .ok (.iconst 0, 1) := by decide +kernel
set_option maxRecDepth 20000 in
theorem dl_272 : decode code 272 = .ok (.ireturn, 1) := by decide +kernel
set_option maxRecDepth 20000 in
theorem dl_273 : decode code 273 = .ok (.aload_n 1, 1) := by decide +kernel
set_option maxRecDepth 20000 in
theorem dl_274 : decode code 274 = .ok (.aload_n 0, 1) := by decide +kernel
set_option maxRecDepth 20000 in
theorem dl_275 : decode code 275 = .ok (.iload_n 3, 1) := by decide +kernel
set_option maxRecDepth 20000 in
theorem dl_276 : decode code 276 = .ok (.iconst 1, 1) := by decide +kernel
set_option maxRecDepth 20000 in
theorem dl_277 : decode code 277 = .ok (.iadd, 1) := by decide +kernel
set_option maxRecDepth 20000 in
theorem dl_278 : decode code 278 = .ok (.iaload, 1) := by decide +kernel
set_option maxRecDepth 20000 in
theorem dl_279 : decode code 279 = .ok (.aload_n 0, 1) := by decide +kernel
set_option maxRecDepth 20000 in
theorem dl_280 : decode code 280 = .ok (.iload_n 3, 1) := by decide +kernel
set_option maxRecDepth 20000 in
theorem dl_281 : decode code 281 = .ok (.iconst 2, 1) := by decide +kernel
set_option maxRecDepth 20000 in
theorem dl_282 : decode code 282 = .ok (.iadd, 1) := by decide +kernel
set_option maxRecDepth 20000 in
theorem dl_283 : decode code 283 = .ok (.iaload, 1) := by decide +kernel
set_option maxRecDepth 20000 in
theorem dl_284 : decode code 284 = .ok (.invokevirtual 36, 3) := by decide +kernel
set_option maxRecDepth 20000 in
theorem dl_287 : decode code 287 = .ok (.aload_n 2, 1) := by decide +kernel
set_option maxRecDepth 20000 in
theorem dl_288 : decode code 288 = .ok (.aload_n 0, 1) := by decide +kernel
set_option maxRecDepth 20000 in
theorem dl_289 : decode code 289 = .ok (.iload_n 3, 1) := by decide +kernel
set_option maxRecDepth 20000 in
theorem dl_290 : decode code 290 = .ok (.iconst 1, 1) := by decide +kernel
set_option maxRecDepth 20000 in
theorem dl_291 : decode code 291 = .ok (.iadd, 1) := by decide +kernel
set_option maxRecDepth 20000 in
theorem dl_292 : decode code 292 = .ok (.iaload, 1) := by decide +kernel
set_option maxRecDepth 20000 in
theorem dl_293 : decode code 293 = .ok (.aload_n 0, 1) := by decide +kernel
set_option maxRecDepth 20000 in
theorem dl_294 : decode code 294 = .ok (.iload_n 3, 1) := by decide +kernel
set_option maxRecDepth 20000 in
theorem dl_295 : decode code 295 = .ok (.iconst 2, 1) := by decide +kernel
set_option maxRecDepth 20000 in
theorem dl_296 : decode code 296 = .ok (.iadd, 1) := by decide +kernel
set_option maxRecDepth 20000 in
theorem dl_297 : decode code 297 = .ok (.iaload, 1) := by decide +kernel
set_option maxRecDepth 20000 in
theorem dl_298 : decode code 298 = .ok (.invokevirtual 39, 3) := by decide +kernel
set_option maxRecDepth 20000 in
theorem dl_301 : decode code 301 = .ok (.if_icmp .eq 687, 3) := by decide +kernel
set_option maxRecDepth 20000 in
theorem dl_304 : decode code 304 = .ok (.iconst 0, 1) := by decide +kernel
set_option maxRecDepth 20000 in
theorem dl_305 : decode code 305 = .ok (.ireturn, 1) := by decide +kernel
set_option maxRecDepth 20000 in
theorem dl_306 : decode code 306 = .ok (.aload_n 1, 1) := by decide +kernel
set_option maxRecDepth 20000 in
theorem dl_307 : decode code 307 = .ok (.aload_n 0, 1) := by decide +kernel
set_option maxRecDepth 20000 in
theorem dl_308 : decode code 308 = .ok (.iload_n 3, 1) := by decide +kernel
set_option maxRecDepth 20000 in
theorem dl_309 : decode code 309 = .ok (.iconst 1, 1) := by decide +kernel
set_option maxRecDepth 20000 in
theorem dl_310 : decode code 310 = .ok (.iadd, 1) := by decide +kernel
set_option maxRecDepth 20000 in
theorem dl_311 : decode code 311 = .ok (.iaload, 1) := by decide +kernel
set_option maxRecDepth 20000 in
theorem dl_312 : decode code 312 = .ok (.aload_n 0, 1) := by decide +kernel
set_option maxRecDepth 20000 in
theorem dl_313 : decode code 313 = .ok (.iload_n 3, 1) := by decide +kernel
set_option maxRecDepth 20000 in
theorem dl_314 : decode code 314 = .ok (.iconst 2, 1) := by decide +kernel
set_option maxRecDepth 20000 in
theorem dl_315 : decode code 315 = .ok (.iadd, 1) := by decide +kernel
set_option maxRecDepth 20000 in
theorem dl_316 : decode code 316 = .ok (.iaload, 1) := by decide +kernel
set_option maxRecDepth 20000 in
theorem dl_317 : decode code 317 = .ok (.invokevirtual 40, 3) := by decide +kernel
set_option maxRecDepth 20000 in
theorem dl_320 : decode code 320 = .ok (.aload_n 2, 1) := by decide +kernel
set_option maxRecDepth 20000 in
theorem dl_321 : decode code 321 = .ok (.aload_n 0, 1) := by decide +kernel
set_option maxRecDepth 20000 in
theorem dl_322 : decode code 322 = .ok (.iload_n 3, 1) := by decide +kernel
set_option maxRecDepth 20000 in
theorem dl_323 : decode code 323 = .ok (.iconst 1, 1) := by decide +kernel
set_option maxRecDepth 20000 in
theorem dl_324 : decode code 324 = .ok (.iadd, 1) := by decide +kernel
set_option maxRecDepth 20000 in
theorem dl_325 : decode code 325 = .ok (.iaload, 1) := by decide +kernel
set_option maxRecDepth 20000 in
theorem dl_326 : decode code 326 = .ok (.aload_n 0, 1) := by decide +kernel
set_option maxRecDepth 20000 in
theorem dl_327 : decode code 327 = .ok (.iload_n 3, 1) := by decide +kernel
set_option maxRecDepth 20000 in
theorem dl_328 : decode code 328 = .ok (.iconst 2, 1) := by decide +kernel
set_option maxRecDepth 20000 in
theorem dl_329 : decode code 329 = .ok (.iadd, 1) := by decide +kernel
set_option maxRecDepth 20000 in
theorem dl_330 : decode code 330 = .ok (.iaload, 1) := by decide +kernel
set_option maxRecDepth 20000 in
theorem dl_331 : decode code 331 = .ok (.invokevirtual 43, 3) := by decide +kernel
set_option maxRecDepth 20000 in
theorem dl_334 : decode code 334 = .ok (.if_icmp .eq 654, 3) := by decide +kernel
set_option maxRecDepth 20000 in
theorem dl_337 : decode code 337 = .ok (.iconst 0, 1) := by decide +kernel
set_option maxRecDepth 20000 in
theorem dl_338 : decode code 338 = .ok (.ireturn, 1) := by decide +kernel
set_option maxRecDepth 20000 in
theorem dl_339 : decode code 339 = .ok (.aload_n 1, 1) := by decide +kernel
set_option maxRecDepth 20000 in
theorem dl_340 : decode code 340 = .ok (.aload_n 0, 1) := by decide +kernel
set_option maxRecDepth 20000 in
theorem dl_341 : decode code 341 = .ok (.iload_n 3, 1) := by decide +kernel
set_option maxRecDepth 20000 in
theorem dl_342 : decode code 342 = .ok (.iconst 1, 1) := by decide +kernel
set_option maxRecDepth 20000 in
theorem dl_343 : decode code 343 = .ok (.iadd, 1) := by decide +kernel
set_option maxRecDepth 20000 in
theorem dl_344 : decode code 344 = .ok (.iaload, 1) := by decide +kernel
set_option maxRecDepth 20000 in
theorem dl_345 : decode code 345 = .ok (.invokevirtual 44, 3) := by decide +kernel
set_option maxRecDepth 20000 in
theorem dl_348 : decode code 348 = .ok (.aload_n 2, 1) := by decide +kernel
set_option maxRecDepth 20000 in
theorem dl_349 : decode code 349 = .ok (.aload_n 0, 1) := by decide +kernel
set_option maxRecDepth 20000 in
theorem dl_350 : decode code 350 = .ok (.iload_n 3, 1) := by decide +kernel
set_option maxRecDepth 20000 in
theorem dl_351 : decode code 351 = .ok (.iconst 1, 1) := by decide +kernel
set_option maxRecDepth 20000 in
theorem dl_352 : decode code 352 = .ok (.iadd, 1) := by decide +kernel
set_option maxRecDepth 20000 in
theorem dl_353 : decode code 353 = .ok (.iaload, 1) := by decide +kernel
set_option maxRecDepth 20000 in
theorem dl_354 : decode code 354 = .ok (.invokevirtual 47, 3) := by decide +kernel
set_option maxRecDepth 20000 in
theorem dl_357 : decode code 357 = .ok (.if_icmp .eq 631, 3) := by decide +kernel
set_option maxRecDepth 20000 in
theorem dl_360 : decode code 360 = .ok (.iconst 0, 1) := by decide +kernel
set_option maxRecDepth 20000 in
theorem dl_361 : decode code 361 = .ok (.ireturn, 1) := by decide +kernel
set_option maxRecDepth 20000 in
theorem dl_362 : decode code 362 = .ok (.aload_n 1, 1) := by decide +kernel
set_option maxRecDepth 20000 in
theorem dl_363 : decode code 363 = .ok (.aload_n 0, 1) := by decide +kernel
set_option maxRecDepth 20000 in
theorem dl_364 : decode code 364 = .ok (.iload_n 3, 1) := by decide +kernel
set_option maxRecDepth 20000 in
theorem dl_365 : decode code 365 = .ok (.iconst 1, 1) := by decide +kernel
set_option maxRecDepth 20000 in
theorem dl_366 : decode code 366 = .ok (.iadd, 1) := by decide +kernel
set_option maxRecDepth 20000 in
theorem dl_367 : decode code 367 = .ok (.iaload, 1) := by decide +kernel
set_option maxRecDepth 20000 in
theorem dl_368 : decode code 368 = .ok (.aload_n 0, 1) := by decide +kernel
set_option maxRecDepth 20000 in
theorem dl_369 : decode code 369 = .ok (.iload_n 3, 1) := by decide +kernel
set_option maxRecDepth 20000 in
theorem dl_370 : decode code 370 = .ok (.iconst 2, 1) := by decide +kernel
set_option maxRecDepth 20000 in
theorem dl_371 : decode code 371 = .ok (.iadd, 1) := by decide +kernel
set_option maxRecDepth 20000 in
theorem dl_372 : decode code 372 = .ok (.iaload, 1) := by decide +kernel
set_option maxRecDepth 20000 in
theorem dl_373 : decode code 373 = .ok (.invokevirtual 48, 3) := by decide +kernel
set_option maxRecDepth 20000 in
theorem dl_376 : decode code 376 = .ok (.aload_n 2, 1) := by decide +kernel
set_option maxRecDepth 20000 in
theorem dl_377 : decode code 377 = .ok (.aload_n 0, 1) := by decide +kernel
set_option maxRecDepth 20000 in
theorem dl_378 : decode code 378 = .ok (.iload_n 3, 1) := by decide +kernel
set_option maxRecDepth 20000 in
theorem dl_379 : decode code 379 = .ok (.iconst 1, 1) := by decide +kernel
set_option maxRecDepth 20000 in
theorem dl_380 : decode code 380 = .ok (.iadd, 1) := by decide +kernel
set_option maxRecDepth 20000 in
theorem dl_381 : decode code 381 = .ok (.iaload, 1) := by decide +kernel
set_option maxRecDepth 20000 in
theorem dl_382 : decode code 382 = .ok (.aload_n 0, 1) := by decide +kernel
set_option maxRecDepth 20000 in
theorem dl_383 : decode code 383 = .ok (.iload_n 3, 1) := by decide +kernel
set_option maxRecDepth 20000 in
theorem dl_384 : decode code 384 = .ok (.iconst 2, 1) := by decide +kernel
set_option maxRecDepth 20000 in
theorem dl_385 : decode code 385 = .ok (.iadd, 1) := by decide +kernel
set_option maxRecDepth 20000 in
theorem dl_386 : decode code 386 = .ok (.iaload, 1) := by decide +kernel
set_option maxRecDepth 20000 in
theorem dl_387 : decode code 387 = .ok (.invokevirtual 51, 3) := by decide +kernel
set_option maxRecDepth 20000 in
theorem dl_390 : decode code 390 = .ok (.if_icmp .eq 598, 3) := by decide +kernel
set_option maxRecDepth 20000 in
theorem dl_393 : decode code 393 = .ok (.iconst 0, 1) := by decide +kernel
set_option maxRecDepth 20000 in
theorem dl_394 : decode code 394 = .ok (.ireturn, 1) := by decide +kernel
set_option maxRecDepth 20000 in
theorem dl_395 : decode code 395 = .ok (.aload_n 1, 1) := by decide +kernel
set_option maxRecDepth 20000 in
theorem dl_396 : decode code 396 = .ok (.aload_n 0, 1) := by decide +kernel
set_option maxRecDepth 20000 in
theorem dl_397 : decode code 397 = .ok (.iload_n 3, 1) := by decide +kernel
set_option maxRecDepth 20000 in
theorem dl_398 : decode code 398 = .ok (.iconst 1, 1) := by decide +kernel
set_option maxRecDepth 20000 in
theorem dl_399 : decode code 399 = .ok (.iadd, 1) := by decide +kernel
set_option maxRecDepth 20000 in
theorem dl_400 : decode code 400 = .ok (.iaload, 1) := by decide +kernel
set_option maxRecDepth 20000 in
theorem dl_401 : decode code 401 = .ok (.invokevirtual 52, 3) := by decide +kernel
set_option maxRecDepth 20000 in
theorem dl_404 : decode code 404 = .ok (.aload_n 2, 1) := by decide +kernel
set_option maxRecDepth 20000 in
theorem dl_405 : decode code 405 = .ok (.aload_n 0, 1) := by decide +kernel
set_option maxRecDepth 20000 in
theorem dl_406 : decode code 406 = .ok (.iload_n 3, 1) := by decide +kernel
set_option maxRecDepth 20000 in
theorem dl_407 : decode code 407 = .ok (.iconst 1, 1) := by decide +kernel
set_option maxRecDepth 20000 in
theorem dl_408 : decode code 408 = .ok (.iadd, 1) := by decide +kernel
set_option maxRecDepth 20000 in
theorem dl_409 : decode code 409 = .ok (.iaload, 1) := by decide +kernel
set_option maxRecDepth 20000 in
theorem dl_410 : decode code 410 = .ok (.invokevirtual 55, 3) := by decide +kernel
set_option maxRecDepth 20000 in
theorem dl_413 : decode code 413 = .ok (.if_icmp .eq 575, 3) := by decide +kernel
set_option maxRecDepth 20000 in
theorem dl_416 : decode code 416 = .ok (.iconst 0, 1) := by decide +kernel
set_option maxRecDepth 20000 in
theorem dl_417 : decode code 417 = .ok (.ireturn, 1) := by decide +kernel
set_option maxRecDepth 20000 in
theorem dl_418 : decode code 418 = .ok (.aload_n 1, 1) := by decide +kernel
set_option maxRecDepth 20000 in
theorem dl_419 : decode code 419 = .ok (.aload_n 0, 1) := by decide +kernel
set_option maxRecDepth 20000 in
theorem dl_420 : decode code 420 = .ok (.iload_n 3, 1) := by decide +kernel
set_option maxRecDepth 20000 in
theorem dl_421 : decode code 421 = .ok (.iconst 1, 1) := by decide +kernel
set_option maxRecDepth 20000 in
theorem dl_422 : decode code 422 = .ok (.iadd, 1) := by decide +kernel
set_option maxRecDepth 20000 in
theorem dl_423 : decode code 423 = .ok (.iaload, 1) := by decide +kernel
set_option maxRecDepth 20000 in
theorem dl_424 : decode code 424 = .ok (.invokevirtual 56, 3) := by decide +kernel
set_option maxRecDepth 20000 in
theorem dl_427 : decode code 427 = .ok (.aload_n 2, 1) := by decide +kernel
set_option maxRecDepth 20000 in
theorem dl_428 : decode code 428 = .ok (.aload_n 0, 1) := by decide +kernel
set_option maxRecDepth 20000 in
theorem dl_429 : decode code 429 = .ok (.iload_n 3, 1) := by decide +kernel
set_option maxRecDepth 20000 in
theorem dl_430 : decode code 430 = .ok (.iconst 1, 1) := by decide +kernel
set_option maxRecDepth 20000 in
theorem dl_431 : decode code 431 = .ok (.iadd, 1) := by decide +kernel
set_option maxRecDepth 20000 in
theorem dl_432 : decode code 432 = .ok (.iaload, 1) := by decide +kernel
set_option maxRecDepth 20000 in
theorem dl_433 : decode code 433 = .ok (.invokevirtual 59, 3) := by decide +kernel
set_option maxRecDepth 20000 in
theorem dl_436 : decode code 436 = .ok (.if_icmp .eq 552, 3) := by decide +kernel
set_option maxRecDepth 20000 in
theorem dl_439 : decode code 439 = .ok (.iconst 0, 1) := by decide +kernel
set_option maxRecDepth 20000 in
theorem dl_440 : decode code 440 = .ok (.ireturn, 1) := by decide +kernel
set_option maxRecDepth 20000 in
theorem dl_441 : decode code 441 = .ok (.aload_n 1, 1) := by decide +kernel
set_option maxRecDepth 20000 in
theorem dl_442 : decode code 442 = .ok (.aload_n 0, 1) := by decide +kernel
set_option maxRecDepth 20000 in
theorem dl_443 : decode code 443 = .ok (.iload_n 3, 1) := by decide +kernel
set_option maxRecDepth 20000 in
theorem dl_444 : decode code 444 = .ok (.iconst 1, 1) := by decide +kernel
set_option maxRecDepth 20000 in
theorem dl_445 : decode code 445 = .ok (.iadd, 1) := by decide +kernel
set_option maxRecDepth 20000 in
theorem dl_446 : decode code 446 = .ok (.iaload, 1) := by decide +kernel
set_option maxRecDepth 20000 in
theorem dl_447 : decode code 447 = .ok (.invokevirtual 60, 3) := by decide +kernel
set_option maxRecDepth 20000 in
theorem dl_450 : decode code 450 = .ok (.aload_n 2, 1) := by decide +kernel
set_option maxRecDepth 20000 in
theorem dl_451 : decode code 451 = .ok (.aload_n 0, 1) := by decide +kernel
set_option maxRecDepth 20000 in
theorem dl_452 : decode code 452 = .ok (.iload_n 3, 1) := by decide +kernel
set_option maxRecDepth 20000 in
theorem dl_453 : decode code 453 = .ok (.iconst 1, 1) := by decide +kernel
set_option maxRecDepth 20000 in
theorem dl_454 : decode code 454 = .ok (.iadd, 1) := by decide +kernel
set_option maxRecDepth 20000 in
theorem dl_455 : decode code 455 = .ok (.iaload, 1) := by decide +kernel
set_option maxRecDepth 20000 in
theorem dl_456 : decode code 456 = .ok (.invokevirtual 63, 3) := by decide +kernel
set_option maxRecDepth 20000 in
theorem dl_459 : decode code 459 = .ok (.if_icmp .eq 529, 3) := by decide +kernel
set_option maxRecDepth 20000 in
theorem dl_462 : decode code 462 = .ok (.iconst 0, 1) := by decide +kernel
set_option maxRecDepth 20000 in
theorem dl_463 : decode code 463 = .ok (.ireturn, 1) := by decide +kernel
set_option maxRecDepth 20000 in
theorem dl_464 : decode code 464 = .ok (.aload_n 1, 1) := by decide +kernel
set_option maxRecDepth 20000 in
theorem dl_465 : decode code 465 = .ok (.aload_n 0, 1) := by decide +kernel
set_option maxRecDepth 20000 in
theorem dl_466 : decode code 466 = .ok (.iload_n 3, 1) := by decide +kernel
set_option maxRecDepth 20000 in
theorem dl_467 : decode code 467 = .ok (.iconst 1, 1) := by decide +kernel
set_option maxRecDepth 20000 in
theorem dl_468 : decode code 468 = .ok (.iadd, 1) := by decide +kernel
set_option maxRecDepth 20000 in
theorem dl_469 : decode code 469 = .ok (.iaload, 1) := by decide +kernel
set_option maxRecDepth 20000 in
theorem dl_470 : decode code 470 = .ok (.aload_n 0, 1) := by decide +kernel
set_option maxRecDepth 20000 in
theorem dl_471 : decode code 471 = .ok (.iload_n 3, 1) := by decide +kernel
set_option maxRecDepth 20000 in
theorem dl_472 : decode code 472 = .ok (.iconst 2, 1) := by decide +kernel
set_option maxRecDepth 20000 in
theorem dl_473 : decode code 473 = .ok (.iadd, 1) := by decide +kernel
set_option maxRecDepth 20000 in
theorem dl_474 : decode code 474 = .ok (.iaload, 1) := by decide +kernel
set_option maxRecDepth 20000 in
theorem dl_475 : decode code 475 = .ok (.invokevirtual 64, 3) := by decide +kernel
set_option maxRecDepth 20000 in
theorem dl_478 : decode code 478 = .ok (.aload_n 2, 1) := by decide +kernel
set_option maxRecDepth 20000 in
theorem dl_479 : decode code 479 = .ok (.aload_n 0, 1) := by decide +kernel
set_option maxRecDepth 20000 in
theorem dl_480 : decode code 480 = .ok (.iload_n 3, 1) := by decide +kernel
set_option maxRecDepth 20000 in
theorem dl_481 : decode code 481 = .ok (.iconst 1, 1) := by decide +kernel
set_option maxRecDepth 20000 in
theorem dl_482 : decode code 482 = .ok (.iadd, 1) := by decide +kernel
set_option maxRecDepth 20000 in
theorem dl_483 : decode code 483 = .ok (.iaload, 1) := by decide +kernel
set_option maxRecDepth 20000 in
theorem dl_484 : decode code 484 = .ok (.aload_n 0, 1) := by decide +kernel
set_option maxRecDepth 20000 in
theorem dl_485 : decode code 485 = .ok (.iload_n 3, 1) := by decide +kernel
set_option maxRecDepth 20000 in
theorem dl_486 : decode code 486 = .ok (.iconst 2, 1) := by decide +kernel
set_option maxRecDepth 20000 in
theorem dl_487 : decode code 487 = .ok (.iadd, 1) := by decide +kernel
set_option maxRecDepth 20000 in
theorem dl_488 : decode code 488 = .ok (.iaload, 1) := by decide +kernel
set_option maxRecDepth 20000 in
theorem dl_489 : decode code 489 = .ok (.invokevirtual 67, 3) := by decide +kernel
set_option maxRecDepth 20000 in
theorem dl_492 : decode code 492 = .ok (.if_icmp .eq 496, 3) := by decide +kernel
set_option maxRecDepth 20000 in
theorem dl_495 : decode code 495 = .ok (.iconst 0, 1) := by decide +kernel
set_option maxRecDepth 20000 in
theorem dl_496 : decode code 496 = .ok (.ireturn, 1) := by decide +kernel
set_option maxRecDepth 20000 in
theorem dl_497 : decode code 497 = .ok (.aload_n 1, 1) := by decide +kernel
set_option maxRecDepth 20000 in
theorem dl_498 : decode code 498 = .ok (.aload_n 0, 1) := by decide +kernel
set_option maxRecDepth 20000 in
theorem dl_499 : decode code 499 = .ok (.iload_n 3, 1) := by decide +kernel
set_option maxRecDepth 20000 in
theorem dl_500 : decode code 500 = .ok (.iconst 1, 1) := by decide +kernel
set_option maxRecDepth 20000 in
theorem dl_501 : decode code 501 = .ok (.iadd, 1) := by decide +kernel
set_option maxRecDepth 20000 in
theorem dl_502 : decode code 502 = .ok (.iaload, 1) := by decide +kernel
set_option maxRecDepth 20000 in
theorem dl_503 : decode code 503 = .ok (.aload_n 0, 1) := by decide +kernel
set_option maxRecDepth 20000 in
theorem dl_504 : decode code 504 = .ok (.iload_n 3, 1) := by decide +kernel
set_option maxRecDepth 20000 in
theorem dl_505 : decode code 505 = .ok (.iconst 2, 1) := by decide +kernel
set_option maxRecDepth 20000 in
theorem dl_506 : decode code 506 = .ok (.iadd, 1) := by decide +kernel
set_option maxRecDepth 20000 in
theorem dl_507 : decode code 507 = .ok (.iaload, 1) := by decide +kernel
set_option maxRecDepth 20000 in
theorem dl_508 : decode code 508 = .ok (.invokevirtual 68, 3) := by decide +kernel
set_option maxRecDepth 20000 in
theorem dl_511 : decode code 511 = .ok (.aload_n 2, 1) := by decide +kernel
set_option maxRecDepth 20000 in
theorem dl_512 : decode code 512 = .ok (.aload_n 0, 1) := by decide +kernel
set_option maxRecDepth 20000 in
theorem dl_513 : decode code 513 = .ok (.iload_n 3, 1) := by decide +kernel
set_option maxRecDepth 20000 in
theorem dl_514 : decode code 514 = .ok (.iconst 1, 1) := by decide +kernel
set_option maxRecDepth 20000 in
theorem dl_515 : decode code 515 = .ok (.iadd, 1) := by decide +kernel
set_option maxRecDepth 20000 in
theorem dl_516 : decode code 516 = .ok (.iaload, 1) := by decide +kernel
set_option maxRecDepth 20000 in
theorem dl_517 : decode code 517 = .ok (.aload_n 0, 1) := by decide +kernel
set_option maxRecDepth 20000 in
theorem dl_518 : decode code 518 = .ok (.iload_n 3, 1) := by decide +kernel
set_option maxRecDepth 20000 in
theorem dl_519 : decode code 519 = .ok (.iconst 2, 1) := by decide +kernel
set_option maxRecDepth 20000 in
theorem dl_520 : decode code 520 = .ok (.iadd, 1) := by decide +kernel
set_option maxRecDepth 20000 in
theorem dl_521 : decode code 521 = .ok (.iaload, 1) := by decide +kernel
set_option maxRecDepth 20000 in
theorem dl_522 : decode code 522 = .ok (.invokevirtual 71, 3) := by decide +kernel
set_option maxRecDepth 20000 in
theorem dl_525 : decode code 525 = .ok (.if_icmp .eq 463, 3) := by decide +kernel
set_option maxRecDepth 20000 in
theorem dl_528 : decode code 528 = .ok (.iconst 0, 1) := by decide +kernel
set_option maxRecDepth 20000 in
theorem dl_529 : decode code 529 = .ok (.ireturn, 1) := by decide +kernel
set_option maxRecDepth 20000 in
theorem dl_530 : decode code 530 = .ok (.aload_n 1, 1) := by decide +kernel
set_option maxRecDepth 20000 in
theorem dl_531 : decode code 531 = .ok (.aload_n 0, 1) := by decide +kernel
set_option maxRecDepth 20000 in
theorem dl_532 : decode code 532 = .ok (.iload_n 3, 1) := by decide +kernel
set_option maxRecDepth 20000 in
theorem dl_533 : decode code 533 = .ok (.iconst 1, 1) := by decide +kernel
set_option maxRecDepth 20000 in
theorem dl_534 : decode code 534 = .ok (.iadd, 1) := by decide +kernel
set_option maxRecDepth 20000 in
theorem dl_535 : decode code 535 = .ok (.iaload, 1) := by decide +kernel
set_option maxRecDepth 20000 in
theorem dl_536 : decode code 536 = .ok (.aload_n 0, 1) := by decide +kernel
set_option maxRecDepth 20000 in
theorem dl_537 : decode code 537 = .ok (.iload_n 3, 1) := by decide +kernel
set_option maxRecDepth 20000 in
theorem dl_538 : decode code 538 = .ok (.iconst 2, 1) := by decide +kernel
set_option maxRecDepth 20000 in
theorem dl_539 : decode code 539 = .ok (.iadd, 1) := by decide +kernel
set_option maxRecDepth 20000 in
theorem dl_540 : decode code 540 = .ok (.iaload, 1) := by decide +kernel
set_option maxRecDepth 20000 in
theorem dl_541 : decode code 541 = .ok (.invokevirtual 72, 3) := by decide +kernel
set_option maxRecDepth 20000 in
theorem dl_544 : decode code 544 = .ok (.aload_n 2, 1) := by decide +kernel
set_option maxRecDepth 20000 in
theorem dl_545 : decode code 545 = .ok (.aload_n 0, 1) := by decide +kernel
set_option maxRecDepth 20000 in
theorem dl_546 : decode code 546 = .ok (.iload_n 3, 1) := by decide +kernel
set_option maxRecDepth 20000 in
theorem dl_547 : decode code 547 = .ok (.iconst 1, 1) := by decide +kernel
set_option maxRecDepth 20000 in
theorem dl_548 : decode code 548 = .ok (.iadd, 1) := by decide +kernel
set_option maxRecDepth 20000 in
theorem dl_549 : decode code 549 = .ok (.iaload, 1) := by decide +kernel
set_option maxRecDepth 20000 in
theorem dl_550 : decode code 550 = .ok (.aload_n 0, 1) := by decide +kernel
set_option maxRecDepth 20000 in
theorem dl_551 : decode code 551 = .ok (.iload_n 3, 1) := by decide +kernel
set_option maxRecDepth 20000 in
theorem dl_552 : decode code 552 = .ok (.iconst 2, 1) := by decide +kernel
set_option maxRecDepth 20000 in
theorem dl_553 : decode code 553 = .ok (.iadd, 1) := by decide +kernel
set_option maxRecDepth 20000 in
theorem dl_554 : decode code 554 = .ok (.iaload, 1) := by decide +kernel
set_option maxRecDepth 20000 in
theorem dl_555 : decode code 555 = .ok (.invokevirtual 75, 3) := by decide +kernel
set_option maxRecDepth 20000 in
theorem dl_558 : decode code 558 = .ok (.if_icmp .eq 430, 3) := by decide +kernel
set_option maxRecDepth 20000 in
theorem dl_561 : decode code 561 = .ok (.iconst 0, 1) := by decide +kernel
set_option maxRecDepth 20000 in
theorem dl_562 : decode code 562 = .ok (.ireturn, 1) := by decide +kernel
set_option maxRecDepth 20000 in
theorem dl_563 : decode code 563 = .ok (.aload_n 1, 1) := by decide +kernel
set_option maxRecDepth 20000 in
theorem dl_564 : decode code 564 = .ok (.aload_n 0, 1) := by decide +kernel
set_option maxRecDepth 20000 in
theorem dl_565 : decode code 565 = .ok (.iload_n 3, 1) := by decide +kernel
set_option maxRecDepth 20000 in
theorem dl_566 : decode code 566 = .ok (.iconst 1, 1) := by decide +kernel
set_option maxRecDepth 20000 in
theorem dl_567 : decode code 567 = .ok (.iadd, 1) := by decide +kernel
set_option maxRecDepth 20000 in
theorem dl_568 : decode code 568 = .ok (.iaload, 1) := by decide +kernel
set_option maxRecDepth 20000 in
theorem dl_569 : decode code 569 = .ok (.aload_n 0, 1) := by decide +kernel
set_option maxRecDepth 20000 in
theorem dl_570 : decode code 570 = .ok (.iload_n 3, 1) := by decide +kernel
set_option maxRecDepth 20000 in
theorem dl_571 : decode code 571 = .ok (.iconst 2, 1) := by decide +kernel
set_option maxRecDepth 20000 in
theorem dl_572 : decode code 572 = .ok (.iadd, 1) := by decide +kernel
set_option maxRecDepth 20000 in
theorem dl_573 : decode code 573 = .ok (.iaload, 1) := by decide +kernel
set_option maxRecDepth 20000 in
theorem dl_574 : decode code 574 = .ok (.aload_n 0, 1) := by decide +kernel
set_option maxRecDepth 20000 in
theorem dl_575 : decode code 575 = .ok (.iload_n 3, 1) := by decide +kernel
set_option maxRecDepth 20000 in
theorem dl_576 : decode code 576 = .ok (.iconst 3, 1) := by decide +kernel
set_option maxRecDepth 20000 in
theorem dl_577 : decode code 577 = .ok (.iadd, 1) := by decide +kernel
set_option maxRecDepth 20000 in
theorem dl_578 : decode code 578 = .ok (.iaload, 1) := by decide +kernel
set_option maxRecDepth 20000 in
theorem dl_579 : decode code 579 = .ok (.invokevirtual 76, 3) := by decide +kernel
set_option maxRecDepth 20000 in
theorem dl_582 : decode code 582 = .ok (.aload_n 2, 1) := by decide +kernel
set_option maxRecDepth 20000 in
theorem dl_583 : decode code 583 = .ok (.aload_n 0, 1) := by decide +kernel
set_option maxRecDepth 20000 in
theorem dl_584 : decode code 584 = .ok (.iload_n 3, 1) := by decide +kernel
set_option maxRecDepth 20000 in
theorem dl_585 : decode code 585 = .ok (.iconst 1, 1) := by decide +kernel
set_option maxRecDepth 20000 in
theorem dl_586 : decode code 586 = .ok (.iadd, 1) := by decide +kernel
set_option maxRecDepth 20000 in
theorem dl_587 : decode code 587 = .ok (.iaload, 1) := by decide +kernel
set_option maxRecDepth 20000 in
theorem dl_588 : decode code 588 = .ok (.aload_n 0, 1) := by decide +kernel
set_option maxRecDepth 20000 in
theorem dl_589 : decode code 589 = .ok (.iload_n 3, 1) := by decide +kernel
set_option maxRecDepth 20000 in
theorem dl_590 : decode code 590 = .ok (.iconst 2, 1) := by decide +kernel
set_option maxRecDepth 20000 in
theorem dl_591 : decode code 591 = .ok (.iadd, 1) := by decide +kernel
set_option maxRecDepth 20000 in
theorem dl_592 : decode code 592 = .ok (.iaload, 1) := by decide +kernel
set_option maxRecDepth 20000 in
theorem dl_593 : decode code 593 = .ok (.aload_n 0, 1) := by decide +kernel
set_option maxRecDepth 20000 in
theorem dl_594 : decode code 594 = .ok (.iload_n 3, 1) := by decide +kernel
set_option maxRecDepth 20000 in
theorem dl_595 : decode code 595 = .ok (.iconst 3, 1) := by decide +kernel
set_option maxRecDepth 20000 in
theorem dl_596 : decode code 596 = .ok (.iadd, 1) := by decide +kernel
set_option maxRecDepth 20000 in
theorem dl_597 : decode code 597 = .ok (.iaload, 1) := by decide +kernel
set_option maxRecDepth 20000 in
theorem dl_598 : decode code 598 = .ok (.invokevirtual 80, 3) := by decide +kernel
set_option maxRecDepth 20000 in
theorem dl_601 : decode code 601 = .ok (.if_icmp .eq 387, 3) := by decide +kernel
set_option maxRecDepth 20000 in
theorem dl_604 : decode code 604 = .ok (.iconst 0, 1) := by decide +kernel
set_option maxRecDepth 20000 in
theorem dl_605 : decode code 605 = .ok (.ireturn, 1) := by decide +kernel
set_option maxRecDepth 20000 in
theorem dl_606 : decode code 606 = .ok (.aload_n 1, 1) := by decide +kernel
set_option maxRecDepth 20000 in
theorem dl_607 : decode code 607 = .ok (.aload_n 0, 1) := by decide +kernel
set_option maxRecDepth 20000 in
theorem dl_608 : decode code 608 = .ok (.iload_n 3, 1) := by decide +kernel
set_option maxRecDepth 20000 in
theorem dl_609 : decode code 609 = .ok (.iconst 1, 1) := by decide +kernel
set_option maxRecDepth 20000 in
theorem dl_610 : decode code 610 = .ok (.iadd, 1) := by decide +kernel
set_option maxRecDepth 20000 in
theorem dl_611 : decode code 611 = .ok (.iaload, 1) := by decide +kernel
set_option maxRecDepth 20000 in
theorem dl_612 : decode code 612 = .ok (.aload_n 0, 1) := by decide +kernel
set_option maxRecDepth 20000 in
theorem dl_613 : decode code 613 = .ok (.iload_n 3, 1) := by decide +kernel
set_option maxRecDepth 20000 in
theorem dl_614 : decode code 614 = .ok (.iconst 2, 1) := by decide +kernel
set_option maxRecDepth 20000 in
theorem dl_615 : decode code 615 = .ok (.iadd, 1) := by decide +kernel
set_option maxRecDepth 20000 in
theorem dl_616 : decode code 616 = .ok (.iaload, 1) := by decide +kernel
set_option maxRecDepth 20000 in
theorem dl_617 : decode code 617 = .ok (.aload_n 0, 1) := by decide +kernel
set_option maxRecDepth 20000 in
theorem dl_618 : decode code 618 = .ok (.iload_n 3, 1) := by decide +kernel
set_option maxRecDepth 20000 in
theorem dl_619 : decode code 619 = .ok (.iconst 3, 1) := by decide +kernel
set_option maxRecDepth 20000 in
theorem dl_620 : decode code 620 = .ok (.iadd, 1) := by decide +kernel
set_option maxRecDepth 20000 in
theorem dl_621 : decode code 621 = .ok (.iaload, 1) := by decide +kernel
set_option maxRecDepth 20000 in
theorem dl_622 : decode code 622 = .ok (.aload_n 0, 1) := by decide +kernel
set_option maxRecDepth 20000 in
theorem dl_623 : decode code 623 = .ok (.iload_n 3, 1) := by decide +kernel
set_option maxRecDepth 20000 in
theorem dl_624 : decode code 624 = .ok (.iconst 4, 1) := by decide +kernel
set_option maxRecDepth 20000 in
theorem dl_625 : decode code 625 = .ok (.iadd, 1) := by decide +kernel
set_option maxRecDepth 20000 in
theorem dl_626 : decode code 626 = .ok (.iaload, 1) := by decide +kernel
set_option maxRecDepth 20000 in
theorem dl_627 : decode code 627 = .ok (.invokevirtual 81, 3) := by decide +kernel
set_option maxRecDepth 20000 in
theorem dl_630 : decode code 630 = .ok (.aload_n 2, 1) := by decide +kernel
set_option maxRecDepth 20000 in
theorem dl_631 : decode code 631 = .ok (.aload_n 0, 1) := by decide +kernel
set_option maxRecDepth 20000 in
theorem dl_632 : decode code 632 = .ok (.iload_n 3, 1) := by decide +kernel
set_option maxRecDepth 20000 in
theorem dl_633 : decode code 633 = .ok (.iconst 1, 1) := by decide +kernel
set_option maxRecDepth 20000 in
theorem dl_634 : decode code 634 = .ok (.iadd, 1) := by decide +kernel
set_option maxRecDepth 20000 in
theorem dl_635 : decode code 635 = .ok (.iaload, 1) := by decide +kernel
set_option maxRecDepth 20000 in
theorem dl_636 : decode code 636 = .ok (.aload_n 0, 1) := by decide +kernel
set_option maxRecDepth 20000 in
theorem dl_637 : decode code 637 = .ok (.iload_n 3, 1) := by decide +kernel
set_option maxRecDepth 20000 in
theorem dl_638 : decode code 638 = .ok (.iconst 2, 1) := by decide +kernel
set_option maxRecDepth 20000 in
theorem dl_639 : decode code 639 = .ok (.iadd, 1) := by decide +kernel
set_option maxRecDepth 20000 in
theorem dl_640 : decode code 640 = .ok (.iaload, 1) := by decide +kernel
set_option maxRecDepth 20000 in
theorem dl_641 : decode code 641 = .ok (.aload_n 0, 1) := by decide +kernel
set_option maxRecDepth 20000 in
theorem dl_642 : decode code 642 = .ok (.iload_n 3, 1) := by decide +kernel
set_option maxRecDepth 20000 in
theorem dl_643 : decode code 643 = .ok (.iconst 3, 1) := by decide +kernel
set_option maxRecDepth 20000 in
theorem dl_644 : decode code 644 = .ok (.iadd, 1) := by decide +kernel
set_option maxRecDepth 20000 in
theorem dl_645 : decode code 645 = .ok (.iaload, 1) := by decide +kernel
set_option maxRecDepth 20000 in
theorem dl_646 : decode code 646 = .ok (.aload_n 0, 1) := by decide +kernel
set_option maxRecDepth 20000 in
theorem dl_647 : decode code 647 = .ok (.iload_n 3, 1) := by decide +kernel
set_option maxRecDepth 20000 in
theorem dl_648 : decode code 648 = .ok (.iconst 4, 1) := by decide +kernel
set_option maxRecDepth 20000 in
theorem dl_649 : decode code 649 = .ok (.iadd, 1) := by decide +kernel
set_option maxRecDepth 20000 in
theorem dl_650 : decode code 650 = .ok (.iaload, 1) := by decide +kernel
set_option maxRecDepth 20000 in
theorem dl_651 : decode code 651 = .ok (.invokevirtual 85, 3) := by decide +kernel
set_option maxRecDepth 20000 in
theorem dl_654 : decode code 654 = .ok (.if_icmp .eq 334, 3) := by decide +kernel
set_option maxRecDepth 20000 in
theorem dl_657 : decode code 657 = .ok (.iconst 0, 1) := by decide +kernel
set_option maxRecDepth 20000 in
theorem dl_658 : decode code 658 = .ok (.ireturn, 1) := by decide +kernel
set_option maxRecDepth 20000 in
theorem dl_659 : decode code 659 = .ok (.aload_n 1, 1) := by decide +kernel
set_option maxRecDepth 20000 in
theorem dl_660 : decode code 660 = .ok (.aload_n 0, 1) := by decide +kernel
set_option maxRecDepth 20000 in
theorem dl_661 : decode code 661 = .ok (.iload_n 3, 1) := by decide +kernel
set_option maxRecDepth 20000 in
theorem dl_662 : decode code 662 = .ok (.iconst 1, 1) := by decide +kernel
set_option maxRecDepth 20000 in
theorem dl_663 : decode code 663 = .ok (.iadd, 1) := by decide +kernel
set_option maxRecDepth 20000 in
theorem dl_664 : decode code 664 = .ok (.iaload, 1) := by decide +kernel
set_option maxRecDepth 20000 in
theorem dl_665 : decode code 665 = .ok (.aload_n 0, 1) := by decide +kernel
set_option maxRecDepth 20000 in
theorem dl_666 : decode code 666 = .ok (.iload_n 3, 1) := by decide +kernel
set_option maxRecDepth 20000 in
theorem dl_667 : decode code 667 = .ok (.iconst 2, 1) := by decide +kernel
set_option maxRecDepth 20000 in
theorem dl_668 : decode code 668 = .ok (.iadd, 1) := by decide +kernel
set_option maxRecDepth 20000 in
theorem dl_669 : decode code 669 = .ok (.iaload, 1) := by decide +kernel
set_option maxRecDepth 20000 in
theorem dl_670 : decode code 670 = .ok (.invokevirtual 86, 3) := by decide +kernel
set_option maxRecDepth 20000 in
theorem dl_673 : decode code 673 = .ok (.aload_n 2, 1) := by decide +kernel
set_option maxRecDepth 20000 in
theorem dl_674 : decode code 674 = .ok (.aload_n 0, 1) := by decide +kernel
set_option maxRecDepth 20000 in
theorem dl_675 : decode code 675 = .ok (.iload_n 3, 1) := by decide +kernel
set_option maxRecDepth 20000 in
theorem dl_676 : decode code 676 = .ok (.iconst 1, 1) := by decide +kernel
set_option maxRecDepth 20000 in
theorem dl_677 : decode code 677 = .ok (.iadd, 1) := by decide +kernel
set_option maxRecDepth 20000 in
theorem dl_678 : decode code 678 = .ok (.iaload, 1) := by decide +kernel
set_option maxRecDepth 20000 in
theorem dl_679 : decode code 679 = .ok (.aload_n 0, 1) := by decide +kernel
set_option maxRecDepth 20000 in
theorem dl_680 : decode code 680 = .ok (.iload_n 3, 1) := by decide +kernel
set_option maxRecDepth 20000 in
theorem dl_681 : decode code 681 = .ok (.iconst 2, 1) := by decide +kernel
set_option maxRecDepth 20000 in
theorem dl_682 : decode code 682 = .ok (.iadd, 1) := by decide +kernel
set_option maxRecDepth 20000 in
theorem dl_683 : decode code 683 = .ok (.iaload, 1) := by decide +kernel
set_option maxRecDepth 20000 in
theorem dl_684 : decode code 684 = .ok (.invokevirtual 89, 3) := by decide +kernel
set_option maxRecDepth 20000 in
theorem dl_687 : decode code 687 = .ok (.if_icmp .eq 301, 3) := by decide +kernel
set_option maxRecDepth 20000 in
theorem dl_690 : decode code 690 = .ok (.iconst 0, 1) := by decide +kernel
set_option maxRecDepth 20000 in
theorem dl_691 : decode code 691 = .ok (.ireturn, 1) := by decide +kernel
set_option maxRecDepth 20000 in
theorem dl_692 : decode code 692 = .ok (.aload_n 1, 1) := by decide +kernel
set_option maxRecDepth 20000 in
theorem dl_693 : decode code 693 = .ok (.aload_n 0, 1) := by decide +kernel
set_option maxRecDepth 20000 in
theorem dl_694 : decode code 694 = .ok (.iload_n 3, 1) := by decide +kernel
set_option maxRecDepth 20000 in
theorem dl_695 : decode code 695 = .ok (.iconst 1, 1) := by decide +kernel
set_option maxRecDepth 20000 in
theorem dl_696 : decode code 696 = .ok (.iadd, 1) := by decide +kernel
set_option maxRecDepth 20000 in
theorem dl_697 : decode code 697 = .ok (.iaload, 1) := by decide +kernel
set_option maxRecDepth 20000 in
theorem dl_698 : decode code 698 = .ok (.aload_n 0, 1) := by decide +kernel
set_option maxRecDepth 20000 in
theorem dl_699 : decode code 699 = .ok (.iload_n 3, 1) := by decide +kernel
set_option maxRecDepth 20000 in
theorem dl_700 : decode code 700 = .ok (.iconst 2, 1) := by decide +kernel
set_option maxRecDepth 20000 in
theorem dl_701 : decode code 701 = .ok (.iadd, 1) := by decide +kernel
set_option maxRecDepth 20000 in
theorem dl_702 : decode code 702 = .ok (.iaload, 1) := by decide +kernel
set_option maxRecDepth 20000 in
theorem dl_703 : decode code 703 = .ok (.invokevirtual 90, 3) := by decide +kernel
set_option maxRecDepth 20000 in
theorem dl_706 : decode code 706 = .ok (.aload_n 2, 1) := by decide +kernel
set_option maxRecDepth 20000 in
theorem dl_707 : decode code 707 = .ok (.aload_n 0, 1) := by decide +kernel
set_option maxRecDepth 20000 in
theorem dl_708 : decode code 708 = .ok (.iload_n 3, 1) := by decide +kernel
set_option maxRecDepth 20000 in
theorem dl_709 : decode code 709 = .ok (.iconst 1, 1) := by decide +kernel
set_option maxRecDepth 20000 in
theorem dl_710 : decode code 710 = .ok (.iadd, 1) := by decide +kernel
set_option maxRecDepth 20000 in
theorem dl_711 : decode code 711 = .ok (.iaload, 1) := by decide +kernel
set_option maxRecDepth 20000 in
theorem dl_712 : decode code 712 = .ok (.aload_n 0, 1) := by decide +kernel
set_option maxRecDepth 20000 in
theorem dl_713 : decode code 713 = .ok (.iload_n 3, 1) := by decide +kernel
set_option maxRecDepth 20000 in
theorem dl_714 : decode code 714 = .ok (.iconst 2, 1) := by decide +kernel
set_option maxRecDepth 20000 in
theorem dl_715 : decode code 715 = .ok (.iadd, 1) := by decide +kernel
set_option maxRecDepth 20000 in
theorem dl_716 : decode code 716 = .ok (.iaload, 1) := by decide +kernel
set_option maxRecDepth 20000 in
theorem dl_717 : decode code 717 = .ok (.invokevirtual 93, 3) := by decide +kernel
set_option maxRecDepth 20000 in
theorem dl_720 : decode code 720 = .ok (.if_icmp .eq 268, 3) := by decide +kernel
set_option maxRecDepth 20000 in
theorem dl_723 : decode code 723 = .ok (.iconst 0, 1) := by decide +kernel
set_option maxRecDepth 20000 in
theorem dl_724 : decode code 724 = .ok (.ireturn, 1) := by decide +kernel
set_option maxRecDepth 20000 in
theorem dl_725 : decode code 725 = .ok (.aload_n 1, 1) := by decide +kernel
set_option maxRecDepth 20000 in
theorem dl_726 : decode code 726 = .ok (.invokevirtual 94, 3) := by decide +kernel
set_option maxRecDepth 20000 in
theorem dl_729 : decode code 729 = .ok (.aload_n 2, 1) := by decide +kernel
set_option maxRecDepth 20000 in
theorem dl_730 : decode code 730 = .ok (.invokevirtual 97, 3) := by decide +kernel
set_option maxRecDepth 20000 in
theorem dl_733 : decode code 733 = .ok (.if_icmp .eq 255, 3) := by decide +kernel
set_option maxRecDepth 20000 in
theorem dl_736 : decode code 736 = .ok (.iconst 0, 1) := by decide +kernel
set_option maxRecDepth 20000 in
theorem dl_737 : decode code 737 = .ok (.ireturn, 1) := by decide +kernel
set_option maxRecDepth 20000 in
theorem dl_738 : decode code 738 = .ok (.aload_n 1, 1) := by decide +kernel
set_option maxRecDepth 20000 in
theorem dl_739 : decode code 739 = .ok (.aload_n 0, 1) := by decide +kernel
set_option maxRecDepth 20000 in
theorem dl_740 : decode code 740 = .ok (.iload_n 3, 1) := by decide +kernel
set_option maxRecDepth 20000 in
theorem dl_741 : decode code 741 = .ok (.iconst 1, 1) := by decide +kernel
set_option maxRecDepth 20000 in
theorem dl_742 : decode code 742 = .ok (.iadd, 1) := by decide +kernel
set_option maxRecDepth 20000 in
theorem dl_743 : decode code 743 = .ok (.iaload, 1) := by decide +kernel
set_option maxRecDepth 20000 in
theorem dl_744 : decode code 744 = .ok (.aload_n 0, 1) := by decide +kernel
set_option maxRecDepth 20000 in
theorem dl_745 : decode code 745 = .ok (.iload_n 3, 1) := by decide +kernel
set_option maxRecDepth 20000 in
theorem dl_746 : decode code 746 = .ok (.iconst 2, 1) := by decide +kernel
set_option maxRecDepth 20000 in
theorem dl_747 : decode code 747 = .ok (.iadd, 1) := by decide +kernel
set_option maxRecDepth 20000 in
theorem dl_748 : decode code 748 = .ok (.iaload, 1) := by decide +kernel
set_option maxRecDepth 20000 in
theorem dl_749 : decode code 749 = .ok (.invokevirtual 98, 3) := by decide +kernel
set_option maxRecDepth 20000 in
theorem dl_752 : decode code 752 = .ok (.aload_n 2, 1) := by decide +kernel
set_option maxRecDepth 20000 in
theorem dl_753 : decode code 753 = .ok (.aload_n 0, 1) := by decide +kernel
set_option maxRecDepth 20000 in
theorem dl_754 : decode code 754 = .ok (.iload_n 3, 1) := by decide +kernel
set_option maxRecDepth 20000 in
theorem dl_755 : decode code 755 = .ok (.iconst 1, 1) := by decide +kernel
set_option maxRecDepth 20000 in
theorem dl_756 : decode code 756 = .ok (.iadd, 1) := by decide +kernel
set_option maxRecDepth 20000 in
theorem dl_757 : decode code 757 = .ok (.iaload, 1) := by decide +kernel
set_option maxRecDepth 20000 in
theorem dl_758 : decode code 758 = .ok (.aload_n 0, 1) := by decide +kernel
set_option maxRecDepth 20000 in
theorem dl_759 : decode code 759 = .ok (.iload_n 3, 1) := by decide +kernel
set_option maxRecDepth 20000 in
theorem dl_760 : decode code 760 = .ok (.iconst 2, 1) := by decide +kernel
set_option maxRecDepth 20000 in
theorem dl_761 : decode code 761 = .ok (.iadd, 1) := by decide +kernel
set_option maxRecDepth 20000 in
theorem dl_762 : decode code 762 = .ok (.iaload, 1) := by decide +kernel
set_option maxRecDepth 20000 in
theorem dl_763 : decode code 763 = .ok (.invokevirtual 101, 3) := by decide +kernel
set_option maxRecDepth 20000 in
theorem dl_766 : decode code 766 = .ok (.if_icmp .eq 222, 3) := by decide +kernel
set_option maxRecDepth 20000 in
theorem dl_769 : decode code 769 = .ok (.iconst 0, 1) := by decide +kernel
set_option maxRecDepth 20000 in
theorem dl_770 : decode code 770 = .ok (.ireturn, 1) := by decide +kernel
set_option maxRecDepth 20000 in
theorem dl_771 : decode code 771 = .ok (.aload_n 1, 1) := by decide +kernel
set_option maxRecDepth 20000 in
theorem dl_772 : decode code 772 = .ok (.aload_n 0, 1) := by decide +kernel
set_option maxRecDepth 20000 in
theorem dl_773 : decode code 773 = .ok (.iload_n 3, 1) := by decide +kernel
set_option maxRecDepth 20000 in
theorem dl_774 : decode code 774 = .ok (.iconst 1, 1) := by decide +kernel
set_option maxRecDepth 20000 in
theorem dl_775 : decode code 775 = .ok (.iadd, 1) := by decide +kernel
set_option maxRecDepth 20000 in
theorem dl_776 : decode code 776 = .ok (.iaload, 1) := by decide +kernel
set_option maxRecDepth 20000 in
theorem dl_777 : decode code 777 = .ok (.invokevirtual 102, 3) := by decide +kernel
set_option maxRecDepth 20000 in
theorem dl_780 : decode code 780 = .ok (.aload_n 2, 1) := by decide +kernel
set_option maxRecDepth 20000 in
theorem dl_781 : decode code 781 = .ok (.aload_n 0, 1) := by decide +kernel
set_option maxRecDepth 20000 in
theorem dl_782 : decode code 782 = .ok (.iload_n 3, 1) := by decide +kernel
set_option maxRecDepth 20000 in
theorem dl_783 : decode code 783 = .ok (.iconst 1, 1) := by decide +kernel
set_option maxRecDepth 20000 in
theorem dl_784 : decode code 784 = .ok (.iadd, 1) := by decide +kernel
set_option maxRecDepth 20000 in
theorem dl_785 : decode code 785 = .ok (.iaload, 1) := by decide +kernel
set_option maxRecDepth 20000 in
theorem dl_786 : decode code 786 = .ok (.invokevirtual 105, 3) := by decide +kernel
set_option maxRecDepth 20000 in
theorem dl_789 : decode code 789 = .ok (.if_icmp .eq 199, 3) := by decide +kernel
set_option maxRecDepth 20000 in
theorem dl_792 : decode code 792 = .ok (.iconst 0, 1) := by decide +kernel
set_option maxRecDepth 20000 in
theorem dl_793 : decode code 793 = .ok (.ireturn, 1) := by decide +kernel
set_option maxRecDepth 20000 in
theorem dl_794 : decode code 794 = .ok (.aload_n 1, 1) := by decide +kernel
set_option maxRecDepth 20000 in
theorem dl_795 : decode code 795 = .ok (.aload_n 0, 1) := by decide +kernel
set_option maxRecDepth 20000 in
theorem dl_796 : decode code 796 = .ok (.iload_n 3, 1) := by decide +kernel
set_option maxRecDepth 20000 in
theorem dl_797 : decode code 797 = .ok (.iconst 1, 1) := by decide +kernel
set_option maxRecDepth 20000 in
theorem dl_798 : decode code 798 = .ok (.iadd, 1) := by decide +kernel
set_option maxRecDepth 20000 in
theorem dl_799 : decode code 799 = .ok (.iaload, 1) := by decide +kernel
set_option maxRecDepth 20000 in
theorem dl_800 : decode code 800 = .ok (.aload_n 0, 1) := by decide +kernel
set_option maxRecDepth 20000 in
theorem dl_801 : decode code 801 = .ok (.iload_n 3, 1) := by decide +kernel
set_option maxRecDepth 20000 in
theorem dl_802 : decode code 802 = .ok (.iconst 2, 1) := by decide +kernel
set_option maxRecDepth 20000 in
theorem dl_803 : decode code 803 = .ok (.iadd, 1) := by decide +kernel
set_option maxRecDepth 20000 in
theorem dl_804 : decode code 804 = .ok (.iaload, 1) := by decide +kernel
set_option maxRecDepth 20000 in
theorem dl_805 : decode code 805 = .ok (.aload_n 0, 1) := by decide +kernel
set_option maxRecDepth 20000 in
theorem dl_806 : decode code 806 = .ok (.iload_n 3, 1) := by decide +kernel
set_option maxRecDepth 20000 in
theorem dl_807 : decode code 807 = .ok (.iconst 3, 1) := by decide +kernel
set_option maxRecDepth 20000 in
theorem dl_808 : decode code 808 = .ok (.iadd, 1) := by decide +kernel
set_option maxRecDepth 20000 in
theorem dl_809 : decode code 809 = .ok (.iaload, 1) := by decide +kernel
set_option maxRecDepth 20000 in
theorem dl_810 : decode code 810 = .ok (.invokevirtual 106, 3) := by decide +kernel
set_option maxRecDepth 20000 in
theorem dl_813 : decode code 813 = .ok (.aload_n 2, 1) := by decide +kernel
set_option maxRecDepth 20000 in
theorem dl_814 : decode code 814 = .ok (.aload_n 0, 1) := by decide +kernel
set_option maxRecDepth 20000 in
theorem dl_815 : decode code 815 = .ok (.iload_n 3, 1) := by decide +kernel
set_option maxRecDepth 20000 in
theorem dl_816 : decode code 816 = .ok (.iconst 1, 1) := by decide +kernel
set_option maxRecDepth 20000 in
theorem dl_817 : decode code 817 = .ok (.iadd, 1) := by decide +kernel
set_option maxRecDepth 20000 in
theorem dl_818 : decode code 818 = .ok (.iaload, 1) := by decide +kernel
set_option maxRecDepth 20000 in
theorem dl_819 : decode code 819 = .ok (.aload_n 0, 1) := by decide +kernel
set_option maxRecDepth 20000 in
theorem dl_820 : decode code 820 = .ok (.iload_n 3, 1) := by decide +kernel
set_option maxRecDepth 20000 in
theorem dl_821 : decode code 821 = .ok (.iconst 2, 1) := by decide +kernel
set_option maxRecDepth 20000 in
theorem dl_822 : decode code 822 = .ok (.iadd, 1) := by decide +kernel
set_option maxRecDepth 20000 in
theorem dl_823 : decode code 823 = .ok (.iaload, 1) := by decide +kernel
set_option maxRecDepth 20000 in
theorem dl_824 : decode code 824 = .ok (.aload_n 0, 1) := by decide +kernel
set_option maxRecDepth 20000 in
theorem dl_825 : decode code 825 = .ok (.iload_n 3, 1) := by decide +kernel
set_option maxRecDepth 20000 in
theorem dl_826 : decode code 826 = .ok (.iconst 3, 1) := by decide +kernel
set_option maxRecDepth 20000 in
theorem dl_827 : decode code 827 = .ok (.iadd, 1) := by decide +kernel
set_option maxRecDepth 20000 in
theorem dl_828 : decode code 828 = .ok (.iaload, 1) := by decide +kernel
set_option maxRecDepth 20000 in
theorem dl_829 : decode code 829 = .ok (.invokevirtual 109, 3) := by decide +kernel
set_option maxRecDepth 20000 in
theorem dl_832 : decode code 832 = .ok (.if_icmp .eq 156, 3) := by decide +kernel
set_option maxRecDepth 20000 in
theorem dl_835 : decode code 835 = .ok (.iconst 0, 1) := by decide +kernel
set_option maxRecDepth 20000 in
theorem dl_836 : decode code 836 = .ok (.ireturn, 1) := by decide +kernel
set_option maxRecDepth 20000 in
theorem dl_837 : decode code 837 = .ok (.aload_n 1, 1) := by decide +kernel
set_option maxRecDepth 20000 in
theorem dl_838 : decode code 838 = .ok (.aload_n 0, 1) := by decide +kernel
set_option maxRecDepth 20000 in
theorem dl_839 : decode code 839 = .ok (.iload_n 3, 1) := by decide +kernel
set_option maxRecDepth 20000 in
theorem dl_840 : decode code 840 = .ok (.iconst 1, 1) := by decide +kernel
set_option maxRecDepth 20000 in
theorem dl_841 : decode code 841 = .ok (.iadd, 1) := by decide +kernel
set_option maxRecDepth 20000 in
theorem dl_842 : decode code 842 = .ok (.iaload, 1) := by decide +kernel
set_option maxRecDepth 20000 in
theorem dl_843 : decode code 843 = .ok (.invokevirtual 110, 3) := by decide +kernel
set_option maxRecDepth 20000 in
theorem dl_846 : decode code 846 = .ok (.aload_n 2, 1) := by decide +kernel
set_option maxRecDepth 20000 in
theorem dl_847 : decode code 847 = .ok (.aload_n 0, 1) := by decide +kernel
set_option maxRecDepth 20000 in
theorem dl_848 : decode code 848 = .ok (.iload_n 3, 1) := by decide +kernel
set_option maxRecDepth 20000 in
theorem dl_849 : decode code 849 = .ok (.iconst 1, 1) := by decide +kernel
set_option maxRecDepth 20000 in
theorem dl_850 : decode code 850 = .ok (.iadd, 1) := by decide +kernel
set_option maxRecDepth 20000 in
theorem dl_851 : decode code 851 = .ok (.iaload, 1) := by decide +kernel
set_option maxRecDepth 20000 in
theorem dl_852 : decode code 852 = .ok (.invokevirtual 113, 3) := by decide +kernel
set_option maxRecDepth 20000 in
theorem dl_855 : decode code 855 = .ok (.if_icmp .eq 133, 3) := by decide +kernel
set_option maxRecDepth 20000 in
theorem dl_858 : decode code 858 = .ok (.iconst 0, 1) := by decide +kernel
set_option maxRecDepth 20000 in
theorem dl_859 : decode code 859 = .ok (.ireturn, 1) := by decide +kernel
set_option maxRecDepth 20000 in
theorem dl_860 : decode code 860 = .ok (.aload_n 1, 1) := by decide +kernel
set_option maxRecDepth 20000 in
theorem dl_861 : decode code 861 = .ok (.aload_n 0, 1) := by decide +kernel
set_option maxRecDepth 20000 in
theorem dl_862 : decode code 862 = .ok (.iload_n 3, 1) := by decide +kernel
set_option maxRecDepth 20000 in
theorem dl_863 : decode code 863 = .ok (.iconst 1, 1) := by decide +kernel
set_option maxRecDepth 20000 in
theorem dl_864 : decode code 864 = .ok (.iadd, 1) := by decide +kernel
set_option maxRecDepth 20000 in
theorem dl_865 : decode code 865 = .ok (.iaload, 1) := by decide +kernel
set_option maxRecDepth 20000 in
theorem dl_866 : decode code 866 = .ok (.aload_n 0, 1) := by decide +kernel
set_option maxRecDepth 20000 in
theorem dl_867 : decode code 867 = .ok (.iload_n 3, 1) := by decide +kernel
set_option maxRecDepth 20000 in
theorem dl_868 : decode code 868 = .ok (.iconst 2, 1) := by decide +kernel
set_option maxRecDepth 20000 in
theorem dl_869 : decode code 869 = .ok (.iadd, 1) := by decide +kernel
set_option maxRecDepth 20000 in
theorem dl_870 : decode code 870 = .ok (.iaload, 1) := by decide +kernel
set_option maxRecDepth 20000 in
theorem dl_871 : decode code 871 = .ok (.invokevirtual 114, 3) := by decide +kernel
set_option maxRecDepth 20000 in
theorem dl_874 : decode code 874 = .ok (.aload_n 2, 1) := by decide +kernel
set_option maxRecDepth 20000 in
theorem dl_875 : decode code 875 = .ok (.aload_n 0, 1) := by decide +kernel
set_option maxRecDepth 20000 in
theorem dl_876 : decode code 876 = .ok (.iload_n 3, 1) := by decide +kernel
set_option maxRecDepth 20000 in
theorem dl_877 : decode code 877 = .ok (.iconst 1, 1) := by decide +kernel
set_option maxRecDepth 20000 in
theorem dl_878 : decode code 878 = .ok (.iadd, 1) := by decide +kernel
set_option maxRecDepth 20000 in
theorem dl_879 : decode code 879 = .ok (.iaload, 1) := by decide +kernel
set_option maxRecDepth 20000 in
theorem dl_880 : decode code 880 = .ok (.aload_n 0, 1) := by decide +kernel
set_option maxRecDepth 20000 in
theorem dl_881 : decode code 881 = .ok (.iload_n 3, 1) := by decide +kernel
set_option maxRecDepth 20000 in
theorem dl_882 : decode code 882 = .ok (.iconst 2, 1) := by decide +kernel
set_option maxRecDepth 20000 in
theorem dl_883 : decode code 883 = .ok (.iadd, 1) := by decide +kernel
set_option maxRecDepth 20000 in
theorem dl_884 : decode code 884 = .ok (.iaload, 1) := by decide +kernel
set_option maxRecDepth 20000 in
theorem dl_885 : decode code 885 = .ok (.invokevirtual 117, 3) := by decide +kernel
set_option maxRecDepth 20000 in
theorem dl_888 : decode code 888 = .ok (.if_icmp .eq 100, 3) := by decide +kernel
set_option maxRecDepth 20000 in
theorem dl_891 : decode code 891 = .ok (.iconst 0, 1) := by decide +kernel
set_option maxRecDepth 20000 in
theorem dl_892 : decode code 892 = .ok (.ireturn, 1) := by decide +kernel
set_option maxRecDepth 20000 in
theorem dl_893 : decode code 893 = .ok (.aload_n 1, 1) := by decide +kernel
set_option maxRecDepth 20000 in
theorem dl_894 : decode code 894 = .ok (.invokevirtual 118, 3) := by decide +kernel
set_option maxRecDepth 20000 in
theorem dl_897 : decode code 897 = .ok (.aload_n 2, 1) := by decide +kernel
set_option maxRecDepth 20000 in
theorem dl_898 : decode code 898 = .ok (.invokevirtual 121, 3) := by decide +kernel
set_option maxRecDepth 20000 in
theorem dl_901 : decode code 901 = .ok (.if_icmp .eq 87, 3) := by decide +kernel
set_option maxRecDepth 20000 in
theorem dl_904 : decode code 904 = .ok (.iconst 0, 1) := by decide +kernel
set_option maxRecDepth 20000 in
theorem dl_905 : decode code 905 = .ok (.ireturn, 1) := by decide +kernel
set_option maxRecDepth 20000 in
theorem dl_906 : decode code 906 = .ok (.aload_n 1, 1) := by decide +kernel
set_option maxRecDepth 20000 in
theorem dl_907 : decode code 907 = .ok (.invokevirtual 122, 3) := by decide +kernel
set_option maxRecDepth 20000 in
theorem dl_910 : decode code 910 = .ok (.aload_n 2, 1) := by decide +kernel
set_option maxRecDepth 20000 in
theorem dl_911 : decode code 911 = .ok (.invokevirtual 125, 3) := by decide +kernel
set_option maxRecDepth 20000 in
theorem dl_914 : decode code 914 = .ok (.if_icmp .eq 74, 3) := by decide +kernel
set_option maxRecDepth 20000 in
theorem dl_917 : decode code 917 = .ok (.iconst 0, 1) := by decide +kernel
set_option maxRecDepth 20000 in
theorem dl_918 : decode code 918 = .ok (.ireturn, 1) := by decide +kernel
set_option maxRecDepth 20000 in
theorem dl_919 : decode code 919 = .ok (.aload_n 1, 1) := by decide +kernel
set_option maxRecDepth 20000 in
theorem dl_920 : decode code 920 = .ok (.aload_n 0, 1) := by decide +kernel
set_option maxRecDepth 20000 in
theorem dl_921 : decode code 921 = .ok (.iload_n 3, 1) := by decide +kernel
set_option maxRecDepth 20000 in
theorem dl_922 : decode code 922 = .ok (.iconst 1, 1) := by decide +kernel
set_option maxRecDepth 20000 in
theorem dl_923 : decode code 923 = .ok (.iadd, 1) := by decide +kernel
set_option maxRecDepth 20000 in
theorem dl_924 : decode code 924 = .ok (.iaload, 1) := by decide +kernel
set_option maxRecDepth 20000 in
theorem dl_925 : decode code 925 = .ok (.invokevirtual 126, 3) := by decide +kernel
set_option maxRecDepth 20000 in
theorem dl_928 : decode code 928 = .ok (.aload_n 2, 1) := by decide +kernel
set_option maxRecDepth 20000 in
theorem dl_929 : decode code 929 = .ok (.aload_n 0, 1) := by decide +kernel
set_option maxRecDepth 20000 in
theorem dl_930 : decode code 930 = .ok (.iload_n 3, 1) := by decide +kernel
set_option maxRecDepth 20000 in
theorem dl_931 : decode code 931 = .ok (.iconst 1, 1) := by decide +kernel
set_option maxRecDepth 20000 in
theorem dl_932 : decode code 932 = .ok (.iadd, 1) := by decide +kernel
set_option maxRecDepth 20000 in
theorem dl_933 : decode code 933 = .ok (.iaload, 1) := by decide +kernel
set_option maxRecDepth 20000 in
theorem dl_934 : decode code 934 = .ok (.invokevirtual 129, 3) := by decide +kernel
set_option maxRecDepth 20000 in
theorem dl_937 : decode code 937 = .ok (.if_icmp .eq 51, 3) := by decide +kernel
set_option maxRecDepth 20000 in
theorem dl_940 : decode code 940 = .ok (.iconst 0, 1) := by decide +kernel
set_option maxRecDepth 20000 in
theorem dl_941 : decode code 941 = .ok (.ireturn, 1) := by decide +kernel
set_option maxRecDepth 20000 in
theorem dl_942 : decode code 942 = .ok (.aload_n 1, 1) := by decide +kernel
set_option maxRecDepth 20000 in
theorem dl_943 : decode code 943 = .ok (.aload_n 0, 1) := by decide +kernel
set_option maxRecDepth 20000 in
theorem dl_944 : decode code 944 = .ok (.iload_n 3, 1) := by decide +kernel
set_option maxRecDepth 20000 in
theorem dl_945 : decode code 945 = .ok (.iconst 1, 1) := by decide +kernel
set_option maxRecDepth 20000 in
theorem dl_946 : decode code 946 = .ok (.iadd, 1) := by decide +kernel
set_option maxRecDepth 20000 in
theorem dl_947 : decode code 947 = .ok (.iaload, 1) := by decide +kernel
set_option maxRecDepth 20000 in
theorem dl_948 : decode code 948 = .ok (.invokevirtual 130, 3) := by decide +kernel
set_option maxRecDepth 20000 in
theorem dl_951 : decode code 951 = .ok (.aload_n 2, 1) := by decide +kernel
set_option maxRecDepth 20000 in
theorem dl_952 : decode code 952 = .ok (.aload_n 0, 1) := by decide +kernel
set_option maxRecDepth 20000 in
theorem dl_953 : decode code 953 = .ok (.iload_n 3, 1) := by decide +kernel
set_option maxRecDepth 20000 in
theorem dl_954 : decode code 954 = .ok (.iconst 1, 1) := by decide +kernel
set_option maxRecDepth 20000 in
theorem dl_955 : decode code 955 = .ok (.iadd, 1) := by decide +kernel
set_option maxRecDepth 20000 in
theorem dl_956 : decode code 956 = .ok (.iaload, 1) := by decide +kernel
set_option maxRecDepth 20000 in
theorem dl_957 : decode code 957 = .ok (.invokevirtual 133, 3) := by decide +kernel
set_option maxRecDepth 20000 in
theorem dl_960 : decode code 960 = .ok (.if_icmp .eq 28, 3) := by decide +kernel
set_option maxRecDepth 20000 in
theorem dl_963 : decode code 963 = .ok (.iconst 0, 1) := by decide +kernel
set_option maxRecDepth 20000 in
theorem dl_964 : decode code 964 = .ok (.ireturn, 1) := by decide +kernel
set_option maxRecDepth 20000 in
theorem dl_965 : decode code 965 = .ok (.aload_n 1, 1) := by decide +kernel
set_option maxRecDepth 20000 in
theorem dl_966 : decode code 966 = .ok (.aload_n 0, 1) := by decide +kernel
set_option maxRecDepth 20000 in
theorem dl_967 : decode code 967 = .ok (.iload_n 3, 1) := by decide +kernel
set_option maxRecDepth 20000 in
theorem dl_968 : decode code 968 = .ok (.iconst 1, 1) := by decide +kernel
set_option maxRecDepth 20000 in
theorem dl_969 : decode code 969 = .ok (.iadd, 1) := by decide +kernel
set_option maxRecDepth 20000 in
theorem dl_970 : decode code 970 = .ok (.iaload, 1) := by decide +kernel
set_option maxRecDepth 20000 in
theorem dl_971 : decode code 971 = .ok (.invokevirtual 134, 3) := by decide +kernel
set_option maxRecDepth 20000 in
theorem dl_974 : decode code 974 = .ok (.aload_n 2, 1) := by decide +kernel
set_option maxRecDepth 20000 in
theorem dl_975 : decode code 975 = .ok (.aload_n 0, 1) := by decide +kernel
set_option maxRecDepth 20000 in
theorem dl_976 : decode code 976 = .ok (.iload_n 3, 1) := by decide +kernel
set_option maxRecDepth 20000 in
theorem dl_977 : decode code 977 = .ok (.iconst 1, 1) := by decide +kernel
set_option maxRecDepth 20000 in
theorem dl_978 : decode code 978 = .ok (.iadd, 1) := by decide +kernel
set_option maxRecDepth 20000 in
theorem dl_979 : decode code 979 = .ok (.iaload, 1) := by decide +kernel
set_option maxRecDepth 20000 in
theorem dl_980 : decode code 980 = .ok (.invokevirtual 137, 3) := by decide +kernel
set_option maxRecDepth 20000 in
theorem dl_983 : decode code 983 = .ok (.if_icmp .eq 5, 3) := by decide +kernel
set_option maxRecDepth 20000 in
theorem dl_986 : decode code 986 = .ok (.iconst 0, 1) := by decide +kernel
set_option maxRecDepth 20000 in
theorem dl_987 : decode code 987 = .ok (.ireturn, 1) := by decide +kernel
set_option maxRecDepth 20000 in
theorem dl_988 : decode code 988 = .ok (.iinc 3 5, 3) := by decide +kernel
set_option maxRecDepth 20000 in
theorem dl_991 : decode code 991 = .ok (.goto (-973), 3) := by decide +kernel
set_option maxRecDepth 20000 in
theorem dl_994 : decode code 994 = .ok (.iconst 1, 1) := by decide +kernel
set_option maxRecDepth 20000 in
theorem dl_995 : decode code 995 = .ok (.ireturn, 1) := by decide +kernel
def gyS (X : gX) (bs Ln : Nat) (sc : Nat → Int32) : Prop := gKn gm_law X ∧ va_X bs Ln sc (xs X) (xH X) ∧ bs < (xH X).size ∧ ¬ gA (xZ X) bs ∧ Ln ≤ 2560 ∧ gLive (xZ X) ∧ xn X = 4
def gyL (X : gX) (bs i : Nat) : List (Nat × Value) := [(3, .int (Int32.ofNat i)), (2, .ref (zb (xZ X) + 83)), (1, .ref (zb (xZ X) + 0)), (0, .ref bs)]
def gyW (X : gX) (H : Heap) (locs : List Loc) (pc : Nat) (ls : Array Slot) (st : List Value) : Prop :=
  W (xp X) (zl (xZ X)) (xe X) (xR X) (xs X) (xm X) (xa X) (xb X) (xme X) (xc X) H locs (xce X) (xsl X) (xQ X) (F0 (xm X) pc ls st)
def gyH (X : gX) (bs : Nat) (h : gH) (i : Nat) (H : Heap) (locs : List Loc) (ls : Array Slot) : Prop :=
  gRg h ∧ va_P (zD (xZ X)) gcls (gW (xZ X) h) H ∧ va_S (gA (xZ X)) (xH X) H locs ∧ lv_has ls 4 (gyL X bs i)
def gy (x : Option gO) (o : gO) (X : gX) (bs Ln : Nat) (sc : Nat → Int32) (h : gH) (pc i : Nat) (st : List Value) : Prop :=
  x = some o → gyS X bs Ln sc → ∀ (H : Heap) (locs : List Loc) (ls : Array Slot), gyH X bs h i H locs ls → gyW X H locs pc ls st
theorem gy_none {o : gO} {X : gX} {bs Ln : Nat} {sc : Nat → Int32} {h : gH} {pc i : Nat} {st : List Value} : gy none o X bs Ln sc h pc i st := fun hx => by cases hx
theorem gofn {i : Nat} (hi : i < 1000000) : (Int32.ofNat i).toNatClampNeg = i := by
  show (Int32.ofInt (i : Int)).toInt.toNat = i
  rw [g32 ⟨by omega, by omega⟩]; rfl
theorem gofp {i : Nat} (hi : i < 1000000) : ¬ (Int32.ofNat i) < 0 := by
  show ¬ (Int32.ofInt (i : Int)) < 0
  rw [gof0, glt ⟨by omega, by omega⟩ gR0]; omega
theorem gvpn {i n : Nat} (hi : i < 1000000) (hn : i < n) : vp_in (Int32.ofNat i) n := fun q => by
  rcases q with q | q
  · exact gofp hi q
  · rw [gofn hi] at q; omega
section GY
variable {x y : Option gO} {o : gO} {X : gX} {bs Ln : Nat} {sc : Nat → Int32} {h : gH} {pc i : Nat} {st : List Value}
theorem y_scr0 (d0 : decode code pc = .ok (.aload_n 0, 1)) (d1 : decode code (pc + 1) = .ok (.iload_n 3, 1)) (d2 : decode code (pc + 2) = .ok (.iaload, 1)) (hi : i < Ln) (k : gy x o X bs Ln sc h (pc + 3) i (.int (Int32.ofInt (sc i).toInt) :: st)) : gy x o X bs Ln sc h pc i st := by
  intro hx hK H locs ls hS
  have hl := hS.2.2.2
  have hLn := hK.2.2.2.2.1
  refine lv_aload_n hK.1.1 hK.1.2.1 d0 rfl (lv_at hl 3 rfl) ?_
  refine lv_iload_n hK.1.1 hK.1.2.1 d1 rfl (lv_at hl 0 rfl) ?_
  refine va_sld hK.1.1 hK.1.2.1 hK.2.1 hK.2.2.1 hK.2.2.2.1 hS.2.2.1 (gvpn (by omega) hi) d2 ?_
  rw [gofn (by omega)]
  have q := k hx hK H locs ls hS
  rw [Int32.ofInt_toInt] at q
  exact q
theorem y_scrk {kk : Nat} (d0 : decode code pc = .ok (.aload_n 0, 1)) (d1 : decode code (pc + 1) = .ok (.iload_n 3, 1)) (d2 : decode code (pc + 2) = .ok (.iconst (kk : Int), 1)) (d3 : decode code (pc + 3) = .ok (.iadd, 1)) (d4 : decode code (pc + 4) = .ok (.iaload, 1)) (hk : kk < 10) (hi : i + kk < Ln) (k : gy x o X bs Ln sc h (pc + 5) i (.int (Int32.ofInt (sc (i + kk)).toInt) :: st)) : gy x o X bs Ln sc h pc i st := by
  intro hx hK H locs ls hS
  have hl := hS.2.2.2
  have hLn := hK.2.2.2.2.1
  refine lv_aload_n hK.1.1 hK.1.2.1 d0 rfl (lv_at hl 3 rfl) ?_
  refine lv_iload_n hK.1.1 hK.1.2.1 d1 rfl (lv_at hl 0 rfl) ?_
  refine lv_iconst hK.1.1 hK.1.2.1 d2 (v := Int32.ofNat kk) rfl ?_
  refine lv_iadd hK.1.1 hK.1.2.1 d3 ?_
  rw [← Int32.ofNat_add]
  refine va_sld hK.1.1 hK.1.2.1 hK.2.1 hK.2.2.1 hK.2.2.2.1 hS.2.2.1 (gvpn (by omega) hi) d4 ?_
  rw [gofn (by omega)]
  have q := k hx hK H locs ls hS
  rw [Int32.ofInt_toInt] at q
  exact q
theorem y_x (d0 : decode code pc = .ok (.aload_n 1, 1)) (k : gy x o X bs Ln sc h (pc + 1) i (.ref (zb (xZ X) + 0) :: st)) : gy x o X bs Ln sc h pc i st := fun hx hK H locs ls hS => lv_aload_n hK.1.1 hK.1.2.1 d0 rfl (lv_at hS.2.2.2 2 rfl) (k hx hK H locs ls hS)
theorem y_m (d0 : decode code pc = .ok (.aload_n 2, 1)) (k : gy x o X bs Ln sc h (pc + 1) i (.ref (zb (xZ X) + 83) :: st)) : gy x o X bs Ln sc h pc i st := fun hx hK H locs ls hS => lv_aload_n hK.1.1 hK.1.2.1 d0 rfl (lv_at hS.2.2.2 1 rfl) (k hx hK H locs ls hS)
theorem y_call {idx fr lo nL' ci a N : Nat} {T : u_T} {yy : MethodName} {cc' : ByteArray} {as : List gV} {stk : List Value} {fx : Option gO} {kk : gH → Int → Option gO} (hd : decode code pc = .ok (.invokevirtual idx, 3)) (hst : stk = (as.map (gem (zb (xZ X)))).reverse ++ .ref (zb (xZ X) + a) :: st) (hy : gCy "DecreedStreetsLaw" idx yy cc' nL' (some .int) as.length) (hin : Cond.instanceMethod yy ∈ gtbl) (hse : Cond.selects yy.cls yy yy ∈ gtbl) (hroom : fr + 1 ≤ 12 ∧ 8 + (nL' + 11) + lo ≤ 466) (hcat : (st.map fun v => v.category).sum ≤ 8) (hsh : gsh a = .inr ci) (hci : gcls[ci]? = some (yy.cls, T, N)) (has : gRl as)
    (hc : gLive (xZ X) → (zL (xZ X)).Nodup → ∀ o1, gRg h → gRl (.inr (.inr a) :: as) → fx = some o1 → gC (xZ X) yy cc' nL' (some .int) fr lo (.inr (.inr a) :: as) h o1) (k : ∀ h1 r, gR32 r → gy (kk h1 r) o X bs Ln sc h1 (pc + 3) i (.int (Int32.ofInt r) :: st)) : gy (gb fx kk) o X bs Ln sc h pc i stk := by
  subst hst
  intro hx hK H locs ls hS
  cases hfx : fx with
  | none => rw [hfx] at hx; cases hx
  | some o1 =>
    rw [hfx] at hx
    have hx' : kk o1.1 o1.2 = some o := hx
    have hKn := hK.1
    have hLv : gLive (xZ X) := hK.2.2.2.2.2.1
    have hM := hc hLv hKn.2.2.2.2.2.2.2.2.2.2 o1 hS.1 (gRl_c trivial has) hfx
    obtain ⟨hy1, hy2, hy3, hy4⟩ := hy
    obtain ⟨q0, hq0⟩ := List.getElem?_of_mem (gli hLv hsh)
    have hat := gW_at h hq0
    rw [gE_o hsh] at hat
    have hrec := va_recv hKn.2.2.2.2.2.1 hS.2.1 hci hat
    have cw : CallW (xR X) (xs X) (xa X) "DecreedStreetsLaw" yy.cls idx yy cc' nL' (some .int) (.code yy cc' nL' (some .int) :: gtbl) (gRm fr lo) 0 0 as.length :=
      ⟨callB_of _ hKn.2.2.2.2.1 (gGood hy3) rfl rfl rfl (hKn.2.2.2.2.1 _ hy2) (hKn.2.2.2.2.1 _ hy1) hy4 ⟨Nat.le_trans hroom.1 hKn.2.2.2.2.2.2.1, Nat.le_trans hroom.2 hKn.2.2.2.2.2.2.2.1⟩, hKn.2.2.2.2.1 _ hin, hKn.2.2.2.2.1 _ hse⟩
    have run := va_runV (cc := code) (nL := xn X) (Ts := gtbl) (own := "DecreedStreetsLaw") (e := xe X) (below := xb X) (meth := xme X) (H := H) (locs := locs) (cells := xce X) (slots := xsl X) (As := as.map (gem (zb (xZ X)))) (rest := st) (g := F0 (xm X) pc ls ((as.map (gem (zb (xZ X)))).reverse ++ .ref (zb (xZ X) + a) :: st)) ⟨hKn.1, hKn.2.1, hKn.2.2.1.1, hKn.2.2.2.1, hKn.2.2.2.2.1⟩ hM cw (b := zb (xZ X) + a)
      ⟨gBlind _ _ _, hrec, fun U hU hW => ⟨rfl, by rw [hU]; exact hS.2.1, va_K.moved hW.alike hKn.2.2.2.2.2.1⟩⟩ rfl (List.length_map ..) (by rw [hK.2.2.2.2.2.2]; exact hS.2.2.2.1) rfl (Nat.le_trans (Nat.le_of_eq (Nat.zero_add _)) hcat) hd ⟨hKn.2.2.2.2.2.2.2.2.1, hKn.2.2.2.2.2.2.2.2.2.1⟩
    intro T hT X'
    obtain ⟨v, st₀, t, T', L, h0, X'', hL, e1, e2, ⟨hv, ⟨hg1, hr1⟩, ⟨hP1, hK1⟩, hF⟩, stp⟩ := run T hT X'
    have hv' : v = some (.int (Int32.ofInt o1.2)) := by cases hv; rfl
    subst hv'
    have hz : H.size ≤ T'.heap.size := by rw [e1, ← h0]; exact hF.1
    have hkeep : ∀ q : Nat, q < H.size → ¬ gA (xZ X) q → T'.heap[q]? = H[q]? := fun q h1 h2 => by
      rw [e1, hF.2 q (by rw [h0]; exact h1) h2, h0]
    have hSS := hS.2.2.1
    have hS1 : va_S (gA (xZ X)) (xH X) T'.heap (locs ++ L) := by
      refine ⟨Nat.le_trans hSS.1 hz, fun q h1 h2 => ?_, fun q hq => ?_⟩
      · rw [hkeep q (Nat.lt_of_lt_of_le h1 hSS.1) h2]
        exact hSS.2.1 q h1 h2
      · rcases List.mem_append.mp hq with h | h
        · exact hSS.2.2 q h
        · exact hL q h
    obtain ⟨t2, a1, b1⟩ := k o1.1 o1.2 hr1 hx' hK T'.heap (locs ++ L) ls ⟨hg1, by rw [e1]; exact hP1, hS1, hS.2.2.2⟩ T' rfl X''
    exact ⟨t2, stp t2 a1, b1⟩
theorem y_cmp {r1 r2 off : Int} (h1 : gR32 r1) (h2 : gR32 r2) (hd : decode code pc = .ok (.if_icmp .eq off, 3)) (tgt : Nat) (ht : (pc : Int) + off = (tgt : Int)) (k : gy x o X bs Ln sc h tgt i st) : gy (if r1 = r2 then x else none) o X bs Ln sc h pc i (.int (Int32.ofInt r2) :: .int (Int32.ofInt r1) :: st) := by
  intro hx hK H locs ls hS
  by_cases e : r1 = r2
  · rw [if_pos e] at hx
    refine lv_icmp_eq hK.1.1 hK.1.2.1 hd ht (fun _ => k hx hK H locs ls hS) (fun c => ?_)
    exact absurd (by rw [e]) c
  · rw [if_neg e] at hx
    cases hx
theorem y_next (d0 : decode code 988 = .ok (.iinc 3 5, 3)) (d1 : decode code 991 = .ok (.goto (-973), 3)) (k : gy x o X bs Ln sc h 18 (i + 5) st) : gy x o X bs Ln sc h 988 i st := by
  intro hx hK H locs ls hS
  refine lv_iinc hK.1.1 hK.1.2.1 d0 hS.2.2.2 (k := 0) rfl (v := Int32.ofNat (i + 5)) (by rw [Int32.ofNat_add]; rfl) (by decide) rfl (fun ls' h' => ?_)
  refine lv_goto hK.1.1 hK.1.2.1 d1 (tgt := 18) rfl ?_
  exact k hx hK H locs ls' ⟨hS.1, hS.2.1, hS.2.2.1, h'⟩
theorem y_case {off : Int} {a : Int32} {offs : Array Int} {len : Nat} (hd : decode code pc = .ok (.tableswitch 956 0 29 offs, len)) (v : Int) (hv : 0 ≤ v ∧ v ≤ 29) (he : a.toInt = v) (ho : offs[v.toNat]? = some off) (tgt : Nat) (ht : (pc : Int) + off = (tgt : Int)) (k : gy x o X bs Ln sc h tgt i st) : gy x o X bs Ln sc h pc i (.int a :: st) := by
  intro hx hK H locs ls hS
  exact lv_tableIn hK.1.1 hK.1.2.1 hd (by rw [he]; omega) (by rw [he]; omega) (by rw [he, Int.sub_zero]; exact ho) ht (k hx hK H locs ls hS)
theorem y_dflt {a : Int32} {offs : Array Int} {len : Nat} (hd : decode code pc = .ok (.tableswitch 956 0 29 offs, len)) (hv : a.toInt < 0 ∨ 29 < a.toInt) (tgt : Nat) (ht : (pc : Int) + 956 = (tgt : Int)) (k : gy x o X bs Ln sc h tgt i st) : gy x o X bs Ln sc h pc i (.int a :: st) := by
  intro hx hK H locs ls hS
  exact lv_tableOut hK.1.1 hK.1.2.1 hd hv ht (k hx hK H locs ls hS)
end GY
theorem gRl_n : gRl [] := fun _ h => by cases h
theorem gRsc (sc : Nat → Int32) (j : Nat) : gRv (.inl (sc j).toInt) := gR_t _
set_option maxRecDepth 20000 in
theorem gcy_Law_13 : gCy "DecreedStreetsLaw" 13 gy_DS_feed gc_DS_feed 2 (some .int) 1 := ⟨(gtab_at 306 (by decide +kernel) rfl), (gtab_at 1 (by decide +kernel) rfl), (gtab_at 309 rfl rfl), by decide, by decide, by decide +kernel⟩
theorem gim_DS_feed : Cond.instanceMethod gy_DS_feed ∈ gtbl := (gtab_at 307 (by decide +kernel) rfl)
theorem gse_DS_feed : Cond.selects gy_DS_feed.cls gy_DS_feed gy_DS_feed ∈ gtbl := (gtab_at 308 (by decide +kernel) rfl)
set_option maxRecDepth 20000 in
theorem gcy_Law_17 : gCy "DecreedStreetsLaw" 17 gy_Mo_feed gc_Mo_feed 2 (some .int) 1 := ⟨(gtab_at 876 (by decide +kernel) rfl), (gtab_at 8 (by decide +kernel) rfl), (gtab_at 879 rfl rfl), by decide, by decide, by decide +kernel⟩
theorem gim_Mo_feed : Cond.instanceMethod gy_Mo_feed ∈ gtbl := (gtab_at 877 (by decide +kernel) rfl)
theorem gse_Mo_feed : Cond.selects gy_Mo_feed.cls gy_Mo_feed gy_Mo_feed ∈ gtbl := (gtab_at 878 (by decide +kernel) rfl)
set_option maxRecDepth 20000 in
theorem gcy_Law_18 : gCy "DecreedStreetsLaw" 18 gy_DS_city gc_DS_city 3 (some .int) 0 := ⟨(gtab_at 319 (by decide +kernel) rfl), (gtab_at 1 (by decide +kernel) rfl), (gtab_at 322 rfl rfl), by decide, by decide, by decide +kernel⟩
theorem gim_DS_city : Cond.instanceMethod gy_DS_city ∈ gtbl := (gtab_at 320 (by decide +kernel) rfl)
theorem gse_DS_city : Cond.selects gy_DS_city.cls gy_DS_city gy_DS_city ∈ gtbl := (gtab_at 321 (by decide +kernel) rfl)
set_option maxRecDepth 20000 in
theorem gcy_Law_22 : gCy "DecreedStreetsLaw" 22 gy_Mo_city gc_Mo_city 2 (some .int) 0 := ⟨(gtab_at 886 (by decide +kernel) rfl), (gtab_at 8 (by decide +kernel) rfl), (gtab_at 889 rfl rfl), by decide, by decide, by decide +kernel⟩
theorem gim_Mo_city : Cond.instanceMethod gy_Mo_city ∈ gtbl := (gtab_at 887 (by decide +kernel) rfl)
theorem gse_Mo_city : Cond.selects gy_Mo_city.cls gy_Mo_city gy_Mo_city ∈ gtbl := (gtab_at 888 (by decide +kernel) rfl)
set_option maxRecDepth 20000 in
theorem gcy_Law_23 : gCy "DecreedStreetsLaw" 23 gy_DS_fault gc_DS_fault 1 (some .int) 0 := ⟨(gtab_at 403 (by decide +kernel) rfl), (gtab_at 1 (by decide +kernel) rfl), (gtab_at 406 rfl rfl), by decide, by decide, by decide +kernel⟩
theorem gim_DS_fault : Cond.instanceMethod gy_DS_fault ∈ gtbl := (gtab_at 404 (by decide +kernel) rfl)
theorem gse_DS_fault : Cond.selects gy_DS_fault.cls gy_DS_fault gy_DS_fault ∈ gtbl := (gtab_at 405 (by decide +kernel) rfl)
set_option maxRecDepth 20000 in
theorem gcy_Law_26 : gCy "DecreedStreetsLaw" 26 gy_Mo_fault gc_Mo_fault 1 (some .int) 0 := ⟨(gtab_at 937 (by decide +kernel) rfl), (gtab_at 8 (by decide +kernel) rfl), (gtab_at 940 rfl rfl), by decide, by decide, by decide +kernel⟩
theorem gim_Mo_fault : Cond.instanceMethod gy_Mo_fault ∈ gtbl := (gtab_at 938 (by decide +kernel) rfl)
theorem gse_Mo_fault : Cond.selects gy_Mo_fault.cls gy_Mo_fault gy_Mo_fault ∈ gtbl := (gtab_at 939 (by decide +kernel) rfl)
set_option maxRecDepth 20000 in
theorem gcy_Law_27 : gCy "DecreedStreetsLaw" 27 gy_DS_told gc_DS_told 2 (some .int) 1 := ⟨(gtab_at 407 (by decide +kernel) rfl), (gtab_at 1 (by decide +kernel) rfl), (gtab_at 410 rfl rfl), by decide, by decide, by decide +kernel⟩
theorem gim_DS_told : Cond.instanceMethod gy_DS_told ∈ gtbl := (gtab_at 408 (by decide +kernel) rfl)
theorem gse_DS_told : Cond.selects gy_DS_told.cls gy_DS_told gy_DS_told ∈ gtbl := (gtab_at 409 (by decide +kernel) rfl)
set_option maxRecDepth 20000 in
theorem gcy_Law_30 : gCy "DecreedStreetsLaw" 30 gy_Mo_told gc_Mo_told 2 (some .int) 1 := ⟨(gtab_at 941 (by decide +kernel) rfl), (gtab_at 8 (by decide +kernel) rfl), (gtab_at 944 rfl rfl), by decide, by decide, by decide +kernel⟩
theorem gim_Mo_told : Cond.instanceMethod gy_Mo_told ∈ gtbl := (gtab_at 942 (by decide +kernel) rfl)
theorem gse_Mo_told : Cond.selects gy_Mo_told.cls gy_Mo_told gy_Mo_told ∈ gtbl := (gtab_at 943 (by decide +kernel) rfl)
set_option maxRecDepth 20000 in
theorem gcy_Law_31 : gCy "DecreedStreetsLaw" 31 gy_DS_far gc_DS_far 4 (some .int) 2 := ⟨(gtab_at 419 (by decide +kernel) rfl), (gtab_at 1 (by decide +kernel) rfl), (gtab_at 422 rfl rfl), by decide, by decide, by decide +kernel⟩
theorem gim_DS_far : Cond.instanceMethod gy_DS_far ∈ gtbl := (gtab_at 420 (by decide +kernel) rfl)
theorem gse_DS_far : Cond.selects gy_DS_far.cls gy_DS_far gy_DS_far ∈ gtbl := (gtab_at 421 (by decide +kernel) rfl)
set_option maxRecDepth 20000 in
theorem gcy_Law_35 : gCy "DecreedStreetsLaw" 35 gy_Mo_far gc_Mo_far 3 (some .int) 2 := ⟨(gtab_at 949 (by decide +kernel) rfl), (gtab_at 8 (by decide +kernel) rfl), (gtab_at 952 rfl rfl), by decide, by decide, by decide +kernel⟩
theorem gim_Mo_far : Cond.instanceMethod gy_Mo_far ∈ gtbl := (gtab_at 950 (by decide +kernel) rfl)
theorem gse_Mo_far : Cond.selects gy_Mo_far.cls gy_Mo_far gy_Mo_far ∈ gtbl := (gtab_at 951 (by decide +kernel) rfl)
set_option maxRecDepth 20000 in
theorem gcy_Law_36 : gCy "DecreedStreetsLaw" 36 gy_DS_street gc_DS_street 3 (some .int) 2 := ⟨(gtab_at 429 (by decide +kernel) rfl), (gtab_at 1 (by decide +kernel) rfl), (gtab_at 432 rfl rfl), by decide, by decide, by decide +kernel⟩
theorem gim_DS_street : Cond.instanceMethod gy_DS_street ∈ gtbl := (gtab_at 430 (by decide +kernel) rfl)
theorem gse_DS_street : Cond.selects gy_DS_street.cls gy_DS_street gy_DS_street ∈ gtbl := (gtab_at 431 (by decide +kernel) rfl)
set_option maxRecDepth 20000 in
theorem gcy_Law_39 : gCy "DecreedStreetsLaw" 39 gy_Mo_street gc_Mo_street 3 (some .int) 2 := ⟨(gtab_at 958 (by decide +kernel) rfl), (gtab_at 8 (by decide +kernel) rfl), (gtab_at 961 rfl rfl), by decide, by decide, by decide +kernel⟩
theorem gim_Mo_street : Cond.instanceMethod gy_Mo_street ∈ gtbl := (gtab_at 959 (by decide +kernel) rfl)
theorem gse_Mo_street : Cond.selects gy_Mo_street.cls gy_Mo_street gy_Mo_street ∈ gtbl := (gtab_at 960 (by decide +kernel) rfl)
set_option maxRecDepth 20000 in
theorem gcy_Law_40 : gCy "DecreedStreetsLaw" 40 gy_DS_cart gc_DS_cart 3 (some .int) 2 := ⟨(gtab_at 437 (by decide +kernel) rfl), (gtab_at 1 (by decide +kernel) rfl), (gtab_at 440 rfl rfl), by decide, by decide, by decide +kernel⟩
theorem gim_DS_cart : Cond.instanceMethod gy_DS_cart ∈ gtbl := (gtab_at 438 (by decide +kernel) rfl)
theorem gse_DS_cart : Cond.selects gy_DS_cart.cls gy_DS_cart gy_DS_cart ∈ gtbl := (gtab_at 439 (by decide +kernel) rfl)
set_option maxRecDepth 20000 in
theorem gcy_Law_43 : gCy "DecreedStreetsLaw" 43 gy_Mo_cart gc_Mo_cart 3 (some .int) 2 := ⟨(gtab_at 970 (by decide +kernel) rfl), (gtab_at 8 (by decide +kernel) rfl), (gtab_at 973 rfl rfl), by decide, by decide, by decide +kernel⟩
theorem gim_Mo_cart : Cond.instanceMethod gy_Mo_cart ∈ gtbl := (gtab_at 971 (by decide +kernel) rfl)
theorem gse_Mo_cart : Cond.selects gy_Mo_cart.cls gy_Mo_cart gy_Mo_cart ∈ gtbl := (gtab_at 972 (by decide +kernel) rfl)
set_option maxRecDepth 20000 in
theorem gcy_Law_44 : gCy "DecreedStreetsLaw" 44 gy_DS_next gc_DS_next 2 (some .int) 1 := ⟨(gtab_at 445 (by decide +kernel) rfl), (gtab_at 1 (by decide +kernel) rfl), (gtab_at 448 rfl rfl), by decide, by decide, by decide +kernel⟩
theorem gim_DS_next : Cond.instanceMethod gy_DS_next ∈ gtbl := (gtab_at 446 (by decide +kernel) rfl)
theorem gse_DS_next : Cond.selects gy_DS_next.cls gy_DS_next gy_DS_next ∈ gtbl := (gtab_at 447 (by decide +kernel) rfl)
set_option maxRecDepth 20000 in
theorem gcy_Law_47 : gCy "DecreedStreetsLaw" 47 gy_Mo_next gc_Mo_next 2 (some .int) 1 := ⟨(gtab_at 978 (by decide +kernel) rfl), (gtab_at 8 (by decide +kernel) rfl), (gtab_at 981 rfl rfl), by decide, by decide, by decide +kernel⟩
theorem gim_Mo_next : Cond.instanceMethod gy_Mo_next ∈ gtbl := (gtab_at 979 (by decide +kernel) rfl)
theorem gse_Mo_next : Cond.selects gy_Mo_next.cls gy_Mo_next gy_Mo_next ∈ gtbl := (gtab_at 980 (by decide +kernel) rfl)
set_option maxRecDepth 20000 in
theorem gcy_Law_48 : gCy "DecreedStreetsLaw" 48 gy_DS_foremost gc_DS_foremost 3 (some .int) 2 := ⟨(gtab_at 453 (by decide +kernel) rfl), (gtab_at 1 (by decide +kernel) rfl), (gtab_at 456 rfl rfl), by decide, by decide, by decide +kernel⟩
theorem gim_DS_foremost : Cond.instanceMethod gy_DS_foremost ∈ gtbl := (gtab_at 454 (by decide +kernel) rfl)
theorem gse_DS_foremost : Cond.selects gy_DS_foremost.cls gy_DS_foremost gy_DS_foremost ∈ gtbl := (gtab_at 455 (by decide +kernel) rfl)
set_option maxRecDepth 20000 in
theorem gcy_Law_51 : gCy "DecreedStreetsLaw" 51 gy_Mo_foremost gc_Mo_foremost 3 (some .int) 2 := ⟨(gtab_at 994 (by decide +kernel) rfl), (gtab_at 8 (by decide +kernel) rfl), (gtab_at 997 rfl rfl), by decide, by decide, by decide +kernel⟩
theorem gim_Mo_foremost : Cond.instanceMethod gy_Mo_foremost ∈ gtbl := (gtab_at 995 (by decide +kernel) rfl)
theorem gse_Mo_foremost : Cond.selects gy_Mo_foremost.cls gy_Mo_foremost gy_Mo_foremost ∈ gtbl := (gtab_at 996 (by decide +kernel) rfl)
set_option maxRecDepth 20000 in
theorem gcy_Law_52 : gCy "DecreedStreetsLaw" 52 gy_DS_minute gc_DS_minute 4 (some .int) 1 := ⟨(gtab_at 465 (by decide +kernel) rfl), (gtab_at 1 (by decide +kernel) rfl), (gtab_at 468 rfl rfl), by decide, by decide, by decide +kernel⟩
theorem gim_DS_minute : Cond.instanceMethod gy_DS_minute ∈ gtbl := (gtab_at 466 (by decide +kernel) rfl)
theorem gse_DS_minute : Cond.selects gy_DS_minute.cls gy_DS_minute gy_DS_minute ∈ gtbl := (gtab_at 467 (by decide +kernel) rfl)
set_option maxRecDepth 20000 in
theorem gcy_Law_55 : gCy "DecreedStreetsLaw" 55 gy_Mo_minute gc_Mo_minute 5 (some .int) 1 := ⟨(gtab_at 1010 (by decide +kernel) rfl), (gtab_at 8 (by decide +kernel) rfl), (gtab_at 1013 rfl rfl), by decide, by decide, by decide +kernel⟩
theorem gim_Mo_minute : Cond.instanceMethod gy_Mo_minute ∈ gtbl := (gtab_at 1011 (by decide +kernel) rfl)
theorem gse_Mo_minute : Cond.selects gy_Mo_minute.cls gy_Mo_minute gy_Mo_minute ∈ gtbl := (gtab_at 1012 (by decide +kernel) rfl)
set_option maxRecDepth 20000 in
theorem gcy_Law_56 : gCy "DecreedStreetsLaw" 56 gy_DS_drift gc_DS_drift 4 (some .int) 1 := ⟨(gtab_at 550 (by decide +kernel) rfl), (gtab_at 1 (by decide +kernel) rfl), (gtab_at 553 rfl rfl), by decide, by decide, by decide +kernel⟩
theorem gim_DS_drift : Cond.instanceMethod gy_DS_drift ∈ gtbl := (gtab_at 551 (by decide +kernel) rfl)
theorem gse_DS_drift : Cond.selects gy_DS_drift.cls gy_DS_drift gy_DS_drift ∈ gtbl := (gtab_at 552 (by decide +kernel) rfl)
set_option maxRecDepth 20000 in
theorem gcy_Law_59 : gCy "DecreedStreetsLaw" 59 gy_Mo_drift gc_Mo_drift 5 (some .int) 1 := ⟨(gtab_at 1064 (by decide +kernel) rfl), (gtab_at 8 (by decide +kernel) rfl), (gtab_at 1067 rfl rfl), by decide, by decide, by decide +kernel⟩
theorem gim_Mo_drift : Cond.instanceMethod gy_Mo_drift ∈ gtbl := (gtab_at 1065 (by decide +kernel) rfl)
theorem gse_Mo_drift : Cond.selects gy_Mo_drift.cls gy_Mo_drift gy_Mo_drift ∈ gtbl := (gtab_at 1066 (by decide +kernel) rfl)
set_option maxRecDepth 20000 in
theorem gcy_Law_60 : gCy "DecreedStreetsLaw" 60 gy_DS_turn gc_DS_turn 2 (some .int) 1 := ⟨(gtab_at 566 (by decide +kernel) rfl), (gtab_at 1 (by decide +kernel) rfl), (gtab_at 569 rfl rfl), by decide, by decide, by decide +kernel⟩
theorem gim_DS_turn : Cond.instanceMethod gy_DS_turn ∈ gtbl := (gtab_at 567 (by decide +kernel) rfl)
theorem gse_DS_turn : Cond.selects gy_DS_turn.cls gy_DS_turn gy_DS_turn ∈ gtbl := (gtab_at 568 (by decide +kernel) rfl)
set_option maxRecDepth 20000 in
theorem gcy_Law_63 : gCy "DecreedStreetsLaw" 63 gy_Mo_turn gc_Mo_turn 2 (some .int) 1 := ⟨(gtab_at 1080 (by decide +kernel) rfl), (gtab_at 8 (by decide +kernel) rfl), (gtab_at 1083 rfl rfl), by decide, by decide, by decide +kernel⟩
theorem gim_Mo_turn : Cond.instanceMethod gy_Mo_turn ∈ gtbl := (gtab_at 1081 (by decide +kernel) rfl)
theorem gse_Mo_turn : Cond.selects gy_Mo_turn.cls gy_Mo_turn gy_Mo_turn ∈ gtbl := (gtab_at 1082 (by decide +kernel) rfl)
set_option maxRecDepth 20000 in
theorem gcy_Law_64 : gCy "DecreedStreetsLaw" 64 gy_DS_law gc_DS_law 4 (some .int) 2 := ⟨(gtab_at 570 (by decide +kernel) rfl), (gtab_at 1 (by decide +kernel) rfl), (gtab_at 573 rfl rfl), by decide, by decide, by decide +kernel⟩
theorem gim_DS_law : Cond.instanceMethod gy_DS_law ∈ gtbl := (gtab_at 571 (by decide +kernel) rfl)
theorem gse_DS_law : Cond.selects gy_DS_law.cls gy_DS_law gy_DS_law ∈ gtbl := (gtab_at 572 (by decide +kernel) rfl)
set_option maxRecDepth 20000 in
theorem gcy_Law_67 : gCy "DecreedStreetsLaw" 67 gy_Mo_law gc_Mo_law 4 (some .int) 2 := ⟨(gtab_at 1084 (by decide +kernel) rfl), (gtab_at 8 (by decide +kernel) rfl), (gtab_at 1087 rfl rfl), by decide, by decide, by decide +kernel⟩
theorem gim_Mo_law : Cond.instanceMethod gy_Mo_law ∈ gtbl := (gtab_at 1085 (by decide +kernel) rfl)
theorem gse_Mo_law : Cond.selects gy_Mo_law.cls gy_Mo_law gy_Mo_law ∈ gtbl := (gtab_at 1086 (by decide +kernel) rfl)
set_option maxRecDepth 20000 in
theorem gcy_Law_68 : gCy "DecreedStreetsLaw" 68 gy_DS_rank gc_DS_rank 4 (some .int) 2 := ⟨(gtab_at 574 (by decide +kernel) rfl), (gtab_at 1 (by decide +kernel) rfl), (gtab_at 577 rfl rfl), by decide, by decide, by decide +kernel⟩
theorem gim_DS_rank : Cond.instanceMethod gy_DS_rank ∈ gtbl := (gtab_at 575 (by decide +kernel) rfl)
theorem gse_DS_rank : Cond.selects gy_DS_rank.cls gy_DS_rank gy_DS_rank ∈ gtbl := (gtab_at 576 (by decide +kernel) rfl)
set_option maxRecDepth 20000 in
theorem gcy_Law_71 : gCy "DecreedStreetsLaw" 71 gy_Mo_rank gc_Mo_rank 4 (some .int) 2 := ⟨(gtab_at 1089 (by decide +kernel) rfl), (gtab_at 8 (by decide +kernel) rfl), (gtab_at 1092 rfl rfl), by decide, by decide, by decide +kernel⟩
theorem gim_Mo_rank : Cond.instanceMethod gy_Mo_rank ∈ gtbl := (gtab_at 1090 (by decide +kernel) rfl)
theorem gse_Mo_rank : Cond.selects gy_Mo_rank.cls gy_Mo_rank gy_Mo_rank ∈ gtbl := (gtab_at 1091 (by decide +kernel) rfl)
set_option maxRecDepth 20000 in
theorem gcy_Law_72 : gCy "DecreedStreetsLaw" 72 gy_DS_allHome gc_DS_allHome 3 (some .int) 2 := ⟨(gtab_at 578 (by decide +kernel) rfl), (gtab_at 1 (by decide +kernel) rfl), (gtab_at 581 rfl rfl), by decide, by decide, by decide +kernel⟩
theorem gim_DS_allHome : Cond.instanceMethod gy_DS_allHome ∈ gtbl := (gtab_at 579 (by decide +kernel) rfl)
theorem gse_DS_allHome : Cond.selects gy_DS_allHome.cls gy_DS_allHome gy_DS_allHome ∈ gtbl := (gtab_at 580 (by decide +kernel) rfl)
set_option maxRecDepth 20000 in
theorem gcy_Law_75 : gCy "DecreedStreetsLaw" 75 gy_Mo_allHome gc_Mo_allHome 4 (some .int) 2 := ⟨(gtab_at 1094 (by decide +kernel) rfl), (gtab_at 8 (by decide +kernel) rfl), (gtab_at 1097 rfl rfl), by decide, by decide, by decide +kernel⟩
theorem gim_Mo_allHome : Cond.instanceMethod gy_Mo_allHome ∈ gtbl := (gtab_at 1095 (by decide +kernel) rfl)
theorem gse_Mo_allHome : Cond.selects gy_Mo_allHome.cls gy_Mo_allHome gy_Mo_allHome ∈ gtbl := (gtab_at 1096 (by decide +kernel) rfl)
set_option maxRecDepth 20000 in
theorem gcy_Law_76 : gCy "DecreedStreetsLaw" 76 gy_DS_foreseen gc_DS_foreseen 4 (some .int) 3 := ⟨(gtab_at 593 (by decide +kernel) rfl), (gtab_at 1 (by decide +kernel) rfl), (gtab_at 596 rfl rfl), by decide, by decide, by decide +kernel⟩
theorem gim_DS_foreseen : Cond.instanceMethod gy_DS_foreseen ∈ gtbl := (gtab_at 594 (by decide +kernel) rfl)
theorem gse_DS_foreseen : Cond.selects gy_DS_foreseen.cls gy_DS_foreseen gy_DS_foreseen ∈ gtbl := (gtab_at 595 (by decide +kernel) rfl)
set_option maxRecDepth 20000 in
theorem gcy_Law_80 : gCy "DecreedStreetsLaw" 80 gy_Mo_foreseen gc_Mo_foreseen 6 (some .int) 3 := ⟨(gtab_at 1114 (by decide +kernel) rfl), (gtab_at 8 (by decide +kernel) rfl), (gtab_at 1117 rfl rfl), by decide, by decide, by decide +kernel⟩
theorem gim_Mo_foreseen : Cond.instanceMethod gy_Mo_foreseen ∈ gtbl := (gtab_at 1115 (by decide +kernel) rfl)
theorem gse_Mo_foreseen : Cond.selects gy_Mo_foreseen.cls gy_Mo_foreseen gy_Mo_foreseen ∈ gtbl := (gtab_at 1116 (by decide +kernel) rfl)
set_option maxRecDepth 20000 in
theorem gcy_Law_81 : gCy "DecreedStreetsLaw" 81 gy_DS_bought gc_DS_bought 5 (some .int) 4 := ⟨(gtab_at 618 (by decide +kernel) rfl), (gtab_at 1 (by decide +kernel) rfl), (gtab_at 621 rfl rfl), by decide, by decide, by decide +kernel⟩
theorem gim_DS_bought : Cond.instanceMethod gy_DS_bought ∈ gtbl := (gtab_at 619 (by decide +kernel) rfl)
theorem gse_DS_bought : Cond.selects gy_DS_bought.cls gy_DS_bought gy_DS_bought ∈ gtbl := (gtab_at 620 (by decide +kernel) rfl)
set_option maxRecDepth 20000 in
theorem gcy_Law_85 : gCy "DecreedStreetsLaw" 85 gy_Mo_bought gc_Mo_bought 7 (some .int) 4 := ⟨(gtab_at 1127 (by decide +kernel) rfl), (gtab_at 8 (by decide +kernel) rfl), (gtab_at 1130 rfl rfl), by decide, by decide, by decide +kernel⟩
theorem gim_Mo_bought : Cond.instanceMethod gy_Mo_bought ∈ gtbl := (gtab_at 1128 (by decide +kernel) rfl)
theorem gse_Mo_bought : Cond.selects gy_Mo_bought.cls gy_Mo_bought gy_Mo_bought ∈ gtbl := (gtab_at 1129 (by decide +kernel) rfl)
set_option maxRecDepth 20000 in
theorem gcy_Law_86 : gCy "DecreedStreetsLaw" 86 gy_DS_ranks gc_DS_ranks 3 (some .int) 2 := ⟨(gtab_at 632 (by decide +kernel) rfl), (gtab_at 1 (by decide +kernel) rfl), (gtab_at 635 rfl rfl), by decide, by decide, by decide +kernel⟩
theorem gim_DS_ranks : Cond.instanceMethod gy_DS_ranks ∈ gtbl := (gtab_at 633 (by decide +kernel) rfl)
theorem gse_DS_ranks : Cond.selects gy_DS_ranks.cls gy_DS_ranks gy_DS_ranks ∈ gtbl := (gtab_at 634 (by decide +kernel) rfl)
set_option maxRecDepth 20000 in
theorem gcy_Law_89 : gCy "DecreedStreetsLaw" 89 gy_Mo_ranks gc_Mo_ranks 8 (some .int) 2 := ⟨(gtab_at 1135 (by decide +kernel) rfl), (gtab_at 8 (by decide +kernel) rfl), (gtab_at 1138 rfl rfl), by decide, by decide, by decide +kernel⟩
theorem gim_Mo_ranks : Cond.instanceMethod gy_Mo_ranks ∈ gtbl := (gtab_at 1136 (by decide +kernel) rfl)
theorem gse_Mo_ranks : Cond.selects gy_Mo_ranks.cls gy_Mo_ranks gy_Mo_ranks ∈ gtbl := (gtab_at 1137 (by decide +kernel) rfl)
set_option maxRecDepth 20000 in
theorem gcy_Law_90 : gCy "DecreedStreetsLaw" 90 gy_DS_bestLaw gc_DS_bestLaw 7 (some .int) 2 := ⟨(gtab_at 657 (by decide +kernel) rfl), (gtab_at 1 (by decide +kernel) rfl), (gtab_at 660 rfl rfl), by decide, by decide, by decide +kernel⟩
theorem gim_DS_bestLaw : Cond.instanceMethod gy_DS_bestLaw ∈ gtbl := (gtab_at 658 (by decide +kernel) rfl)
theorem gse_DS_bestLaw : Cond.selects gy_DS_bestLaw.cls gy_DS_bestLaw gy_DS_bestLaw ∈ gtbl := (gtab_at 659 (by decide +kernel) rfl)
set_option maxRecDepth 20000 in
theorem gcy_Law_93 : gCy "DecreedStreetsLaw" 93 gy_Mo_bestLaw gc_Mo_bestLaw 7 (some .int) 2 := ⟨(gtab_at 1147 (by decide +kernel) rfl), (gtab_at 8 (by decide +kernel) rfl), (gtab_at 1150 rfl rfl), by decide, by decide, by decide +kernel⟩
theorem gim_Mo_bestLaw : Cond.instanceMethod gy_Mo_bestLaw ∈ gtbl := (gtab_at 1148 (by decide +kernel) rfl)
theorem gse_Mo_bestLaw : Cond.selects gy_Mo_bestLaw.cls gy_Mo_bestLaw gy_Mo_bestLaw ∈ gtbl := (gtab_at 1149 (by decide +kernel) rfl)
set_option maxRecDepth 20000 in
theorem gcy_Law_94 : gCy "DecreedStreetsLaw" 94 gy_DS_lost gc_DS_lost 2 (some .int) 0 := ⟨(gtab_at 666 (by decide +kernel) rfl), (gtab_at 1 (by decide +kernel) rfl), (gtab_at 669 rfl rfl), by decide, by decide, by decide +kernel⟩
theorem gim_DS_lost : Cond.instanceMethod gy_DS_lost ∈ gtbl := (gtab_at 667 (by decide +kernel) rfl)
theorem gse_DS_lost : Cond.selects gy_DS_lost.cls gy_DS_lost gy_DS_lost ∈ gtbl := (gtab_at 668 (by decide +kernel) rfl)
set_option maxRecDepth 20000 in
theorem gcy_Law_97 : gCy "DecreedStreetsLaw" 97 gy_Mo_lost gc_Mo_lost 2 (some .int) 0 := ⟨(gtab_at 1151 (by decide +kernel) rfl), (gtab_at 8 (by decide +kernel) rfl), (gtab_at 1154 rfl rfl), by decide, by decide, by decide +kernel⟩
theorem gim_Mo_lost : Cond.instanceMethod gy_Mo_lost ∈ gtbl := (gtab_at 1152 (by decide +kernel) rfl)
theorem gse_Mo_lost : Cond.selects gy_Mo_lost.cls gy_Mo_lost gy_Mo_lost ∈ gtbl := (gtab_at 1153 (by decide +kernel) rfl)
set_option maxRecDepth 20000 in
theorem gcy_Law_98 : gCy "DecreedStreetsLaw" 98 gy_DS_costs gc_DS_costs 4 (some .int) 2 := ⟨(gtab_at 670 (by decide +kernel) rfl), (gtab_at 1 (by decide +kernel) rfl), (gtab_at 673 rfl rfl), by decide, by decide, by decide +kernel⟩
theorem gim_DS_costs : Cond.instanceMethod gy_DS_costs ∈ gtbl := (gtab_at 671 (by decide +kernel) rfl)
theorem gse_DS_costs : Cond.selects gy_DS_costs.cls gy_DS_costs gy_DS_costs ∈ gtbl := (gtab_at 672 (by decide +kernel) rfl)
set_option maxRecDepth 20000 in
theorem gcy_Law_101 : gCy "DecreedStreetsLaw" 101 gy_Mo_costs gc_Mo_costs 5 (some .int) 2 := ⟨(gtab_at 1155 (by decide +kernel) rfl), (gtab_at 8 (by decide +kernel) rfl), (gtab_at 1158 rfl rfl), by decide, by decide, by decide +kernel⟩
theorem gim_Mo_costs : Cond.instanceMethod gy_Mo_costs ∈ gtbl := (gtab_at 1156 (by decide +kernel) rfl)
theorem gse_Mo_costs : Cond.selects gy_Mo_costs.cls gy_Mo_costs gy_Mo_costs ∈ gtbl := (gtab_at 1157 (by decide +kernel) rfl)
set_option maxRecDepth 20000 in
theorem gcy_Law_102 : gCy "DecreedStreetsLaw" 102 gy_DS_decree gc_DS_decree 6 (some .int) 1 := ⟨(gtab_at 674 (by decide +kernel) rfl), (gtab_at 1 (by decide +kernel) rfl), (gtab_at 677 rfl rfl), by decide, by decide, by decide +kernel⟩
theorem gim_DS_decree : Cond.instanceMethod gy_DS_decree ∈ gtbl := (gtab_at 675 (by decide +kernel) rfl)
theorem gse_DS_decree : Cond.selects gy_DS_decree.cls gy_DS_decree gy_DS_decree ∈ gtbl := (gtab_at 676 (by decide +kernel) rfl)
set_option maxRecDepth 20000 in
theorem gcy_Law_105 : gCy "DecreedStreetsLaw" 105 gy_Mo_decree gc_Mo_decree 6 (some .int) 1 := ⟨(gtab_at 1159 (by decide +kernel) rfl), (gtab_at 8 (by decide +kernel) rfl), (gtab_at 1162 rfl rfl), by decide, by decide, by decide +kernel⟩
theorem gim_Mo_decree : Cond.instanceMethod gy_Mo_decree ∈ gtbl := (gtab_at 1160 (by decide +kernel) rfl)
theorem gse_Mo_decree : Cond.selects gy_Mo_decree.cls gy_Mo_decree gy_Mo_decree ∈ gtbl := (gtab_at 1161 (by decide +kernel) rfl)
set_option maxRecDepth 20000 in
theorem gcy_Law_106 : gCy "DecreedStreetsLaw" 106 gy_DS_rut gc_DS_rut 4 (some .int) 3 := ⟨(gtab_at 678 (by decide +kernel) rfl), (gtab_at 1 (by decide +kernel) rfl), (gtab_at 681 rfl rfl), by decide, by decide, by decide +kernel⟩
theorem gim_DS_rut : Cond.instanceMethod gy_DS_rut ∈ gtbl := (gtab_at 679 (by decide +kernel) rfl)
theorem gse_DS_rut : Cond.selects gy_DS_rut.cls gy_DS_rut gy_DS_rut ∈ gtbl := (gtab_at 680 (by decide +kernel) rfl)
set_option maxRecDepth 20000 in
theorem gcy_Law_109 : gCy "DecreedStreetsLaw" 109 gy_Mo_rut gc_Mo_rut 4 (some .int) 3 := ⟨(gtab_at 1163 (by decide +kernel) rfl), (gtab_at 8 (by decide +kernel) rfl), (gtab_at 1166 rfl rfl), by decide, by decide, by decide +kernel⟩
theorem gim_Mo_rut : Cond.instanceMethod gy_Mo_rut ∈ gtbl := (gtab_at 1164 (by decide +kernel) rfl)
theorem gse_Mo_rut : Cond.selects gy_Mo_rut.cls gy_Mo_rut gy_Mo_rut ∈ gtbl := (gtab_at 1165 (by decide +kernel) rfl)
set_option maxRecDepth 20000 in
theorem gcy_Law_110 : gCy "DecreedStreetsLaw" 110 gy_DS_laws gc_DS_laws 4 (some .int) 1 := ⟨(gtab_at 686 (by decide +kernel) rfl), (gtab_at 1 (by decide +kernel) rfl), (gtab_at 689 rfl rfl), by decide, by decide, by decide +kernel⟩
theorem gim_DS_laws : Cond.instanceMethod gy_DS_laws ∈ gtbl := (gtab_at 687 (by decide +kernel) rfl)
theorem gse_DS_laws : Cond.selects gy_DS_laws.cls gy_DS_laws gy_DS_laws ∈ gtbl := (gtab_at 688 (by decide +kernel) rfl)
set_option maxRecDepth 20000 in
theorem gcy_Law_113 : gCy "DecreedStreetsLaw" 113 gy_Mo_laws gc_Mo_laws 6 (some .int) 1 := ⟨(gtab_at 1168 (by decide +kernel) rfl), (gtab_at 8 (by decide +kernel) rfl), (gtab_at 1171 rfl rfl), by decide, by decide, by decide +kernel⟩
theorem gim_Mo_laws : Cond.instanceMethod gy_Mo_laws ∈ gtbl := (gtab_at 1169 (by decide +kernel) rfl)
theorem gse_Mo_laws : Cond.selects gy_Mo_laws.cls gy_Mo_laws gy_Mo_laws ∈ gtbl := (gtab_at 1170 (by decide +kernel) rfl)
set_option maxRecDepth 20000 in
theorem gcy_Law_114 : gCy "DecreedStreetsLaw" 114 gy_DS_write gc_DS_write 3 (some .int) 2 := ⟨(gtab_at 703 (by decide +kernel) rfl), (gtab_at 1 (by decide +kernel) rfl), (gtab_at 706 rfl rfl), by decide, by decide, by decide +kernel⟩
theorem gim_DS_write : Cond.instanceMethod gy_DS_write ∈ gtbl := (gtab_at 704 (by decide +kernel) rfl)
theorem gse_DS_write : Cond.selects gy_DS_write.cls gy_DS_write gy_DS_write ∈ gtbl := (gtab_at 705 (by decide +kernel) rfl)
set_option maxRecDepth 20000 in
theorem gcy_Law_117 : gCy "DecreedStreetsLaw" 117 gy_Mo_write gc_Mo_write 3 (some .int) 2 := ⟨(gtab_at 1176 (by decide +kernel) rfl), (gtab_at 8 (by decide +kernel) rfl), (gtab_at 1179 rfl rfl), by decide, by decide, by decide +kernel⟩
theorem gim_Mo_write : Cond.instanceMethod gy_Mo_write ∈ gtbl := (gtab_at 1177 (by decide +kernel) rfl)
theorem gse_Mo_write : Cond.selects gy_Mo_write.cls gy_Mo_write gy_Mo_write ∈ gtbl := (gtab_at 1178 (by decide +kernel) rfl)
set_option maxRecDepth 20000 in
theorem gcy_Law_118 : gCy "DecreedStreetsLaw" 118 gy_DS_tear gc_DS_tear 2 (some .int) 0 := ⟨(gtab_at 708 (by decide +kernel) rfl), (gtab_at 1 (by decide +kernel) rfl), (gtab_at 711 rfl rfl), by decide, by decide, by decide +kernel⟩
theorem gim_DS_tear : Cond.instanceMethod gy_DS_tear ∈ gtbl := (gtab_at 709 (by decide +kernel) rfl)
theorem gse_DS_tear : Cond.selects gy_DS_tear.cls gy_DS_tear gy_DS_tear ∈ gtbl := (gtab_at 710 (by decide +kernel) rfl)
set_option maxRecDepth 20000 in
theorem gcy_Law_121 : gCy "DecreedStreetsLaw" 121 gy_Mo_tear gc_Mo_tear 2 (some .int) 0 := ⟨(gtab_at 1181 (by decide +kernel) rfl), (gtab_at 8 (by decide +kernel) rfl), (gtab_at 1184 rfl rfl), by decide, by decide, by decide +kernel⟩
theorem gim_Mo_tear : Cond.instanceMethod gy_Mo_tear ∈ gtbl := (gtab_at 1182 (by decide +kernel) rfl)
theorem gse_Mo_tear : Cond.selects gy_Mo_tear.cls gy_Mo_tear gy_Mo_tear ∈ gtbl := (gtab_at 1183 (by decide +kernel) rfl)
set_option maxRecDepth 20000 in
theorem gcy_Law_122 : gCy "DecreedStreetsLaw" 122 gy_DS_judge gc_DS_judge 3 (some .int) 0 := ⟨(gtab_at 712 (by decide +kernel) rfl), (gtab_at 1 (by decide +kernel) rfl), (gtab_at 715 rfl rfl), by decide, by decide, by decide +kernel⟩
theorem gim_DS_judge : Cond.instanceMethod gy_DS_judge ∈ gtbl := (gtab_at 713 (by decide +kernel) rfl)
theorem gse_DS_judge : Cond.selects gy_DS_judge.cls gy_DS_judge gy_DS_judge ∈ gtbl := (gtab_at 714 (by decide +kernel) rfl)
set_option maxRecDepth 20000 in
theorem gcy_Law_125 : gCy "DecreedStreetsLaw" 125 gy_Mo_judge gc_Mo_judge 3 (some .int) 0 := ⟨(gtab_at 1185 (by decide +kernel) rfl), (gtab_at 8 (by decide +kernel) rfl), (gtab_at 1188 rfl rfl), by decide, by decide, by decide +kernel⟩
theorem gim_Mo_judge : Cond.instanceMethod gy_Mo_judge ∈ gtbl := (gtab_at 1186 (by decide +kernel) rfl)
theorem gse_Mo_judge : Cond.selects gy_Mo_judge.cls gy_Mo_judge gy_Mo_judge ∈ gtbl := (gtab_at 1187 (by decide +kernel) rfl)
set_option maxRecDepth 20000 in
theorem gcy_Law_126 : gCy "DecreedStreetsLaw" 126 gy_DS_seed gc_DS_seed 3 (some .int) 1 := ⟨(gtab_at 716 (by decide +kernel) rfl), (gtab_at 1 (by decide +kernel) rfl), (gtab_at 719 rfl rfl), by decide, by decide, by decide +kernel⟩
theorem gim_DS_seed : Cond.instanceMethod gy_DS_seed ∈ gtbl := (gtab_at 717 (by decide +kernel) rfl)
theorem gse_DS_seed : Cond.selects gy_DS_seed.cls gy_DS_seed gy_DS_seed ∈ gtbl := (gtab_at 718 (by decide +kernel) rfl)
set_option maxRecDepth 20000 in
theorem gcy_Law_129 : gCy "DecreedStreetsLaw" 129 gy_Mo_seed gc_Mo_seed 3 (some .int) 1 := ⟨(gtab_at 1189 (by decide +kernel) rfl), (gtab_at 8 (by decide +kernel) rfl), (gtab_at 1192 rfl rfl), by decide, by decide, by decide +kernel⟩
theorem gim_Mo_seed : Cond.instanceMethod gy_Mo_seed ∈ gtbl := (gtab_at 1190 (by decide +kernel) rfl)
theorem gse_Mo_seed : Cond.selects gy_Mo_seed.cls gy_Mo_seed gy_Mo_seed ∈ gtbl := (gtab_at 1191 (by decide +kernel) rfl)
set_option maxRecDepth 20000 in
theorem gcy_Law_130 : gCy "DecreedStreetsLaw" 130 gy_DS_keep gc_DS_keep 2 (some .int) 1 := ⟨(gtab_at 720 (by decide +kernel) rfl), (gtab_at 1 (by decide +kernel) rfl), (gtab_at 723 rfl rfl), by decide, by decide, by decide +kernel⟩
theorem gim_DS_keep : Cond.instanceMethod gy_DS_keep ∈ gtbl := (gtab_at 721 (by decide +kernel) rfl)
theorem gse_DS_keep : Cond.selects gy_DS_keep.cls gy_DS_keep gy_DS_keep ∈ gtbl := (gtab_at 722 (by decide +kernel) rfl)
set_option maxRecDepth 20000 in
theorem gcy_Law_133 : gCy "DecreedStreetsLaw" 133 gy_Mo_keep gc_Mo_keep 3 (some .int) 1 := ⟨(gtab_at 1193 (by decide +kernel) rfl), (gtab_at 8 (by decide +kernel) rfl), (gtab_at 1196 rfl rfl), by decide, by decide, by decide +kernel⟩
theorem gim_Mo_keep : Cond.instanceMethod gy_Mo_keep ∈ gtbl := (gtab_at 1194 (by decide +kernel) rfl)
theorem gse_Mo_keep : Cond.selects gy_Mo_keep.cls gy_Mo_keep gy_Mo_keep ∈ gtbl := (gtab_at 1195 (by decide +kernel) rfl)
set_option maxRecDepth 20000 in
theorem gcy_Law_134 : gCy "DecreedStreetsLaw" 134 gy_DS_goBack gc_DS_goBack 2 (some .int) 1 := ⟨(gtab_at 724 (by decide +kernel) rfl), (gtab_at 1 (by decide +kernel) rfl), (gtab_at 727 rfl rfl), by decide, by decide, by decide +kernel⟩
theorem gim_DS_goBack : Cond.instanceMethod gy_DS_goBack ∈ gtbl := (gtab_at 725 (by decide +kernel) rfl)
theorem gse_DS_goBack : Cond.selects gy_DS_goBack.cls gy_DS_goBack gy_DS_goBack ∈ gtbl := (gtab_at 726 (by decide +kernel) rfl)
set_option maxRecDepth 20000 in
theorem gcy_Law_137 : gCy "DecreedStreetsLaw" 137 gy_Mo_goBack gc_Mo_goBack 3 (some .int) 1 := ⟨(gtab_at 1197 (by decide +kernel) rfl), (gtab_at 8 (by decide +kernel) rfl), (gtab_at 1200 rfl rfl), by decide, by decide, by decide +kernel⟩
theorem gim_Mo_goBack : Cond.instanceMethod gy_Mo_goBack ∈ gtbl := (gtab_at 1198 (by decide +kernel) rfl)
theorem gse_Mo_goBack : Cond.selects gy_Mo_goBack.cls gy_Mo_goBack gy_Mo_goBack ∈ gtbl := (gtab_at 1199 (by decide +kernel) rfl)
def f_case (sc : Nat → Int32) (k : gH → Option gO) (i : Nat) (h : gH) : Option gO := if gand (sc i).toInt 31 = 0 then (gb (f_DS_feed (sc (i + 1)).toInt h) (fun hr1 r1 => gb (f_Mo_feed (sc (i + 1)).toInt hr1) (fun hr2 r2 => if r1 = r2 then k hr2 else none))) else (if gand (sc i).toInt 31 = 1 then (gb (f_DS_city  h) (fun hr1 r1 => gb (f_Mo_city  hr1) (fun hr2 r2 => if r1 = r2 then k hr2 else none))) else (if gand (sc i).toInt 31 = 2 then (gb (f_DS_fault  h) (fun hr1 r1 => gb (f_Mo_fault  hr1) (fun hr2 r2 => if r1 = r2 then k hr2 else none))) else (if gand (sc i).toInt 31 = 3 then (gb (f_DS_told (sc (i + 1)).toInt h) (fun hr1 r1 => gb (f_Mo_told (sc (i + 1)).toInt hr1) (fun hr2 r2 => if r1 = r2 then k hr2 else none))) else (if gand (sc i).toInt 31 = 4 then (gb (f_DS_far (sc (i + 1)).toInt (sc (i + 2)).toInt h) (fun hr1 r1 => gb (f_Mo_far (sc (i + 1)).toInt (sc (i + 2)).toInt hr1) (fun hr2 r2 => if r1 = r2 then k hr2 else none))) else (if gand (sc i).toInt 31 = 5 then (gb (f_DS_street (sc (i + 1)).toInt (sc (i + 2)).toInt h) (fun hr1 r1 => gb (f_Mo_street (sc (i + 1)).toInt (sc (i + 2)).toInt hr1) (fun hr2 r2 => if r1 = r2 then k hr2 else none))) else (if gand (sc i).toInt 31 = 6 then (gb (f_DS_cart (sc (i + 1)).toInt (sc (i + 2)).toInt h) (fun hr1 r1 => gb (f_Mo_cart (sc (i + 1)).toInt (sc (i + 2)).toInt hr1) (fun hr2 r2 => if r1 = r2 then k hr2 else none))) else (if gand (sc i).toInt 31 = 7 then (gb (f_DS_next (sc (i + 1)).toInt h) (fun hr1 r1 => gb (f_Mo_next (sc (i + 1)).toInt hr1) (fun hr2 r2 => if r1 = r2 then k hr2 else none))) else (if gand (sc i).toInt 31 = 8 then (gb (f_DS_foremost (sc (i + 1)).toInt (sc (i + 2)).toInt h) (fun hr1 r1 => gb (f_Mo_foremost (sc (i + 1)).toInt (sc (i + 2)).toInt hr1) (fun hr2 r2 => if r1 = r2 then k hr2 else none))) else (if gand (sc i).toInt 31 = 9 then (gb (f_DS_minute (sc (i + 1)).toInt h) (fun hr1 r1 => gb (f_Mo_minute (sc (i + 1)).toInt hr1) (fun hr2 r2 => if r1 = r2 then k hr2 else none))) else (if gand (sc i).toInt 31 = 10 then (gb (f_DS_drift (sc (i + 1)).toInt h) (fun hr1 r1 => gb (f_Mo_drift (sc (i + 1)).toInt hr1) (fun hr2 r2 => if r1 = r2 then k hr2 else none))) else (if gand (sc i).toInt 31 = 11 then (gb (f_DS_turn (sc (i + 1)).toInt h) (fun hr1 r1 => gb (f_Mo_turn (sc (i + 1)).toInt hr1) (fun hr2 r2 => if r1 = r2 then k hr2 else none))) else (if gand (sc i).toInt 31 = 12 then (gb (f_DS_law (sc (i + 1)).toInt (sc (i + 2)).toInt h) (fun hr1 r1 => gb (f_Mo_law (sc (i + 1)).toInt (sc (i + 2)).toInt hr1) (fun hr2 r2 => if r1 = r2 then k hr2 else none))) else (if gand (sc i).toInt 31 = 13 then (gb (f_DS_rank (sc (i + 1)).toInt (sc (i + 2)).toInt h) (fun hr1 r1 => gb (f_Mo_rank (sc (i + 1)).toInt (sc (i + 2)).toInt hr1) (fun hr2 r2 => if r1 = r2 then k hr2 else none))) else (if gand (sc i).toInt 31 = 14 then (gb (f_DS_allHome (sc (i + 1)).toInt (sc (i + 2)).toInt h) (fun hr1 r1 => gb (f_Mo_allHome (sc (i + 1)).toInt (sc (i + 2)).toInt hr1) (fun hr2 r2 => if r1 = r2 then k hr2 else none))) else (if gand (sc i).toInt 31 = 15 then (gb (f_DS_foreseen (sc (i + 1)).toInt (sc (i + 2)).toInt (sc (i + 3)).toInt h) (fun hr1 r1 => gb (f_Mo_foreseen (sc (i + 1)).toInt (sc (i + 2)).toInt (sc (i + 3)).toInt hr1) (fun hr2 r2 => if r1 = r2 then k hr2 else none))) else (if gand (sc i).toInt 31 = 16 then (gb (f_DS_bought (sc (i + 1)).toInt (sc (i + 2)).toInt (sc (i + 3)).toInt (sc (i + 4)).toInt h) (fun hr1 r1 => gb (f_Mo_bought (sc (i + 1)).toInt (sc (i + 2)).toInt (sc (i + 3)).toInt (sc (i + 4)).toInt hr1) (fun hr2 r2 => if r1 = r2 then k hr2 else none))) else (if gand (sc i).toInt 31 = 17 then (gb (f_DS_ranks (sc (i + 1)).toInt (sc (i + 2)).toInt h) (fun hr1 r1 => gb (f_Mo_ranks (sc (i + 1)).toInt (sc (i + 2)).toInt hr1) (fun hr2 r2 => if r1 = r2 then k hr2 else none))) else (if gand (sc i).toInt 31 = 18 then (gb (f_DS_bestLaw (sc (i + 1)).toInt (sc (i + 2)).toInt h) (fun hr1 r1 => gb (f_Mo_bestLaw (sc (i + 1)).toInt (sc (i + 2)).toInt hr1) (fun hr2 r2 => if r1 = r2 then k hr2 else none))) else (if gand (sc i).toInt 31 = 19 then (gb (f_DS_lost  h) (fun hr1 r1 => gb (f_Mo_lost  hr1) (fun hr2 r2 => if r1 = r2 then k hr2 else none))) else (if gand (sc i).toInt 31 = 20 then (gb (f_DS_costs (sc (i + 1)).toInt (sc (i + 2)).toInt h) (fun hr1 r1 => gb (f_Mo_costs (sc (i + 1)).toInt (sc (i + 2)).toInt hr1) (fun hr2 r2 => if r1 = r2 then k hr2 else none))) else (if gand (sc i).toInt 31 = 21 then (gb (f_DS_decree (sc (i + 1)).toInt h) (fun hr1 r1 => gb (f_Mo_decree (sc (i + 1)).toInt hr1) (fun hr2 r2 => if r1 = r2 then k hr2 else none))) else (if gand (sc i).toInt 31 = 22 then (gb (f_DS_rut (sc (i + 1)).toInt (sc (i + 2)).toInt (sc (i + 3)).toInt h) (fun hr1 r1 => gb (f_Mo_rut (sc (i + 1)).toInt (sc (i + 2)).toInt (sc (i + 3)).toInt hr1) (fun hr2 r2 => if r1 = r2 then k hr2 else none))) else (if gand (sc i).toInt 31 = 23 then (gb (f_DS_laws (sc (i + 1)).toInt h) (fun hr1 r1 => gb (f_Mo_laws (sc (i + 1)).toInt hr1) (fun hr2 r2 => if r1 = r2 then k hr2 else none))) else (if gand (sc i).toInt 31 = 24 then (gb (f_DS_write (sc (i + 1)).toInt (sc (i + 2)).toInt h) (fun hr1 r1 => gb (f_Mo_write (sc (i + 1)).toInt (sc (i + 2)).toInt hr1) (fun hr2 r2 => if r1 = r2 then k hr2 else none))) else (if gand (sc i).toInt 31 = 25 then (gb (f_DS_tear  h) (fun hr1 r1 => gb (f_Mo_tear  hr1) (fun hr2 r2 => if r1 = r2 then k hr2 else none))) else (if gand (sc i).toInt 31 = 26 then (gb (f_DS_judge  h) (fun hr1 r1 => gb (f_Mo_judge  hr1) (fun hr2 r2 => if r1 = r2 then k hr2 else none))) else (if gand (sc i).toInt 31 = 27 then (gb (f_DS_seed (sc (i + 1)).toInt h) (fun hr1 r1 => gb (f_Mo_seed (sc (i + 1)).toInt hr1) (fun hr2 r2 => if r1 = r2 then k hr2 else none))) else (if gand (sc i).toInt 31 = 28 then (gb (f_DS_keep (sc (i + 1)).toInt h) (fun hr1 r1 => gb (f_Mo_keep (sc (i + 1)).toInt hr1) (fun hr2 r2 => if r1 = r2 then k hr2 else none))) else (if gand (sc i).toInt 31 = 29 then (gb (f_DS_goBack (sc (i + 1)).toInt h) (fun hr1 r1 => gb (f_Mo_goBack (sc (i + 1)).toInt hr1) (fun hr2 r2 => if r1 = r2 then k hr2 else none))) else (k h))))))))))))))))))))))))))))))
def f_law (sc : Nat → Int32) (Ln : Nat) : Nat → Nat → gH → Option gO
  | 0, _, _ => none
  | n + 1, i, h => if Ln < i + 5 then some (h, 1) else f_case sc (f_law sc Ln n (i + 5)) i h
theorem gy_ite {x y : Option gO} {o : gO} {X : gX} {bs Ln : Nat} {sc : Nat → Int32} {h : gH} {pc i : Nat} {st : List Value} {c : Prop} {inst : Decidable c} (kt : c → gy x o X bs Ln sc h pc i st) (kf : ¬ c → gy y o X bs Ln sc h pc i st) : gy (@ite _ c inst x y) o X bs Ln sc h pc i st := by
  by_cases hc : c
  · rw [if_pos hc]; exact kt hc
  · rw [if_neg hc]; exact kf hc
set_option maxHeartbeats 4000000 in
theorem w_case {o : gO} {X : gX} {bs Ln : Nat} {sc : Nat → Int32} {h : gH} {i : Nat} {k : gH → Option gO} (hi : i + 5 ≤ Ln) (hk : ∀ h, gy (k h) o X bs Ln sc h 988 i []) : gy (f_case sc k i h) o X bs Ln sc h 32 i [.int (Int32.ofInt (sc i).toInt &&& Int32.ofInt 31)] := by
  unfold f_case
  refine gy_ite (fun c => ?_) (fun c0 => ?_)
  · refine y_case dl_32 0 ⟨by decide, by decide⟩ c rfl 168 rfl ?_
    refine y_x dl_168 ?_
    refine y_scrk (kk := 1) dl_169 dl_170 dl_171 dl_172 dl_173 (by decide) (by omega) ?_
    refine y_call (as := [.inl (sc (i + 1)).toInt]) dl_174 (by rfl) gcy_Law_13 gim_DS_feed gse_DS_feed ⟨by decide, by decide⟩ (Nat.le_of_ble_eq_true rfl) gsh_0 rfl (gRl_c (gRsc sc (i + 1)) gRl_n) (fun hL hn o1 hg ha hx => c_DS_feed hL hn hg ha hx) (fun hr1 r1 er1 => ?_)
    refine y_m dl_177 ?_
    refine y_scrk (kk := 1) dl_178 dl_179 dl_180 dl_181 dl_182 (by decide) (by omega) ?_
    refine y_call (as := [.inl (sc (i + 1)).toInt]) dl_183 (by rfl) gcy_Law_17 gim_Mo_feed gse_Mo_feed ⟨by decide, by decide⟩ (Nat.le_of_ble_eq_true rfl) gsh_83 rfl (gRl_c (gRsc sc (i + 1)) gRl_n) (fun hL hn o1 hg ha hx => c_Mo_feed hL hn hg ha hx) (fun hr2 r2 er2 => ?_)
    refine y_cmp er1 er2 dl_186 988 rfl ?_
    exact hk _
  refine gy_ite (fun c => ?_) (fun c1 => ?_)
  · refine y_case dl_32 1 ⟨by decide, by decide⟩ c rfl 191 rfl ?_
    refine y_x dl_191 ?_
    refine y_call (as := []) dl_192 (by rfl) gcy_Law_18 gim_DS_city gse_DS_city ⟨by decide, by decide⟩ (Nat.le_of_ble_eq_true rfl) gsh_0 rfl gRl_n (fun hL hn o1 hg ha hx => c_DS_city hL hn hg ha hx) (fun hr1 r1 er1 => ?_)
    refine y_m dl_195 ?_
    refine y_call (as := []) dl_196 (by rfl) gcy_Law_22 gim_Mo_city gse_Mo_city ⟨by decide, by decide⟩ (Nat.le_of_ble_eq_true rfl) gsh_83 rfl gRl_n (fun hL hn o1 hg ha hx => c_Mo_city hL hn hg ha hx) (fun hr2 r2 er2 => ?_)
    refine y_cmp er1 er2 dl_199 988 rfl ?_
    exact hk _
  refine gy_ite (fun c => ?_) (fun c2 => ?_)
  · refine y_case dl_32 2 ⟨by decide, by decide⟩ c rfl 204 rfl ?_
    refine y_x dl_204 ?_
    refine y_call (as := []) dl_205 (by rfl) gcy_Law_23 gim_DS_fault gse_DS_fault ⟨by decide, by decide⟩ (Nat.le_of_ble_eq_true rfl) gsh_0 rfl gRl_n (fun hL hn o1 hg ha hx => c_DS_fault hL hn hg ha hx) (fun hr1 r1 er1 => ?_)
    refine y_m dl_208 ?_
    refine y_call (as := []) dl_209 (by rfl) gcy_Law_26 gim_Mo_fault gse_Mo_fault ⟨by decide, by decide⟩ (Nat.le_of_ble_eq_true rfl) gsh_83 rfl gRl_n (fun hL hn o1 hg ha hx => c_Mo_fault hL hn hg ha hx) (fun hr2 r2 er2 => ?_)
    refine y_cmp er1 er2 dl_212 988 rfl ?_
    exact hk _
  refine gy_ite (fun c => ?_) (fun c3 => ?_)
  · refine y_case dl_32 3 ⟨by decide, by decide⟩ c rfl 217 rfl ?_
    refine y_x dl_217 ?_
    refine y_scrk (kk := 1) dl_218 dl_219 dl_220 dl_221 dl_222 (by decide) (by omega) ?_
    refine y_call (as := [.inl (sc (i + 1)).toInt]) dl_223 (by rfl) gcy_Law_27 gim_DS_told gse_DS_told ⟨by decide, by decide⟩ (Nat.le_of_ble_eq_true rfl) gsh_0 rfl (gRl_c (gRsc sc (i + 1)) gRl_n) (fun hL hn o1 hg ha hx => c_DS_told hL hn hg ha hx) (fun hr1 r1 er1 => ?_)
    refine y_m dl_226 ?_
    refine y_scrk (kk := 1) dl_227 dl_228 dl_229 dl_230 dl_231 (by decide) (by omega) ?_
    refine y_call (as := [.inl (sc (i + 1)).toInt]) dl_232 (by rfl) gcy_Law_30 gim_Mo_told gse_Mo_told ⟨by decide, by decide⟩ (Nat.le_of_ble_eq_true rfl) gsh_83 rfl (gRl_c (gRsc sc (i + 1)) gRl_n) (fun hL hn o1 hg ha hx => c_Mo_told hL hn hg ha hx) (fun hr2 r2 er2 => ?_)
    refine y_cmp er1 er2 dl_235 988 rfl ?_
    exact hk _
  refine gy_ite (fun c => ?_) (fun c4 => ?_)
  · refine y_case dl_32 4 ⟨by decide, by decide⟩ c rfl 240 rfl ?_
    refine y_x dl_240 ?_
    refine y_scrk (kk := 1) dl_241 dl_242 dl_243 dl_244 dl_245 (by decide) (by omega) ?_
    refine y_scrk (kk := 2) dl_246 dl_247 dl_248 dl_249 dl_250 (by decide) (by omega) ?_
    refine y_call (as := [.inl (sc (i + 1)).toInt, .inl (sc (i + 2)).toInt]) dl_251 (by rfl) gcy_Law_31 gim_DS_far gse_DS_far ⟨by decide, by decide⟩ (Nat.le_of_ble_eq_true rfl) gsh_0 rfl (gRl_c (gRsc sc (i + 1)) (gRl_c (gRsc sc (i + 2)) gRl_n)) (fun hL hn o1 hg ha hx => c_DS_far hL hn hg ha hx) (fun hr1 r1 er1 => ?_)
    refine y_m dl_254 ?_
    refine y_scrk (kk := 1) dl_255 dl_256 dl_257 dl_258 dl_259 (by decide) (by omega) ?_
    refine y_scrk (kk := 2) dl_260 dl_261 dl_262 dl_263 dl_264 (by decide) (by omega) ?_
    refine y_call (as := [.inl (sc (i + 1)).toInt, .inl (sc (i + 2)).toInt]) dl_265 (by rfl) gcy_Law_35 gim_Mo_far gse_Mo_far ⟨by decide, by decide⟩ (Nat.le_of_ble_eq_true rfl) gsh_83 rfl (gRl_c (gRsc sc (i + 1)) (gRl_c (gRsc sc (i + 2)) gRl_n)) (fun hL hn o1 hg ha hx => c_Mo_far hL hn hg ha hx) (fun hr2 r2 er2 => ?_)
    refine y_cmp er1 er2 dl_268 988 rfl ?_
    exact hk _
  refine gy_ite (fun c => ?_) (fun c5 => ?_)
  · refine y_case dl_32 5 ⟨by decide, by decide⟩ c rfl 273 rfl ?_
    refine y_x dl_273 ?_
    refine y_scrk (kk := 1) dl_274 dl_275 dl_276 dl_277 dl_278 (by decide) (by omega) ?_
    refine y_scrk (kk := 2) dl_279 dl_280 dl_281 dl_282 dl_283 (by decide) (by omega) ?_
    refine y_call (as := [.inl (sc (i + 1)).toInt, .inl (sc (i + 2)).toInt]) dl_284 (by rfl) gcy_Law_36 gim_DS_street gse_DS_street ⟨by decide, by decide⟩ (Nat.le_of_ble_eq_true rfl) gsh_0 rfl (gRl_c (gRsc sc (i + 1)) (gRl_c (gRsc sc (i + 2)) gRl_n)) (fun hL hn o1 hg ha hx => c_DS_street hL hn hg ha hx) (fun hr1 r1 er1 => ?_)
    refine y_m dl_287 ?_
    refine y_scrk (kk := 1) dl_288 dl_289 dl_290 dl_291 dl_292 (by decide) (by omega) ?_
    refine y_scrk (kk := 2) dl_293 dl_294 dl_295 dl_296 dl_297 (by decide) (by omega) ?_
    refine y_call (as := [.inl (sc (i + 1)).toInt, .inl (sc (i + 2)).toInt]) dl_298 (by rfl) gcy_Law_39 gim_Mo_street gse_Mo_street ⟨by decide, by decide⟩ (Nat.le_of_ble_eq_true rfl) gsh_83 rfl (gRl_c (gRsc sc (i + 1)) (gRl_c (gRsc sc (i + 2)) gRl_n)) (fun hL hn o1 hg ha hx => c_Mo_street hL hn hg ha hx) (fun hr2 r2 er2 => ?_)
    refine y_cmp er1 er2 dl_301 988 rfl ?_
    exact hk _
  refine gy_ite (fun c => ?_) (fun c6 => ?_)
  · refine y_case dl_32 6 ⟨by decide, by decide⟩ c rfl 306 rfl ?_
    refine y_x dl_306 ?_
    refine y_scrk (kk := 1) dl_307 dl_308 dl_309 dl_310 dl_311 (by decide) (by omega) ?_
    refine y_scrk (kk := 2) dl_312 dl_313 dl_314 dl_315 dl_316 (by decide) (by omega) ?_
    refine y_call (as := [.inl (sc (i + 1)).toInt, .inl (sc (i + 2)).toInt]) dl_317 (by rfl) gcy_Law_40 gim_DS_cart gse_DS_cart ⟨by decide, by decide⟩ (Nat.le_of_ble_eq_true rfl) gsh_0 rfl (gRl_c (gRsc sc (i + 1)) (gRl_c (gRsc sc (i + 2)) gRl_n)) (fun hL hn o1 hg ha hx => c_DS_cart hL hn hg ha hx) (fun hr1 r1 er1 => ?_)
    refine y_m dl_320 ?_
    refine y_scrk (kk := 1) dl_321 dl_322 dl_323 dl_324 dl_325 (by decide) (by omega) ?_
    refine y_scrk (kk := 2) dl_326 dl_327 dl_328 dl_329 dl_330 (by decide) (by omega) ?_
    refine y_call (as := [.inl (sc (i + 1)).toInt, .inl (sc (i + 2)).toInt]) dl_331 (by rfl) gcy_Law_43 gim_Mo_cart gse_Mo_cart ⟨by decide, by decide⟩ (Nat.le_of_ble_eq_true rfl) gsh_83 rfl (gRl_c (gRsc sc (i + 1)) (gRl_c (gRsc sc (i + 2)) gRl_n)) (fun hL hn o1 hg ha hx => c_Mo_cart hL hn hg ha hx) (fun hr2 r2 er2 => ?_)
    refine y_cmp er1 er2 dl_334 988 rfl ?_
    exact hk _
  refine gy_ite (fun c => ?_) (fun c7 => ?_)
  · refine y_case dl_32 7 ⟨by decide, by decide⟩ c rfl 339 rfl ?_
    refine y_x dl_339 ?_
    refine y_scrk (kk := 1) dl_340 dl_341 dl_342 dl_343 dl_344 (by decide) (by omega) ?_
    refine y_call (as := [.inl (sc (i + 1)).toInt]) dl_345 (by rfl) gcy_Law_44 gim_DS_next gse_DS_next ⟨by decide, by decide⟩ (Nat.le_of_ble_eq_true rfl) gsh_0 rfl (gRl_c (gRsc sc (i + 1)) gRl_n) (fun hL hn o1 hg ha hx => c_DS_next hL hn hg ha hx) (fun hr1 r1 er1 => ?_)
    refine y_m dl_348 ?_
    refine y_scrk (kk := 1) dl_349 dl_350 dl_351 dl_352 dl_353 (by decide) (by omega) ?_
    refine y_call (as := [.inl (sc (i + 1)).toInt]) dl_354 (by rfl) gcy_Law_47 gim_Mo_next gse_Mo_next ⟨by decide, by decide⟩ (Nat.le_of_ble_eq_true rfl) gsh_83 rfl (gRl_c (gRsc sc (i + 1)) gRl_n) (fun hL hn o1 hg ha hx => c_Mo_next hL hn hg ha hx) (fun hr2 r2 er2 => ?_)
    refine y_cmp er1 er2 dl_357 988 rfl ?_
    exact hk _
  refine gy_ite (fun c => ?_) (fun c8 => ?_)
  · refine y_case dl_32 8 ⟨by decide, by decide⟩ c rfl 362 rfl ?_
    refine y_x dl_362 ?_
    refine y_scrk (kk := 1) dl_363 dl_364 dl_365 dl_366 dl_367 (by decide) (by omega) ?_
    refine y_scrk (kk := 2) dl_368 dl_369 dl_370 dl_371 dl_372 (by decide) (by omega) ?_
    refine y_call (as := [.inl (sc (i + 1)).toInt, .inl (sc (i + 2)).toInt]) dl_373 (by rfl) gcy_Law_48 gim_DS_foremost gse_DS_foremost ⟨by decide, by decide⟩ (Nat.le_of_ble_eq_true rfl) gsh_0 rfl (gRl_c (gRsc sc (i + 1)) (gRl_c (gRsc sc (i + 2)) gRl_n)) (fun hL hn o1 hg ha hx => c_DS_foremost hL hn hg ha hx) (fun hr1 r1 er1 => ?_)
    refine y_m dl_376 ?_
    refine y_scrk (kk := 1) dl_377 dl_378 dl_379 dl_380 dl_381 (by decide) (by omega) ?_
    refine y_scrk (kk := 2) dl_382 dl_383 dl_384 dl_385 dl_386 (by decide) (by omega) ?_
    refine y_call (as := [.inl (sc (i + 1)).toInt, .inl (sc (i + 2)).toInt]) dl_387 (by rfl) gcy_Law_51 gim_Mo_foremost gse_Mo_foremost ⟨by decide, by decide⟩ (Nat.le_of_ble_eq_true rfl) gsh_83 rfl (gRl_c (gRsc sc (i + 1)) (gRl_c (gRsc sc (i + 2)) gRl_n)) (fun hL hn o1 hg ha hx => c_Mo_foremost hL hn hg ha hx) (fun hr2 r2 er2 => ?_)
    refine y_cmp er1 er2 dl_390 988 rfl ?_
    exact hk _
  refine gy_ite (fun c => ?_) (fun c9 => ?_)
  · refine y_case dl_32 9 ⟨by decide, by decide⟩ c rfl 395 rfl ?_
    refine y_x dl_395 ?_
    refine y_scrk (kk := 1) dl_396 dl_397 dl_398 dl_399 dl_400 (by decide) (by omega) ?_
    refine y_call (as := [.inl (sc (i + 1)).toInt]) dl_401 (by rfl) gcy_Law_52 gim_DS_minute gse_DS_minute ⟨by decide, by decide⟩ (Nat.le_of_ble_eq_true rfl) gsh_0 rfl (gRl_c (gRsc sc (i + 1)) gRl_n) (fun hL hn o1 hg ha hx => c_DS_minute hL hn hg ha hx) (fun hr1 r1 er1 => ?_)
    refine y_m dl_404 ?_
    refine y_scrk (kk := 1) dl_405 dl_406 dl_407 dl_408 dl_409 (by decide) (by omega) ?_
    refine y_call (as := [.inl (sc (i + 1)).toInt]) dl_410 (by rfl) gcy_Law_55 gim_Mo_minute gse_Mo_minute ⟨by decide, by decide⟩ (Nat.le_of_ble_eq_true rfl) gsh_83 rfl (gRl_c (gRsc sc (i + 1)) gRl_n) (fun hL hn o1 hg ha hx => c_Mo_minute hL hn hg ha hx) (fun hr2 r2 er2 => ?_)
    refine y_cmp er1 er2 dl_413 988 rfl ?_
    exact hk _
  refine gy_ite (fun c => ?_) (fun c10 => ?_)
  · refine y_case dl_32 10 ⟨by decide, by decide⟩ c rfl 418 rfl ?_
    refine y_x dl_418 ?_
    refine y_scrk (kk := 1) dl_419 dl_420 dl_421 dl_422 dl_423 (by decide) (by omega) ?_
    refine y_call (as := [.inl (sc (i + 1)).toInt]) dl_424 (by rfl) gcy_Law_56 gim_DS_drift gse_DS_drift ⟨by decide, by decide⟩ (Nat.le_of_ble_eq_true rfl) gsh_0 rfl (gRl_c (gRsc sc (i + 1)) gRl_n) (fun hL hn o1 hg ha hx => c_DS_drift hL hn hg ha hx) (fun hr1 r1 er1 => ?_)
    refine y_m dl_427 ?_
    refine y_scrk (kk := 1) dl_428 dl_429 dl_430 dl_431 dl_432 (by decide) (by omega) ?_
    refine y_call (as := [.inl (sc (i + 1)).toInt]) dl_433 (by rfl) gcy_Law_59 gim_Mo_drift gse_Mo_drift ⟨by decide, by decide⟩ (Nat.le_of_ble_eq_true rfl) gsh_83 rfl (gRl_c (gRsc sc (i + 1)) gRl_n) (fun hL hn o1 hg ha hx => c_Mo_drift hL hn hg ha hx) (fun hr2 r2 er2 => ?_)
    refine y_cmp er1 er2 dl_436 988 rfl ?_
    exact hk _
  refine gy_ite (fun c => ?_) (fun c11 => ?_)
  · refine y_case dl_32 11 ⟨by decide, by decide⟩ c rfl 441 rfl ?_
    refine y_x dl_441 ?_
    refine y_scrk (kk := 1) dl_442 dl_443 dl_444 dl_445 dl_446 (by decide) (by omega) ?_
    refine y_call (as := [.inl (sc (i + 1)).toInt]) dl_447 (by rfl) gcy_Law_60 gim_DS_turn gse_DS_turn ⟨by decide, by decide⟩ (Nat.le_of_ble_eq_true rfl) gsh_0 rfl (gRl_c (gRsc sc (i + 1)) gRl_n) (fun hL hn o1 hg ha hx => c_DS_turn hL hn hg ha hx) (fun hr1 r1 er1 => ?_)
    refine y_m dl_450 ?_
    refine y_scrk (kk := 1) dl_451 dl_452 dl_453 dl_454 dl_455 (by decide) (by omega) ?_
    refine y_call (as := [.inl (sc (i + 1)).toInt]) dl_456 (by rfl) gcy_Law_63 gim_Mo_turn gse_Mo_turn ⟨by decide, by decide⟩ (Nat.le_of_ble_eq_true rfl) gsh_83 rfl (gRl_c (gRsc sc (i + 1)) gRl_n) (fun hL hn o1 hg ha hx => c_Mo_turn hL hn hg ha hx) (fun hr2 r2 er2 => ?_)
    refine y_cmp er1 er2 dl_459 988 rfl ?_
    exact hk _
  refine gy_ite (fun c => ?_) (fun c12 => ?_)
  · refine y_case dl_32 12 ⟨by decide, by decide⟩ c rfl 464 rfl ?_
    refine y_x dl_464 ?_
    refine y_scrk (kk := 1) dl_465 dl_466 dl_467 dl_468 dl_469 (by decide) (by omega) ?_
    refine y_scrk (kk := 2) dl_470 dl_471 dl_472 dl_473 dl_474 (by decide) (by omega) ?_
    refine y_call (as := [.inl (sc (i + 1)).toInt, .inl (sc (i + 2)).toInt]) dl_475 (by rfl) gcy_Law_64 gim_DS_law gse_DS_law ⟨by decide, by decide⟩ (Nat.le_of_ble_eq_true rfl) gsh_0 rfl (gRl_c (gRsc sc (i + 1)) (gRl_c (gRsc sc (i + 2)) gRl_n)) (fun hL hn o1 hg ha hx => c_DS_law hL hn hg ha hx) (fun hr1 r1 er1 => ?_)
    refine y_m dl_478 ?_
    refine y_scrk (kk := 1) dl_479 dl_480 dl_481 dl_482 dl_483 (by decide) (by omega) ?_
    refine y_scrk (kk := 2) dl_484 dl_485 dl_486 dl_487 dl_488 (by decide) (by omega) ?_
    refine y_call (as := [.inl (sc (i + 1)).toInt, .inl (sc (i + 2)).toInt]) dl_489 (by rfl) gcy_Law_67 gim_Mo_law gse_Mo_law ⟨by decide, by decide⟩ (Nat.le_of_ble_eq_true rfl) gsh_83 rfl (gRl_c (gRsc sc (i + 1)) (gRl_c (gRsc sc (i + 2)) gRl_n)) (fun hL hn o1 hg ha hx => c_Mo_law hL hn hg ha hx) (fun hr2 r2 er2 => ?_)
    refine y_cmp er1 er2 dl_492 988 rfl ?_
    exact hk _
  refine gy_ite (fun c => ?_) (fun c13 => ?_)
  · refine y_case dl_32 13 ⟨by decide, by decide⟩ c rfl 497 rfl ?_
    refine y_x dl_497 ?_
    refine y_scrk (kk := 1) dl_498 dl_499 dl_500 dl_501 dl_502 (by decide) (by omega) ?_
    refine y_scrk (kk := 2) dl_503 dl_504 dl_505 dl_506 dl_507 (by decide) (by omega) ?_
    refine y_call (as := [.inl (sc (i + 1)).toInt, .inl (sc (i + 2)).toInt]) dl_508 (by rfl) gcy_Law_68 gim_DS_rank gse_DS_rank ⟨by decide, by decide⟩ (Nat.le_of_ble_eq_true rfl) gsh_0 rfl (gRl_c (gRsc sc (i + 1)) (gRl_c (gRsc sc (i + 2)) gRl_n)) (fun hL hn o1 hg ha hx => c_DS_rank hL hn hg ha hx) (fun hr1 r1 er1 => ?_)
    refine y_m dl_511 ?_
    refine y_scrk (kk := 1) dl_512 dl_513 dl_514 dl_515 dl_516 (by decide) (by omega) ?_
    refine y_scrk (kk := 2) dl_517 dl_518 dl_519 dl_520 dl_521 (by decide) (by omega) ?_
    refine y_call (as := [.inl (sc (i + 1)).toInt, .inl (sc (i + 2)).toInt]) dl_522 (by rfl) gcy_Law_71 gim_Mo_rank gse_Mo_rank ⟨by decide, by decide⟩ (Nat.le_of_ble_eq_true rfl) gsh_83 rfl (gRl_c (gRsc sc (i + 1)) (gRl_c (gRsc sc (i + 2)) gRl_n)) (fun hL hn o1 hg ha hx => c_Mo_rank hL hn hg ha hx) (fun hr2 r2 er2 => ?_)
    refine y_cmp er1 er2 dl_525 988 rfl ?_
    exact hk _
  refine gy_ite (fun c => ?_) (fun c14 => ?_)
  · refine y_case dl_32 14 ⟨by decide, by decide⟩ c rfl 530 rfl ?_
    refine y_x dl_530 ?_
    refine y_scrk (kk := 1) dl_531 dl_532 dl_533 dl_534 dl_535 (by decide) (by omega) ?_
    refine y_scrk (kk := 2) dl_536 dl_537 dl_538 dl_539 dl_540 (by decide) (by omega) ?_
    refine y_call (as := [.inl (sc (i + 1)).toInt, .inl (sc (i + 2)).toInt]) dl_541 (by rfl) gcy_Law_72 gim_DS_allHome gse_DS_allHome ⟨by decide, by decide⟩ (Nat.le_of_ble_eq_true rfl) gsh_0 rfl (gRl_c (gRsc sc (i + 1)) (gRl_c (gRsc sc (i + 2)) gRl_n)) (fun hL hn o1 hg ha hx => c_DS_allHome hL hn hg ha hx) (fun hr1 r1 er1 => ?_)
    refine y_m dl_544 ?_
    refine y_scrk (kk := 1) dl_545 dl_546 dl_547 dl_548 dl_549 (by decide) (by omega) ?_
    refine y_scrk (kk := 2) dl_550 dl_551 dl_552 dl_553 dl_554 (by decide) (by omega) ?_
    refine y_call (as := [.inl (sc (i + 1)).toInt, .inl (sc (i + 2)).toInt]) dl_555 (by rfl) gcy_Law_75 gim_Mo_allHome gse_Mo_allHome ⟨by decide, by decide⟩ (Nat.le_of_ble_eq_true rfl) gsh_83 rfl (gRl_c (gRsc sc (i + 1)) (gRl_c (gRsc sc (i + 2)) gRl_n)) (fun hL hn o1 hg ha hx => c_Mo_allHome hL hn hg ha hx) (fun hr2 r2 er2 => ?_)
    refine y_cmp er1 er2 dl_558 988 rfl ?_
    exact hk _
  refine gy_ite (fun c => ?_) (fun c15 => ?_)
  · refine y_case dl_32 15 ⟨by decide, by decide⟩ c rfl 563 rfl ?_
    refine y_x dl_563 ?_
    refine y_scrk (kk := 1) dl_564 dl_565 dl_566 dl_567 dl_568 (by decide) (by omega) ?_
    refine y_scrk (kk := 2) dl_569 dl_570 dl_571 dl_572 dl_573 (by decide) (by omega) ?_
    refine y_scrk (kk := 3) dl_574 dl_575 dl_576 dl_577 dl_578 (by decide) (by omega) ?_
    refine y_call (as := [.inl (sc (i + 1)).toInt, .inl (sc (i + 2)).toInt, .inl (sc (i + 3)).toInt]) dl_579 (by rfl) gcy_Law_76 gim_DS_foreseen gse_DS_foreseen ⟨by decide, by decide⟩ (Nat.le_of_ble_eq_true rfl) gsh_0 rfl (gRl_c (gRsc sc (i + 1)) (gRl_c (gRsc sc (i + 2)) (gRl_c (gRsc sc (i + 3)) gRl_n))) (fun hL hn o1 hg ha hx => c_DS_foreseen hL hn hg ha hx) (fun hr1 r1 er1 => ?_)
    refine y_m dl_582 ?_
    refine y_scrk (kk := 1) dl_583 dl_584 dl_585 dl_586 dl_587 (by decide) (by omega) ?_
    refine y_scrk (kk := 2) dl_588 dl_589 dl_590 dl_591 dl_592 (by decide) (by omega) ?_
    refine y_scrk (kk := 3) dl_593 dl_594 dl_595 dl_596 dl_597 (by decide) (by omega) ?_
    refine y_call (as := [.inl (sc (i + 1)).toInt, .inl (sc (i + 2)).toInt, .inl (sc (i + 3)).toInt]) dl_598 (by rfl) gcy_Law_80 gim_Mo_foreseen gse_Mo_foreseen ⟨by decide, by decide⟩ (Nat.le_of_ble_eq_true rfl) gsh_83 rfl (gRl_c (gRsc sc (i + 1)) (gRl_c (gRsc sc (i + 2)) (gRl_c (gRsc sc (i + 3)) gRl_n))) (fun hL hn o1 hg ha hx => c_Mo_foreseen hL hn hg ha hx) (fun hr2 r2 er2 => ?_)
    refine y_cmp er1 er2 dl_601 988 rfl ?_
    exact hk _
  refine gy_ite (fun c => ?_) (fun c16 => ?_)
  · refine y_case dl_32 16 ⟨by decide, by decide⟩ c rfl 606 rfl ?_
    refine y_x dl_606 ?_
    refine y_scrk (kk := 1) dl_607 dl_608 dl_609 dl_610 dl_611 (by decide) (by omega) ?_
    refine y_scrk (kk := 2) dl_612 dl_613 dl_614 dl_615 dl_616 (by decide) (by omega) ?_
    refine y_scrk (kk := 3) dl_617 dl_618 dl_619 dl_620 dl_621 (by decide) (by omega) ?_
    refine y_scrk (kk := 4) dl_622 dl_623 dl_624 dl_625 dl_626 (by decide) (by omega) ?_
    refine y_call (as := [.inl (sc (i + 1)).toInt, .inl (sc (i + 2)).toInt, .inl (sc (i + 3)).toInt, .inl (sc (i + 4)).toInt]) dl_627 (by rfl) gcy_Law_81 gim_DS_bought gse_DS_bought ⟨by decide, by decide⟩ (Nat.le_of_ble_eq_true rfl) gsh_0 rfl (gRl_c (gRsc sc (i + 1)) (gRl_c (gRsc sc (i + 2)) (gRl_c (gRsc sc (i + 3)) (gRl_c (gRsc sc (i + 4)) gRl_n)))) (fun hL hn o1 hg ha hx => c_DS_bought hL hn hg ha hx) (fun hr1 r1 er1 => ?_)
    refine y_m dl_630 ?_
    refine y_scrk (kk := 1) dl_631 dl_632 dl_633 dl_634 dl_635 (by decide) (by omega) ?_
    refine y_scrk (kk := 2) dl_636 dl_637 dl_638 dl_639 dl_640 (by decide) (by omega) ?_
    refine y_scrk (kk := 3) dl_641 dl_642 dl_643 dl_644 dl_645 (by decide) (by omega) ?_
    refine y_scrk (kk := 4) dl_646 dl_647 dl_648 dl_649 dl_650 (by decide) (by omega) ?_
    refine y_call (as := [.inl (sc (i + 1)).toInt, .inl (sc (i + 2)).toInt, .inl (sc (i + 3)).toInt, .inl (sc (i + 4)).toInt]) dl_651 (by rfl) gcy_Law_85 gim_Mo_bought gse_Mo_bought ⟨by decide, by decide⟩ (Nat.le_of_ble_eq_true rfl) gsh_83 rfl (gRl_c (gRsc sc (i + 1)) (gRl_c (gRsc sc (i + 2)) (gRl_c (gRsc sc (i + 3)) (gRl_c (gRsc sc (i + 4)) gRl_n)))) (fun hL hn o1 hg ha hx => c_Mo_bought hL hn hg ha hx) (fun hr2 r2 er2 => ?_)
    refine y_cmp er1 er2 dl_654 988 rfl ?_
    exact hk _
  refine gy_ite (fun c => ?_) (fun c17 => ?_)
  · refine y_case dl_32 17 ⟨by decide, by decide⟩ c rfl 659 rfl ?_
    refine y_x dl_659 ?_
    refine y_scrk (kk := 1) dl_660 dl_661 dl_662 dl_663 dl_664 (by decide) (by omega) ?_
    refine y_scrk (kk := 2) dl_665 dl_666 dl_667 dl_668 dl_669 (by decide) (by omega) ?_
    refine y_call (as := [.inl (sc (i + 1)).toInt, .inl (sc (i + 2)).toInt]) dl_670 (by rfl) gcy_Law_86 gim_DS_ranks gse_DS_ranks ⟨by decide, by decide⟩ (Nat.le_of_ble_eq_true rfl) gsh_0 rfl (gRl_c (gRsc sc (i + 1)) (gRl_c (gRsc sc (i + 2)) gRl_n)) (fun hL hn o1 hg ha hx => c_DS_ranks hL hn hg ha hx) (fun hr1 r1 er1 => ?_)
    refine y_m dl_673 ?_
    refine y_scrk (kk := 1) dl_674 dl_675 dl_676 dl_677 dl_678 (by decide) (by omega) ?_
    refine y_scrk (kk := 2) dl_679 dl_680 dl_681 dl_682 dl_683 (by decide) (by omega) ?_
    refine y_call (as := [.inl (sc (i + 1)).toInt, .inl (sc (i + 2)).toInt]) dl_684 (by rfl) gcy_Law_89 gim_Mo_ranks gse_Mo_ranks ⟨by decide, by decide⟩ (Nat.le_of_ble_eq_true rfl) gsh_83 rfl (gRl_c (gRsc sc (i + 1)) (gRl_c (gRsc sc (i + 2)) gRl_n)) (fun hL hn o1 hg ha hx => c_Mo_ranks hL hn hg ha hx) (fun hr2 r2 er2 => ?_)
    refine y_cmp er1 er2 dl_687 988 rfl ?_
    exact hk _
  refine gy_ite (fun c => ?_) (fun c18 => ?_)
  · refine y_case dl_32 18 ⟨by decide, by decide⟩ c rfl 692 rfl ?_
    refine y_x dl_692 ?_
    refine y_scrk (kk := 1) dl_693 dl_694 dl_695 dl_696 dl_697 (by decide) (by omega) ?_
    refine y_scrk (kk := 2) dl_698 dl_699 dl_700 dl_701 dl_702 (by decide) (by omega) ?_
    refine y_call (as := [.inl (sc (i + 1)).toInt, .inl (sc (i + 2)).toInt]) dl_703 (by rfl) gcy_Law_90 gim_DS_bestLaw gse_DS_bestLaw ⟨by decide, by decide⟩ (Nat.le_of_ble_eq_true rfl) gsh_0 rfl (gRl_c (gRsc sc (i + 1)) (gRl_c (gRsc sc (i + 2)) gRl_n)) (fun hL hn o1 hg ha hx => c_DS_bestLaw hL hn hg ha hx) (fun hr1 r1 er1 => ?_)
    refine y_m dl_706 ?_
    refine y_scrk (kk := 1) dl_707 dl_708 dl_709 dl_710 dl_711 (by decide) (by omega) ?_
    refine y_scrk (kk := 2) dl_712 dl_713 dl_714 dl_715 dl_716 (by decide) (by omega) ?_
    refine y_call (as := [.inl (sc (i + 1)).toInt, .inl (sc (i + 2)).toInt]) dl_717 (by rfl) gcy_Law_93 gim_Mo_bestLaw gse_Mo_bestLaw ⟨by decide, by decide⟩ (Nat.le_of_ble_eq_true rfl) gsh_83 rfl (gRl_c (gRsc sc (i + 1)) (gRl_c (gRsc sc (i + 2)) gRl_n)) (fun hL hn o1 hg ha hx => c_Mo_bestLaw hL hn hg ha hx) (fun hr2 r2 er2 => ?_)
    refine y_cmp er1 er2 dl_720 988 rfl ?_
    exact hk _
  refine gy_ite (fun c => ?_) (fun c19 => ?_)
  · refine y_case dl_32 19 ⟨by decide, by decide⟩ c rfl 725 rfl ?_
    refine y_x dl_725 ?_
    refine y_call (as := []) dl_726 (by rfl) gcy_Law_94 gim_DS_lost gse_DS_lost ⟨by decide, by decide⟩ (Nat.le_of_ble_eq_true rfl) gsh_0 rfl gRl_n (fun hL hn o1 hg ha hx => c_DS_lost hL hn hg ha hx) (fun hr1 r1 er1 => ?_)
    refine y_m dl_729 ?_
    refine y_call (as := []) dl_730 (by rfl) gcy_Law_97 gim_Mo_lost gse_Mo_lost ⟨by decide, by decide⟩ (Nat.le_of_ble_eq_true rfl) gsh_83 rfl gRl_n (fun hL hn o1 hg ha hx => c_Mo_lost hL hn hg ha hx) (fun hr2 r2 er2 => ?_)
    refine y_cmp er1 er2 dl_733 988 rfl ?_
    exact hk _
  refine gy_ite (fun c => ?_) (fun c20 => ?_)
  · refine y_case dl_32 20 ⟨by decide, by decide⟩ c rfl 738 rfl ?_
    refine y_x dl_738 ?_
    refine y_scrk (kk := 1) dl_739 dl_740 dl_741 dl_742 dl_743 (by decide) (by omega) ?_
    refine y_scrk (kk := 2) dl_744 dl_745 dl_746 dl_747 dl_748 (by decide) (by omega) ?_
    refine y_call (as := [.inl (sc (i + 1)).toInt, .inl (sc (i + 2)).toInt]) dl_749 (by rfl) gcy_Law_98 gim_DS_costs gse_DS_costs ⟨by decide, by decide⟩ (Nat.le_of_ble_eq_true rfl) gsh_0 rfl (gRl_c (gRsc sc (i + 1)) (gRl_c (gRsc sc (i + 2)) gRl_n)) (fun hL hn o1 hg ha hx => c_DS_costs hL hn hg ha hx) (fun hr1 r1 er1 => ?_)
    refine y_m dl_752 ?_
    refine y_scrk (kk := 1) dl_753 dl_754 dl_755 dl_756 dl_757 (by decide) (by omega) ?_
    refine y_scrk (kk := 2) dl_758 dl_759 dl_760 dl_761 dl_762 (by decide) (by omega) ?_
    refine y_call (as := [.inl (sc (i + 1)).toInt, .inl (sc (i + 2)).toInt]) dl_763 (by rfl) gcy_Law_101 gim_Mo_costs gse_Mo_costs ⟨by decide, by decide⟩ (Nat.le_of_ble_eq_true rfl) gsh_83 rfl (gRl_c (gRsc sc (i + 1)) (gRl_c (gRsc sc (i + 2)) gRl_n)) (fun hL hn o1 hg ha hx => c_Mo_costs hL hn hg ha hx) (fun hr2 r2 er2 => ?_)
    refine y_cmp er1 er2 dl_766 988 rfl ?_
    exact hk _
  refine gy_ite (fun c => ?_) (fun c21 => ?_)
  · refine y_case dl_32 21 ⟨by decide, by decide⟩ c rfl 771 rfl ?_
    refine y_x dl_771 ?_
    refine y_scrk (kk := 1) dl_772 dl_773 dl_774 dl_775 dl_776 (by decide) (by omega) ?_
    refine y_call (as := [.inl (sc (i + 1)).toInt]) dl_777 (by rfl) gcy_Law_102 gim_DS_decree gse_DS_decree ⟨by decide, by decide⟩ (Nat.le_of_ble_eq_true rfl) gsh_0 rfl (gRl_c (gRsc sc (i + 1)) gRl_n) (fun hL hn o1 hg ha hx => c_DS_decree hL hn hg ha hx) (fun hr1 r1 er1 => ?_)
    refine y_m dl_780 ?_
    refine y_scrk (kk := 1) dl_781 dl_782 dl_783 dl_784 dl_785 (by decide) (by omega) ?_
    refine y_call (as := [.inl (sc (i + 1)).toInt]) dl_786 (by rfl) gcy_Law_105 gim_Mo_decree gse_Mo_decree ⟨by decide, by decide⟩ (Nat.le_of_ble_eq_true rfl) gsh_83 rfl (gRl_c (gRsc sc (i + 1)) gRl_n) (fun hL hn o1 hg ha hx => c_Mo_decree hL hn hg ha hx) (fun hr2 r2 er2 => ?_)
    refine y_cmp er1 er2 dl_789 988 rfl ?_
    exact hk _
  refine gy_ite (fun c => ?_) (fun c22 => ?_)
  · refine y_case dl_32 22 ⟨by decide, by decide⟩ c rfl 794 rfl ?_
    refine y_x dl_794 ?_
    refine y_scrk (kk := 1) dl_795 dl_796 dl_797 dl_798 dl_799 (by decide) (by omega) ?_
    refine y_scrk (kk := 2) dl_800 dl_801 dl_802 dl_803 dl_804 (by decide) (by omega) ?_
    refine y_scrk (kk := 3) dl_805 dl_806 dl_807 dl_808 dl_809 (by decide) (by omega) ?_
    refine y_call (as := [.inl (sc (i + 1)).toInt, .inl (sc (i + 2)).toInt, .inl (sc (i + 3)).toInt]) dl_810 (by rfl) gcy_Law_106 gim_DS_rut gse_DS_rut ⟨by decide, by decide⟩ (Nat.le_of_ble_eq_true rfl) gsh_0 rfl (gRl_c (gRsc sc (i + 1)) (gRl_c (gRsc sc (i + 2)) (gRl_c (gRsc sc (i + 3)) gRl_n))) (fun hL hn o1 hg ha hx => c_DS_rut hL hn hg ha hx) (fun hr1 r1 er1 => ?_)
    refine y_m dl_813 ?_
    refine y_scrk (kk := 1) dl_814 dl_815 dl_816 dl_817 dl_818 (by decide) (by omega) ?_
    refine y_scrk (kk := 2) dl_819 dl_820 dl_821 dl_822 dl_823 (by decide) (by omega) ?_
    refine y_scrk (kk := 3) dl_824 dl_825 dl_826 dl_827 dl_828 (by decide) (by omega) ?_
    refine y_call (as := [.inl (sc (i + 1)).toInt, .inl (sc (i + 2)).toInt, .inl (sc (i + 3)).toInt]) dl_829 (by rfl) gcy_Law_109 gim_Mo_rut gse_Mo_rut ⟨by decide, by decide⟩ (Nat.le_of_ble_eq_true rfl) gsh_83 rfl (gRl_c (gRsc sc (i + 1)) (gRl_c (gRsc sc (i + 2)) (gRl_c (gRsc sc (i + 3)) gRl_n))) (fun hL hn o1 hg ha hx => c_Mo_rut hL hn hg ha hx) (fun hr2 r2 er2 => ?_)
    refine y_cmp er1 er2 dl_832 988 rfl ?_
    exact hk _
  refine gy_ite (fun c => ?_) (fun c23 => ?_)
  · refine y_case dl_32 23 ⟨by decide, by decide⟩ c rfl 837 rfl ?_
    refine y_x dl_837 ?_
    refine y_scrk (kk := 1) dl_838 dl_839 dl_840 dl_841 dl_842 (by decide) (by omega) ?_
    refine y_call (as := [.inl (sc (i + 1)).toInt]) dl_843 (by rfl) gcy_Law_110 gim_DS_laws gse_DS_laws ⟨by decide, by decide⟩ (Nat.le_of_ble_eq_true rfl) gsh_0 rfl (gRl_c (gRsc sc (i + 1)) gRl_n) (fun hL hn o1 hg ha hx => c_DS_laws hL hn hg ha hx) (fun hr1 r1 er1 => ?_)
    refine y_m dl_846 ?_
    refine y_scrk (kk := 1) dl_847 dl_848 dl_849 dl_850 dl_851 (by decide) (by omega) ?_
    refine y_call (as := [.inl (sc (i + 1)).toInt]) dl_852 (by rfl) gcy_Law_113 gim_Mo_laws gse_Mo_laws ⟨by decide, by decide⟩ (Nat.le_of_ble_eq_true rfl) gsh_83 rfl (gRl_c (gRsc sc (i + 1)) gRl_n) (fun hL hn o1 hg ha hx => c_Mo_laws hL hn hg ha hx) (fun hr2 r2 er2 => ?_)
    refine y_cmp er1 er2 dl_855 988 rfl ?_
    exact hk _
  refine gy_ite (fun c => ?_) (fun c24 => ?_)
  · refine y_case dl_32 24 ⟨by decide, by decide⟩ c rfl 860 rfl ?_
    refine y_x dl_860 ?_
    refine y_scrk (kk := 1) dl_861 dl_862 dl_863 dl_864 dl_865 (by decide) (by omega) ?_
    refine y_scrk (kk := 2) dl_866 dl_867 dl_868 dl_869 dl_870 (by decide) (by omega) ?_
    refine y_call (as := [.inl (sc (i + 1)).toInt, .inl (sc (i + 2)).toInt]) dl_871 (by rfl) gcy_Law_114 gim_DS_write gse_DS_write ⟨by decide, by decide⟩ (Nat.le_of_ble_eq_true rfl) gsh_0 rfl (gRl_c (gRsc sc (i + 1)) (gRl_c (gRsc sc (i + 2)) gRl_n)) (fun hL hn o1 hg ha hx => c_DS_write hL hn hg ha hx) (fun hr1 r1 er1 => ?_)
    refine y_m dl_874 ?_
    refine y_scrk (kk := 1) dl_875 dl_876 dl_877 dl_878 dl_879 (by decide) (by omega) ?_
    refine y_scrk (kk := 2) dl_880 dl_881 dl_882 dl_883 dl_884 (by decide) (by omega) ?_
    refine y_call (as := [.inl (sc (i + 1)).toInt, .inl (sc (i + 2)).toInt]) dl_885 (by rfl) gcy_Law_117 gim_Mo_write gse_Mo_write ⟨by decide, by decide⟩ (Nat.le_of_ble_eq_true rfl) gsh_83 rfl (gRl_c (gRsc sc (i + 1)) (gRl_c (gRsc sc (i + 2)) gRl_n)) (fun hL hn o1 hg ha hx => c_Mo_write hL hn hg ha hx) (fun hr2 r2 er2 => ?_)
    refine y_cmp er1 er2 dl_888 988 rfl ?_
    exact hk _
  refine gy_ite (fun c => ?_) (fun c25 => ?_)
  · refine y_case dl_32 25 ⟨by decide, by decide⟩ c rfl 893 rfl ?_
    refine y_x dl_893 ?_
    refine y_call (as := []) dl_894 (by rfl) gcy_Law_118 gim_DS_tear gse_DS_tear ⟨by decide, by decide⟩ (Nat.le_of_ble_eq_true rfl) gsh_0 rfl gRl_n (fun hL hn o1 hg ha hx => c_DS_tear hL hn hg ha hx) (fun hr1 r1 er1 => ?_)
    refine y_m dl_897 ?_
    refine y_call (as := []) dl_898 (by rfl) gcy_Law_121 gim_Mo_tear gse_Mo_tear ⟨by decide, by decide⟩ (Nat.le_of_ble_eq_true rfl) gsh_83 rfl gRl_n (fun hL hn o1 hg ha hx => c_Mo_tear hL hn hg ha hx) (fun hr2 r2 er2 => ?_)
    refine y_cmp er1 er2 dl_901 988 rfl ?_
    exact hk _
  refine gy_ite (fun c => ?_) (fun c26 => ?_)
  · refine y_case dl_32 26 ⟨by decide, by decide⟩ c rfl 906 rfl ?_
    refine y_x dl_906 ?_
    refine y_call (as := []) dl_907 (by rfl) gcy_Law_122 gim_DS_judge gse_DS_judge ⟨by decide, by decide⟩ (Nat.le_of_ble_eq_true rfl) gsh_0 rfl gRl_n (fun hL hn o1 hg ha hx => c_DS_judge hL hn hg ha hx) (fun hr1 r1 er1 => ?_)
    refine y_m dl_910 ?_
    refine y_call (as := []) dl_911 (by rfl) gcy_Law_125 gim_Mo_judge gse_Mo_judge ⟨by decide, by decide⟩ (Nat.le_of_ble_eq_true rfl) gsh_83 rfl gRl_n (fun hL hn o1 hg ha hx => c_Mo_judge hL hn hg ha hx) (fun hr2 r2 er2 => ?_)
    refine y_cmp er1 er2 dl_914 988 rfl ?_
    exact hk _
  refine gy_ite (fun c => ?_) (fun c27 => ?_)
  · refine y_case dl_32 27 ⟨by decide, by decide⟩ c rfl 919 rfl ?_
    refine y_x dl_919 ?_
    refine y_scrk (kk := 1) dl_920 dl_921 dl_922 dl_923 dl_924 (by decide) (by omega) ?_
    refine y_call (as := [.inl (sc (i + 1)).toInt]) dl_925 (by rfl) gcy_Law_126 gim_DS_seed gse_DS_seed ⟨by decide, by decide⟩ (Nat.le_of_ble_eq_true rfl) gsh_0 rfl (gRl_c (gRsc sc (i + 1)) gRl_n) (fun hL hn o1 hg ha hx => c_DS_seed hL hn hg ha hx) (fun hr1 r1 er1 => ?_)
    refine y_m dl_928 ?_
    refine y_scrk (kk := 1) dl_929 dl_930 dl_931 dl_932 dl_933 (by decide) (by omega) ?_
    refine y_call (as := [.inl (sc (i + 1)).toInt]) dl_934 (by rfl) gcy_Law_129 gim_Mo_seed gse_Mo_seed ⟨by decide, by decide⟩ (Nat.le_of_ble_eq_true rfl) gsh_83 rfl (gRl_c (gRsc sc (i + 1)) gRl_n) (fun hL hn o1 hg ha hx => c_Mo_seed hL hn hg ha hx) (fun hr2 r2 er2 => ?_)
    refine y_cmp er1 er2 dl_937 988 rfl ?_
    exact hk _
  refine gy_ite (fun c => ?_) (fun c28 => ?_)
  · refine y_case dl_32 28 ⟨by decide, by decide⟩ c rfl 942 rfl ?_
    refine y_x dl_942 ?_
    refine y_scrk (kk := 1) dl_943 dl_944 dl_945 dl_946 dl_947 (by decide) (by omega) ?_
    refine y_call (as := [.inl (sc (i + 1)).toInt]) dl_948 (by rfl) gcy_Law_130 gim_DS_keep gse_DS_keep ⟨by decide, by decide⟩ (Nat.le_of_ble_eq_true rfl) gsh_0 rfl (gRl_c (gRsc sc (i + 1)) gRl_n) (fun hL hn o1 hg ha hx => c_DS_keep hL hn hg ha hx) (fun hr1 r1 er1 => ?_)
    refine y_m dl_951 ?_
    refine y_scrk (kk := 1) dl_952 dl_953 dl_954 dl_955 dl_956 (by decide) (by omega) ?_
    refine y_call (as := [.inl (sc (i + 1)).toInt]) dl_957 (by rfl) gcy_Law_133 gim_Mo_keep gse_Mo_keep ⟨by decide, by decide⟩ (Nat.le_of_ble_eq_true rfl) gsh_83 rfl (gRl_c (gRsc sc (i + 1)) gRl_n) (fun hL hn o1 hg ha hx => c_Mo_keep hL hn hg ha hx) (fun hr2 r2 er2 => ?_)
    refine y_cmp er1 er2 dl_960 988 rfl ?_
    exact hk _
  refine gy_ite (fun c => ?_) (fun c29 => ?_)
  · refine y_case dl_32 29 ⟨by decide, by decide⟩ c rfl 965 rfl ?_
    refine y_x dl_965 ?_
    refine y_scrk (kk := 1) dl_966 dl_967 dl_968 dl_969 dl_970 (by decide) (by omega) ?_
    refine y_call (as := [.inl (sc (i + 1)).toInt]) dl_971 (by rfl) gcy_Law_134 gim_DS_goBack gse_DS_goBack ⟨by decide, by decide⟩ (Nat.le_of_ble_eq_true rfl) gsh_0 rfl (gRl_c (gRsc sc (i + 1)) gRl_n) (fun hL hn o1 hg ha hx => c_DS_goBack hL hn hg ha hx) (fun hr1 r1 er1 => ?_)
    refine y_m dl_974 ?_
    refine y_scrk (kk := 1) dl_975 dl_976 dl_977 dl_978 dl_979 (by decide) (by omega) ?_
    refine y_call (as := [.inl (sc (i + 1)).toInt]) dl_980 (by rfl) gcy_Law_137 gim_Mo_goBack gse_Mo_goBack ⟨by decide, by decide⟩ (Nat.le_of_ble_eq_true rfl) gsh_83 rfl (gRl_c (gRsc sc (i + 1)) gRl_n) (fun hL hn o1 hg ha hx => c_Mo_goBack hL hn hg ha hx) (fun hr2 r2 er2 => ?_)
    refine y_cmp er1 er2 dl_983 988 rfl ?_
    exact hk _
  refine y_dflt dl_32 ?_ 988 rfl (hk h)
  have hg : gand (sc i).toInt 31 < 0 ∨ 29 < gand (sc i).toInt 31 := by omega
  exact hg

theorem w_law {h' : gH} {X : gX} {bs Ln : Nat} {sc : Nat → Int32} (hend : ∀ h, gy (some (h, 1)) (h', 1) X bs Ln sc h 994 0 []) (hend' : ∀ h i, gy (some (h, 1)) (h', 1) X bs Ln sc h 994 i []) : ∀ (n i : Nat) (h : gH), i ≤ Ln → gy (f_law sc Ln n i h) (h', 1) X bs Ln sc h 18 i [] := by
  intro n
  induction n with
  | zero => intro i h _; exact gy_none
  | succ n ih =>
    intro i h hi
    unfold f_law
    intro hx hK H locs ls hS
    have hl := hS.2.2.2
    have hLn := hK.2.2.2.2.1
    have hb : i < 1000000 := by omega
    refine lv_iload_n hK.1.1 hK.1.2.1 dl_18 rfl (lv_at hl 0 rfl) ?_
    refine lv_aload_n hK.1.1 hK.1.2.1 dl_19 rfl (lv_at hl 3 rfl) ?_
    refine va_slen hK.1.1 hK.1.2.1 hK.2.1 hK.2.2.1 hK.2.2.2.1 hS.2.2.1 dl_20 ?_
    refine lv_iconst hK.1.1 hK.1.2.1 dl_21 (v := 5) rfl ?_
    refine lv_isub hK.1.1 hK.1.2.1 dl_22 ?_
    have e5 : Int32.ofNat Ln - 5 = Int32.ofInt ((Ln : Int) - 5) := by
      rw [Int32.ofInt_sub]; rfl
    rw [e5]
    have rl : gR32 ((Ln : Int) - 5) := ⟨by omega, by omega⟩
    have ri : gR32 (i : Int) := ⟨by omega, by omega⟩
    refine lv_icmp_gt hK.1.1 hK.1.2.1 dl_23 (tgt := 994) rfl (fun c => ?_) (fun c => ?_)
    · have c' : (Ln : Int) - 5 < (i : Int) := (glt rl ri).mp c
      rw [if_pos (by omega)] at hx
      exact hend' h i hx hK H locs ls hS
    · have c' : ¬ ((Ln : Int) - 5 < (i : Int)) := fun q => c ((glt rl ri).mpr q)
      rw [if_neg (by omega)] at hx
      refine (y_scr0 (st := []) dl_26 dl_27 dl_28 (by omega) (fun hx hK H locs ls hS => ?_) : gy (f_case sc (f_law sc Ln n (i + 5)) i h) (h', 1) X bs Ln sc h 26 i []) hx hK H locs ls hS
      refine lv_bipush hK.1.1 hK.1.2.1 dl_29 (v := Int32.ofInt 31) (by decide) ?_
      refine lv_iand hK.1.1 hK.1.2.1 dl_31 ?_
      exact w_case (by omega) (fun h => y_next dl_988 dl_991 (ih (i + 5) h (by omega))) hx hK H locs ls hS
